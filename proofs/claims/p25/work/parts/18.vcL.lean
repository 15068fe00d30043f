set_option maxRecDepth 100000 in
set_option maxHeartbeats 4000000 in
theorem clL_low (l : Launch) (G : GT) (σ : Sto) (Q : Int → Sto → Prop) (x0 : Int) (x1 : Int)
    (h : (0 ≤ (andI x0 2147483647)) ∧ (0 < x1) ∧ Q ((andI x0 2147483647) % x1) σ) :
    CLi l G mL_low [vI x0, vI x1] σ Q := by
  show MWi l G mL_low 0 [(0, vI x0), (1, vI x1)] [] σ Q
  refine r_iload_n 0 dL_low_0 rfl rfl ?_
  refine r_ldc (n := 2147483647) dL_low_1 lc_L_8 (by decide) ?_
  refine r_iand dL_low_3 ?_
  refine r_iload_n 1 dL_low_4 rfl rfl ?_
  obtain ⟨b1, h⟩ := h
  obtain ⟨b2, h⟩ := h
  refine r_irem dL_low_5 b1 b2 ?_
  exact r_iret dL_low_6 rfl ⟨_, rfl, h⟩
set_option maxRecDepth 100000 in
set_option maxHeartbeats 4000000 in
theorem clL_size (l : Launch) (G : GT) (σ : Sto) (Q : Int → Sto → Prop) (x0 : Int)
    (h : ((¬ (0 ≤ x0) → (-2147483648 ≤ -x0 ∧ -x0 ≤ 2147483647) ∧ True)) ∧ ∀ y4 : Int, y4 = (if 0 ≤ x0 then x0 else (-x0)) → Q y4 σ) :
    CLi l G mL_size [vI x0] σ Q := by
  show MWi l G mL_size 0 [(0, vI x0)] [] σ Q
  refine r_iload_n 0 dL_size_0 rfl rfl ?_
  obtain ⟨q3, h⟩ := h
  obtain ⟨y4, ey4⟩ : ∃ z : Int, z = (if 0 ≤ x0 then x0 else (-x0)) := ⟨_, rfl⟩
  replace h := h y4 ey4
  have hj5 : MWi l G mL_size 10 [] [vI y4] σ Q := by
    exact r_iret dL_size_10 rfl ⟨_, rfl, h⟩
  replace h := q3
  refine r_if_ge (tgt := 9) dL_size_1 (by decide) (fun (c1 : 0 ≤ x0) => ?_) (fun (c1 : ¬ (0 ≤ x0)) => ?_)
  · refine r_iload_n 0 dL_size_9 rfl rfl ?_
    refine MWF.sub [] rfl ?_
    have q6 : y4 = x0 := by rw [ey4, if_pos c1]
    rw [q6] at hj5
    exact hj5
  · replace h := h c1
    refine r_iload_n 0 dL_size_4 rfl rfl ?_
    obtain ⟨b2, h⟩ := h
    refine r_ineg dL_size_5 b2 ?_
    refine r_goto (tgt := 10) dL_size_6 (by decide) ?_
    refine MWF.sub [] rfl ?_
    have q7 : y4 = (-x0) := by rw [ey4, if_neg c1]
    rw [q7] at hj5
    exact hj5
set_option maxRecDepth 100000 in
set_option maxHeartbeats 4000000 in
theorem clL_far (l : Launch) (G : GT) (σ : Sto) (Q : Int → Sto → Prop) (x1 : Int) (x2 : Int)
    (h : (-2147483648 ≤ 2 * x1 ∧ 2 * x1 ≤ 2147483647) ∧ (0 ≤ (2 * x1) ∧ (2 * x1) < 64) ∧ (-2147483648 ≤ 2 * x2 ∧ 2 * x2 ≤ 2147483647) ∧ (0 ≤ (2 * x2) ∧ (2 * x2) < 64) ∧ (-2147483648 ≤ (σ 56 (2 * x1).toNat) - (σ 56 (2 * x2).toNat) ∧ (σ 56 (2 * x1).toNat) - (σ 56 (2 * x2).toNat) ≤ 2147483647) ∧ CLi l G mL_size [vI ((σ 56 (2 * x1).toNat) - (σ 56 (2 * x2).toNat))] σ (fun r6 s7 => (-2147483648 ≤ (2 * x1) + 1 ∧ (2 * x1) + 1 ≤ 2147483647) ∧ (0 ≤ ((2 * x1) + 1) ∧ ((2 * x1) + 1) < 64) ∧ (-2147483648 ≤ (2 * x2) + 1 ∧ (2 * x2) + 1 ≤ 2147483647) ∧ (0 ≤ ((2 * x2) + 1) ∧ ((2 * x2) + 1) < 64) ∧ (-2147483648 ≤ (s7 56 ((2 * x1) + 1).toNat) - (s7 56 ((2 * x2) + 1).toNat) ∧ (s7 56 ((2 * x1) + 1).toNat) - (s7 56 ((2 * x2) + 1).toNat) ≤ 2147483647) ∧ CLi l G mL_size [vI ((s7 56 ((2 * x1) + 1).toNat) - (s7 56 ((2 * x2) + 1).toNat))] s7 (fun r13 s14 => (-2147483648 ≤ r6 + r13 ∧ r6 + r13 ≤ 2147483647) ∧ Q (r6 + r13) s14))) :
    CLi l G mL_far [vR 56, vI x1, vI x2] σ Q := by
  show MWi l G mL_far 0 [(0, vR 56), (1, vI x1), (2, vI x2)] [] σ Q
  refine r_aload_n 0 dL_far_0 rfl rfl ?_
  refine r_iconst dL_far_1 (by decide) ?_
  refine r_iload_n 1 dL_far_2 rfl rfl ?_
  obtain ⟨b1, h⟩ := h
  refine r_imul dL_far_3 b1 ?_
  obtain ⟨b2, h⟩ := h
  refine r_iald dL_far_4 sh_56 b2.1 b2.2 ?_
  refine r_aload_n 0 dL_far_5 rfl rfl ?_
  refine r_iconst dL_far_6 (by decide) ?_
  refine r_iload_n 2 dL_far_7 rfl rfl ?_
  obtain ⟨b3, h⟩ := h
  refine r_imul dL_far_8 b3 ?_
  obtain ⟨b4, h⟩ := h
  refine r_iald dL_far_9 sh_56 b4.1 b4.2 ?_
  obtain ⟨b5, h⟩ := h
  refine r_isub dL_far_10 b5 ?_
  refine r_callS [vI ((σ 56 (2 * x1).toNat) - (σ 56 (2 * x2).toNat))] [] dL_far_11 okL_size ssL_size lm_L_9 rfl rfl ⟨Nat.le_of_ble_eq_true rfl, Nat.le_of_ble_eq_true rfl, Nat.le_of_ble_eq_true rfl, Nat.le_of_ble_eq_true rfl⟩ h ?_
  rintro _ s7 ⟨r6, rfl, h⟩
  refine r_aload_n 0 dL_far_14 rfl rfl ?_
  refine r_iconst dL_far_15 (by decide) ?_
  refine r_iload_n 1 dL_far_16 rfl rfl ?_
  refine r_imul dL_far_17 b1 ?_
  refine r_iconst dL_far_18 (by decide) ?_
  obtain ⟨b8, h⟩ := h
  refine r_iadd dL_far_19 b8 ?_
  obtain ⟨b9, h⟩ := h
  refine r_iald dL_far_20 sh_56 b9.1 b9.2 ?_
  refine r_aload_n 0 dL_far_21 rfl rfl ?_
  refine r_iconst dL_far_22 (by decide) ?_
  refine r_iload_n 2 dL_far_23 rfl rfl ?_
  refine r_imul dL_far_24 b3 ?_
  refine r_iconst dL_far_25 (by decide) ?_
  obtain ⟨b10, h⟩ := h
  refine r_iadd dL_far_26 b10 ?_
  obtain ⟨b11, h⟩ := h
  refine r_iald dL_far_27 sh_56 b11.1 b11.2 ?_
  obtain ⟨b12, h⟩ := h
  refine r_isub dL_far_28 b12 ?_
  refine r_callS [vI ((s7 56 ((2 * x1) + 1).toNat) - (s7 56 ((2 * x2) + 1).toNat))] [vI r6] dL_far_29 okL_size ssL_size lm_L_9 rfl rfl ⟨Nat.le_of_ble_eq_true rfl, Nat.le_of_ble_eq_true rfl, Nat.le_of_ble_eq_true rfl, Nat.le_of_ble_eq_true rfl⟩ h ?_
  rintro _ s14 ⟨r13, rfl, h⟩
  obtain ⟨b15, h⟩ := h
  refine r_iadd dL_far_32 b15 ?_
  exact r_iret dL_far_33 rfl ⟨_, rfl, h⟩
set_option maxRecDepth 100000 in
set_option maxHeartbeats 4000000 in
theorem clL_at (l : Launch) (G : GT) (σ : Sto) (Q : Int → Sto → Prop) (x1 : Int) (x2 : Int)
    (h : CLi l G mX7_stop [vR 0, vI x1, vI x2, vI 0] σ (fun r1 s2 => (-2147483648 ≤ 2 * r1 ∧ 2 * r1 ≤ 2147483647) ∧ CLi l G mX7_stop [vR 0, vI x1, vI x2, vI 1] s2 (fun r4 s5 => (-2147483648 ≤ (2 * r1) + r4 ∧ (2 * r1) + r4 ≤ 2147483647) ∧ Q ((2 * r1) + r4) s5))) :
    CLi l G mL_at [vR 0, vI x1, vI x2] σ Q := by
  show MWi l G mL_at 0 [(0, vR 0), (1, vI x1), (2, vI x2)] [] σ Q
  refine r_iconst dL_at_0 (by decide) ?_
  refine r_aload_n 0 dL_at_1 rfl rfl ?_
  refine r_iload_n 1 dL_at_2 rfl rfl ?_
  refine r_iload_n 2 dL_at_3 rfl rfl ?_
  refine r_iconst dL_at_4 (by decide) ?_
  refine r_callV [vI x1, vI x2, vI 0] [vI 2] dL_at_5 okX7_stop ivX7_stop seX7_stop lm_L_15 rfl rfl sh_0 rfl ⟨Nat.le_of_ble_eq_true rfl, Nat.le_of_ble_eq_true rfl, Nat.le_of_ble_eq_true rfl, Nat.le_of_ble_eq_true rfl⟩ h ?_
  rintro _ s2 ⟨r1, rfl, h⟩
  obtain ⟨b3, h⟩ := h
  refine r_imul dL_at_8 b3 ?_
  refine r_aload_n 0 dL_at_9 rfl rfl ?_
  refine r_iload_n 1 dL_at_10 rfl rfl ?_
  refine r_iload_n 2 dL_at_11 rfl rfl ?_
  refine r_iconst dL_at_12 (by decide) ?_
  refine r_callV [vI x1, vI x2, vI 1] [vI (2 * r1)] dL_at_13 okX7_stop ivX7_stop seX7_stop lm_L_15 rfl rfl sh_0 rfl ⟨Nat.le_of_ble_eq_true rfl, Nat.le_of_ble_eq_true rfl, Nat.le_of_ble_eq_true rfl, Nat.le_of_ble_eq_true rfl⟩ h ?_
  rintro _ s5 ⟨r4, rfl, h⟩
  obtain ⟨b6, h⟩ := h
  refine r_iadd dL_at_16 b6 ?_
  exact r_iret dL_at_17 rfl ⟨_, rfl, h⟩
set_option maxRecDepth 100000 in
set_option maxHeartbeats 4000000 in
theorem clL_route (l : Launch) (G : GT) (σ : Sto) (Q : Int → Sto → Prop) (x2 : Int)
    (h : CLi l G mX7_vehicle [vR 0, vI x2, vI 3] σ (fun r1 s2 => CLi l G mX7_count [vR 0, vI 4] s2 (fun r3 s4 => (r1 = 0 → MWi l G mL_route 53 [(0, vR 0), (1, vR 56), (2, vI x2), (3, vI r1), (4, vI r3)] [vI 0] s4 Q) ∧ (¬ (r1 = 0) → (-2147483648 ≤ 24 + x2 ∧ 24 + x2 ≤ 2147483647) ∧ CLi l G mL_at [vR 0, vI x2, vI 0] s4 (fun r7 s8 => CLi l G mL_far [vR 56, vI (24 + x2), vI r7] s8 (fun r9 s10 => (-2147483648 ≤ r1 - 1 ∧ r1 - 1 ≤ 2147483647) ∧ CLi l G mL_at [vR 0, vI x2, vI (r1 - 1)] s10 (fun r12 s13 => CLi l G mL_far [vR 56, vI (24 + x2), vI r12] s13 (fun r14 s15 => (-2147483648 ≤ r9 + r14 ∧ r9 + r14 ≤ 2147483647) ∧ MWi l G mL_route 53 [(0, vR 0), (1, vR 56), (2, vI x2), (3, vI r1), (4, vI r3)] [vI (r9 + r14)] s15 Q)))))))) :
    CLi l G mL_route [vR 0, vR 56, vI x2] σ Q := by
  show MWi l G mL_route 0 [(0, vR 0), (1, vR 56), (2, vI x2)] [] σ Q
  refine r_aload_n 0 dL_route_0 rfl rfl ?_
  refine r_iload_n 2 dL_route_1 rfl rfl ?_
  refine r_iconst dL_route_2 (by decide) ?_
  refine r_callV [vI x2, vI 3] [] dL_route_3 okX7_vehicle ivX7_vehicle seX7_vehicle lm_L_21 rfl rfl sh_0 rfl ⟨Nat.le_of_ble_eq_true rfl, Nat.le_of_ble_eq_true rfl, Nat.le_of_ble_eq_true rfl, Nat.le_of_ble_eq_true rfl⟩ h ?_
  rintro _ s2 ⟨r1, rfl, h⟩
  refine r_istore_n dL_route_6 rfl (by decide) rfl ?_
  refine r_aload_n 1 dL_route_7 rfl rfl ?_
  refine r_iconst dL_route_8 (by decide) ?_
  refine r_callV [vI 4] [] dL_route_9 okX7_count ivX7_count seX7_count lm_L_25 rfl rfl sh_0 rfl ⟨Nat.le_of_ble_eq_true rfl, Nat.le_of_ble_eq_true rfl, Nat.le_of_ble_eq_true rfl, Nat.le_of_ble_eq_true rfl⟩ h ?_
  rintro _ s4 ⟨r3, rfl, h⟩
  refine r_istore dL_route_12 (by decide) rfl ?_
  refine r_iload_n 1 dL_route_14 rfl rfl ?_
  refine r_if_ne (tgt := 22) dL_route_15 (by decide) (fun (c5 : r1 = 0) => ?_) (fun (c5 : ¬ (r1 = 0)) => ?_)
  · replace h := h.1 c5
    refine r_iconst dL_route_18 (by decide) ?_
    refine r_goto (tgt := 53) dL_route_19 (by decide) ?_
    refine MWF.sub [2, 3, 4, 1, 0] rfl ?_
    exact h
  · replace h := h.2 c5
    refine r_aload_n 3 dL_route_22 rfl rfl ?_
    refine r_bipush dL_route_23 (by decide) (by decide) ?_
    refine r_iload_n 4 dL_route_25 rfl rfl ?_
    obtain ⟨b6, h⟩ := h
    refine r_iadd dL_route_26 b6 ?_
    refine r_aload_n 2 dL_route_27 rfl rfl ?_
    refine r_iload_n 4 dL_route_28 rfl rfl ?_
    refine r_iconst dL_route_29 (by decide) ?_
    refine r_callS [vR 0, vI x2, vI 0] [vI (24 + x2), vR 56] dL_route_30 okL_at ssL_at lm_L_28 rfl rfl ⟨Nat.le_of_ble_eq_true rfl, Nat.le_of_ble_eq_true rfl, Nat.le_of_ble_eq_true rfl, Nat.le_of_ble_eq_true rfl⟩ h ?_
    rintro _ s8 ⟨r7, rfl, h⟩
    refine r_callS [vR 56, vI (24 + x2), vI r7] [] dL_route_33 okL_far ssL_far lm_L_32 rfl rfl ⟨Nat.le_of_ble_eq_true rfl, Nat.le_of_ble_eq_true rfl, Nat.le_of_ble_eq_true rfl, Nat.le_of_ble_eq_true rfl⟩ h ?_
    rintro _ s10 ⟨r9, rfl, h⟩
    refine r_aload_n 3 dL_route_36 rfl rfl ?_
    refine r_bipush dL_route_37 (by decide) (by decide) ?_
    refine r_iload_n 4 dL_route_39 rfl rfl ?_
    refine r_iadd dL_route_40 b6 ?_
    refine r_aload_n 2 dL_route_41 rfl rfl ?_
    refine r_iload_n 4 dL_route_42 rfl rfl ?_
    refine r_iload_n 1 dL_route_43 rfl rfl ?_
    refine r_iconst dL_route_44 (by decide) ?_
    obtain ⟨b11, h⟩ := h
    refine r_isub dL_route_45 b11 ?_
    refine r_callS [vR 0, vI x2, vI (r1 - 1)] [vI (24 + x2), vR 56, vI r9] dL_route_46 okL_at ssL_at lm_L_28 rfl rfl ⟨Nat.le_of_ble_eq_true rfl, Nat.le_of_ble_eq_true rfl, Nat.le_of_ble_eq_true rfl, Nat.le_of_ble_eq_true rfl⟩ h ?_
    rintro _ s13 ⟨r12, rfl, h⟩
    refine r_callS [vR 56, vI (24 + x2), vI r12] [vI r9] dL_route_49 okL_far ssL_far lm_L_32 rfl rfl ⟨Nat.le_of_ble_eq_true rfl, Nat.le_of_ble_eq_true rfl, Nat.le_of_ble_eq_true rfl, Nat.le_of_ble_eq_true rfl⟩ h ?_
    rintro _ s15 ⟨r14, rfl, h⟩
    obtain ⟨b16, h⟩ := h
    refine r_iadd dL_route_52 b16 ?_
    refine MWF.sub [2, 3, 4, 1, 0] rfl ?_
    exact h
set_option maxRecDepth 100000 in
set_option maxHeartbeats 4000000 in
theorem vcL_route_53 (l : Launch) (G : GT) (σ : Sto) (Q : Int → Sto → Prop) (x2 : Int) (x3 : Int) (x4 : Int) (z0 : Int)
    (h : MWi l G mL_route 67 [(0, vR 0), (1, vR 56), (2, vI x2), (3, vI x3), (4, vI x4), (5, vI z0), (6, vI 0), (7, vI 0), (8, vI 0), (9, vI 0)] [] σ Q) :
    MWi l G mL_route 53 [(0, vR 0), (1, vR 56), (2, vI x2), (3, vI x3), (4, vI x4)] [vI z0] σ Q := by
  refine r_istore dL_route_53 (by decide) rfl ?_
  refine r_iconst dL_route_55 (by decide) ?_
  refine r_istore dL_route_56 (by decide) rfl ?_
  refine r_iconst dL_route_58 (by decide) ?_
  refine r_istore dL_route_59 (by decide) rfl ?_
  refine r_iconst dL_route_61 (by decide) ?_
  refine r_istore dL_route_62 (by decide) rfl ?_
  refine r_iconst dL_route_64 (by decide) ?_
  refine r_istore dL_route_65 (by decide) rfl ?_
  refine MWF.sub [5, 6, 7, 8, 9, 4, 3, 2, 1, 0] rfl ?_
  exact h
set_option maxRecDepth 100000 in
set_option maxHeartbeats 4000000 in
theorem vcL_route_67 (l : Launch) (G : GT) (σ : Sto) (Q : Int → Sto → Prop) (x2 : Int) (x3 : Int) (x4 : Int) (x5 : Int) (x6 : Int) (x7 : Int) (x8 : Int) (x9 : Int)
    (h : (x3 ≤ x9 → (x3 = 0 → CLi l G mX7_depotTime [vR 0, vI x2, vI 0] σ (fun r19 s20 => (r19 = (-1007) → CLi l G mX7_depotTime [vR 0, vI x2, vI 1] s20 (fun r22 s23 => (r22 = (-1007) → MWi l G mL_route 866 [(0, vR 0), (2, vI x2), (3, vI x3), (5, vI x5), (6, vI x6), (7, vI x7), (8, vI x8)] [vI 1] s23 Q) ∧ (¬ (r22 = (-1007)) → MWi l G mL_route 866 [(0, vR 0), (2, vI x2), (3, vI x3), (5, vI x5), (6, vI x6), (7, vI x7), (8, vI x8)] [vI 0] s23 Q))) ∧ (¬ (r19 = (-1007)) → MWi l G mL_route 866 [(0, vR 0), (2, vI x2), (3, vI x3), (5, vI x5), (6, vI x6), (7, vI x7), (8, vI x8)] [vI 0] s20 Q))) ∧ (¬ (x3 = 0) → CLi l G mX7_depotTime [vR 0, vI x2, vI 0] σ (fun r25 s26 => CLi l G mX7_stop [vR 0, vI x2, vI 0, vI 3] s26 (fun r27 s28 => (-2147483648 ≤ 24 + x2 ∧ 24 + x2 ≤ 2147483647) ∧ CLi l G mL_at [vR 0, vI x2, vI 0] s28 (fun r30 s31 => CLi l G mL_far [vR 56, vI (24 + x2), vI r30] s31 (fun r32 s33 => (-2147483648 ≤ r27 - r32 ∧ r27 - r32 ≤ 2147483647) ∧ (r25 = (r27 - r32) → CLi l G mX7_depotTime [vR 0, vI x2, vI 1] s33 (fun r36 s37 => (-2147483648 ≤ x3 - 1 ∧ x3 - 1 ≤ 2147483647) ∧ CLi l G mX7_stop [vR 0, vI x2, vI (x3 - 1), vI 2] s37 (fun r39 s40 => (-2147483648 ≤ r39 + x4 ∧ r39 + x4 ≤ 2147483647) ∧ CLi l G mL_at [vR 0, vI x2, vI (x3 - 1)] s40 (fun r42 s43 => CLi l G mL_far [vR 56, vI (24 + x2), vI r42] s43 (fun r44 s45 => (-2147483648 ≤ (r39 + x4) + r44 ∧ (r39 + x4) + r44 ≤ 2147483647) ∧ (r36 = ((r39 + x4) + r44) → CLi l G mX7_depotTime [vR 0, vI x2, vI 1] s45 (fun r48 s49 => CLi l G mX7_vehicle [vR 0, vI x2, vI 2] s49 (fun r50 s51 => (r50 < r48 → MWi l G mL_route 866 [(0, vR 0), (2, vI x2), (3, vI x3), (5, vI x5), (6, vI x6), (7, vI x7), (8, vI x8)] [vI 0] s51 Q) ∧ (¬ (r50 < r48) → CLi l G mX7_depotTime [vR 0, vI x2, vI 0] s51 (fun r53 s54 => CLi l G mX7_vehicle [vR 0, vI x2, vI 1] s54 (fun r55 s56 => (r53 < r55 → MWi l G mL_route 866 [(0, vR 0), (2, vI x2), (3, vI x3), (5, vI x5), (6, vI x6), (7, vI x7), (8, vI x8)] [vI 0] s56 Q) ∧ (¬ (r53 < r55) → MWi l G mL_route 866 [(0, vR 0), (2, vI x2), (3, vI x3), (5, vI x5), (6, vI x6), (7, vI x7), (8, vI x8)] [vI 1] s56 Q))))))) ∧ (¬ (r36 = ((r39 + x4) + r44)) → MWi l G mL_route 866 [(0, vR 0), (2, vI x2), (3, vI x3), (5, vI x5), (6, vI x6), (7, vI x7), (8, vI x8)] [vI 0] s45 Q)))))) ∧ (¬ (r25 = (r27 - r32)) → MWi l G mL_route 866 [(0, vR 0), (2, vI x2), (3, vI x3), (5, vI x5), (6, vI x6), (7, vI x7), (8, vI x8)] [vI 0] s33 Q))))))) ∧ (¬ (x3 ≤ x9) → CLi l G mX7_stop [vR 0, vI x2, vI x9, vI 0] σ (fun r58 s59 => CLi l G mX7_stop [vR 0, vI x2, vI x9, vI 1] s59 (fun r60 s61 => ∀ y63 : Int, y63 = (if r60 = 1 then 1 else 0) → CLi l G mL_at [vR 0, vI x2, vI x9] s61 (fun r67 s68 => CLi l G mX7_stop [vR 0, vI x2, vI x9, vI 2] s68 (fun r69 s70 => CLi l G mX7_stop [vR 0, vI x2, vI x9, vI 3] s70 (fun r71 s72 => (x9 = 0 → CLi l G mX7_vehicle [vR 0, vI x2, vI 1] s72 (fun r74 s75 => (-2147483648 ≤ 24 + x2 ∧ 24 + x2 ≤ 2147483647) ∧ CLi l G mL_far [vR 56, vI (24 + x2), vI r67] s75 (fun r77 s78 => (-2147483648 ≤ r74 + r77 ∧ r74 + r77 ≤ 2147483647) ∧ MWi l G mL_route 185 [(0, vR 0), (1, vR 56), (2, vI x2), (3, vI x3), (4, vI x4), (5, vI x5), (6, vI x6), (7, vI x7), (8, vI x8), (9, vI x9), (10, vI r58), (11, vI y63), (12, vI r67), (13, vI r69), (14, vI r71)] [vI (r74 + r77)] s78 Q))) ∧ (¬ (x9 = 0) → (-2147483648 ≤ x9 - 1 ∧ x9 - 1 ≤ 2147483647) ∧ CLi l G mX7_stop [vR 0, vI x2, vI (x9 - 1), vI 2] s72 (fun r81 s82 => (-2147483648 ≤ r81 + x4 ∧ r81 + x4 ≤ 2147483647) ∧ CLi l G mL_at [vR 0, vI x2, vI (x9 - 1)] s82 (fun r84 s85 => CLi l G mL_far [vR 56, vI r84, vI r67] s85 (fun r86 s87 => (-2147483648 ≤ (r81 + x4) + r86 ∧ (r81 + x4) + r86 ≤ 2147483647) ∧ MWi l G mL_route 185 [(0, vR 0), (1, vR 56), (2, vI x2), (3, vI x3), (4, vI x4), (5, vI x5), (6, vI x6), (7, vI x7), (8, vI x8), (9, vI x9), (10, vI r58), (11, vI y63), (12, vI r67), (13, vI r69), (14, vI r71)] [vI ((r81 + x4) + r86)] s87 Q))))))))))) :
    MWi l G mL_route 67 [(0, vR 0), (1, vR 56), (2, vI x2), (3, vI x3), (4, vI x4), (5, vI x5), (6, vI x6), (7, vI x7), (8, vI x8), (9, vI x9)] [] σ Q := by
  refine r_iload 9 dL_route_67 rfl ?_
  refine r_iload_n 3 dL_route_69 rfl rfl ?_
  refine r_icmp_ge (tgt := 726) dL_route_70 (by decide) (fun (c17 : x3 ≤ x9) => ?_) (fun (c17 : ¬ (x3 ≤ x9)) => ?_)
  · replace h := h.1 c17
    refine r_iload_n 3 dL_route_726 rfl rfl ?_
    refine r_if_ne (tgt := 762) dL_route_727 (by decide) (fun (c18 : x3 = 0) => ?_) (fun (c18 : ¬ (x3 = 0)) => ?_)
    · replace h := h.1 c18
      refine r_aload_n 0 dL_route_730 rfl rfl ?_
      refine r_iload_n 2 dL_route_731 rfl rfl ?_
      refine r_iconst dL_route_732 (by decide) ?_
      refine r_callV [vI x2, vI 0] [] dL_route_733 okX7_depotTime ivX7_depotTime seX7_depotTime lm_L_43 rfl rfl sh_0 rfl ⟨Nat.le_of_ble_eq_true rfl, Nat.le_of_ble_eq_true rfl, Nat.le_of_ble_eq_true rfl, Nat.le_of_ble_eq_true rfl⟩ h ?_
      rintro _ s20 ⟨r19, rfl, h⟩
      refine r_sipush dL_route_736 (by decide) (by decide) ?_
      refine r_icmp_ne (tgt := 758) dL_route_739 (by decide) (fun (c21 : r19 = (-1007)) => ?_) (fun (c21 : ¬ (r19 = (-1007))) => ?_)
      · replace h := h.1 c21
        refine r_aload_n 0 dL_route_742 rfl rfl ?_
        refine r_iload_n 2 dL_route_743 rfl rfl ?_
        refine r_iconst dL_route_744 (by decide) ?_
        refine r_callV [vI x2, vI 1] [] dL_route_745 okX7_depotTime ivX7_depotTime seX7_depotTime lm_L_43 rfl rfl sh_0 rfl ⟨Nat.le_of_ble_eq_true rfl, Nat.le_of_ble_eq_true rfl, Nat.le_of_ble_eq_true rfl, Nat.le_of_ble_eq_true rfl⟩ h ?_
        rintro _ s23 ⟨r22, rfl, h⟩
        refine r_sipush dL_route_748 (by decide) (by decide) ?_
        refine r_icmp_ne (tgt := 758) dL_route_751 (by decide) (fun (c24 : r22 = (-1007)) => ?_) (fun (c24 : ¬ (r22 = (-1007))) => ?_)
        · replace h := h.1 c24
          refine r_iconst dL_route_754 (by decide) ?_
          refine r_goto (tgt := 866) dL_route_755 (by decide) ?_
          refine MWF.sub [0, 2, 3, 5, 6, 7, 8] rfl ?_
          exact h
        · replace h := h.2 c24
          refine r_iconst dL_route_758 (by decide) ?_
          refine r_goto (tgt := 866) dL_route_759 (by decide) ?_
          refine MWF.sub [0, 2, 3, 5, 6, 7, 8] rfl ?_
          exact h
      · replace h := h.2 c21
        refine r_iconst dL_route_758 (by decide) ?_
        refine r_goto (tgt := 866) dL_route_759 (by decide) ?_
        refine MWF.sub [0, 2, 3, 5, 6, 7, 8] rfl ?_
        exact h
    · replace h := h.2 c18
      refine r_aload_n 0 dL_route_762 rfl rfl ?_
      refine r_iload_n 2 dL_route_763 rfl rfl ?_
      refine r_iconst dL_route_764 (by decide) ?_
      refine r_callV [vI x2, vI 0] [] dL_route_765 okX7_depotTime ivX7_depotTime seX7_depotTime lm_L_43 rfl rfl sh_0 rfl ⟨Nat.le_of_ble_eq_true rfl, Nat.le_of_ble_eq_true rfl, Nat.le_of_ble_eq_true rfl, Nat.le_of_ble_eq_true rfl⟩ h ?_
      rintro _ s26 ⟨r25, rfl, h⟩
      refine r_aload_n 0 dL_route_768 rfl rfl ?_
      refine r_iload_n 2 dL_route_769 rfl rfl ?_
      refine r_iconst dL_route_770 (by decide) ?_
      refine r_iconst dL_route_771 (by decide) ?_
      refine r_callV [vI x2, vI 0, vI 3] [vI r25] dL_route_772 okX7_stop ivX7_stop seX7_stop lm_L_15 rfl rfl sh_0 rfl ⟨Nat.le_of_ble_eq_true rfl, Nat.le_of_ble_eq_true rfl, Nat.le_of_ble_eq_true rfl, Nat.le_of_ble_eq_true rfl⟩ h ?_
      rintro _ s28 ⟨r27, rfl, h⟩
      refine r_aload_n 1 dL_route_775 rfl rfl ?_
      refine r_bipush dL_route_776 (by decide) (by decide) ?_
      refine r_iload_n 2 dL_route_778 rfl rfl ?_
      obtain ⟨b29, h⟩ := h
      refine r_iadd dL_route_779 b29 ?_
      refine r_aload_n 0 dL_route_780 rfl rfl ?_
      refine r_iload_n 2 dL_route_781 rfl rfl ?_
      refine r_iconst dL_route_782 (by decide) ?_
      refine r_callS [vR 0, vI x2, vI 0] [vI (24 + x2), vR 56, vI r27, vI r25] dL_route_783 okL_at ssL_at lm_L_28 rfl rfl ⟨Nat.le_of_ble_eq_true rfl, Nat.le_of_ble_eq_true rfl, Nat.le_of_ble_eq_true rfl, Nat.le_of_ble_eq_true rfl⟩ h ?_
      rintro _ s31 ⟨r30, rfl, h⟩
      refine r_callS [vR 56, vI (24 + x2), vI r30] [vI r27, vI r25] dL_route_786 okL_far ssL_far lm_L_32 rfl rfl ⟨Nat.le_of_ble_eq_true rfl, Nat.le_of_ble_eq_true rfl, Nat.le_of_ble_eq_true rfl, Nat.le_of_ble_eq_true rfl⟩ h ?_
      rintro _ s33 ⟨r32, rfl, h⟩
      obtain ⟨b34, h⟩ := h
      refine r_isub dL_route_789 b34 ?_
      refine r_icmp_ne (tgt := 865) dL_route_790 (by decide) (fun (c35 : r25 = (r27 - r32)) => ?_) (fun (c35 : ¬ (r25 = (r27 - r32))) => ?_)
      · replace h := h.1 c35
        refine r_aload_n 0 dL_route_793 rfl rfl ?_
        refine r_iload_n 2 dL_route_794 rfl rfl ?_
        refine r_iconst dL_route_795 (by decide) ?_
        refine r_callV [vI x2, vI 1] [] dL_route_796 okX7_depotTime ivX7_depotTime seX7_depotTime lm_L_43 rfl rfl sh_0 rfl ⟨Nat.le_of_ble_eq_true rfl, Nat.le_of_ble_eq_true rfl, Nat.le_of_ble_eq_true rfl, Nat.le_of_ble_eq_true rfl⟩ h ?_
        rintro _ s37 ⟨r36, rfl, h⟩
        refine r_aload_n 0 dL_route_799 rfl rfl ?_
        refine r_iload_n 2 dL_route_800 rfl rfl ?_
        refine r_iload_n 3 dL_route_801 rfl rfl ?_
        refine r_iconst dL_route_802 (by decide) ?_
        obtain ⟨b38, h⟩ := h
        refine r_isub dL_route_803 b38 ?_
        refine r_iconst dL_route_804 (by decide) ?_
        refine r_callV [vI x2, vI (x3 - 1), vI 2] [vI r36] dL_route_805 okX7_stop ivX7_stop seX7_stop lm_L_15 rfl rfl sh_0 rfl ⟨Nat.le_of_ble_eq_true rfl, Nat.le_of_ble_eq_true rfl, Nat.le_of_ble_eq_true rfl, Nat.le_of_ble_eq_true rfl⟩ h ?_
        rintro _ s40 ⟨r39, rfl, h⟩
        refine r_iload 4 dL_route_808 rfl ?_
        obtain ⟨b41, h⟩ := h
        refine r_iadd dL_route_810 b41 ?_
        refine r_aload_n 1 dL_route_811 rfl rfl ?_
        refine r_bipush dL_route_812 (by decide) (by decide) ?_
        refine r_iload_n 2 dL_route_814 rfl rfl ?_
        refine r_iadd dL_route_815 b29 ?_
        refine r_aload_n 0 dL_route_816 rfl rfl ?_
        refine r_iload_n 2 dL_route_817 rfl rfl ?_
        refine r_iload_n 3 dL_route_818 rfl rfl ?_
        refine r_iconst dL_route_819 (by decide) ?_
        refine r_isub dL_route_820 b38 ?_
        refine r_callS [vR 0, vI x2, vI (x3 - 1)] [vI (24 + x2), vR 56, vI (r39 + x4), vI r36] dL_route_821 okL_at ssL_at lm_L_28 rfl rfl ⟨Nat.le_of_ble_eq_true rfl, Nat.le_of_ble_eq_true rfl, Nat.le_of_ble_eq_true rfl, Nat.le_of_ble_eq_true rfl⟩ h ?_
        rintro _ s43 ⟨r42, rfl, h⟩
        refine r_callS [vR 56, vI (24 + x2), vI r42] [vI (r39 + x4), vI r36] dL_route_824 okL_far ssL_far lm_L_32 rfl rfl ⟨Nat.le_of_ble_eq_true rfl, Nat.le_of_ble_eq_true rfl, Nat.le_of_ble_eq_true rfl, Nat.le_of_ble_eq_true rfl⟩ h ?_
        rintro _ s45 ⟨r44, rfl, h⟩
        obtain ⟨b46, h⟩ := h
        refine r_iadd dL_route_827 b46 ?_
        refine r_icmp_ne (tgt := 865) dL_route_828 (by decide) (fun (c47 : r36 = ((r39 + x4) + r44)) => ?_) (fun (c47 : ¬ (r36 = ((r39 + x4) + r44))) => ?_)
        · replace h := h.1 c47
          refine r_aload_n 0 dL_route_831 rfl rfl ?_
          refine r_iload_n 2 dL_route_832 rfl rfl ?_
          refine r_iconst dL_route_833 (by decide) ?_
          refine r_callV [vI x2, vI 1] [] dL_route_834 okX7_depotTime ivX7_depotTime seX7_depotTime lm_L_43 rfl rfl sh_0 rfl ⟨Nat.le_of_ble_eq_true rfl, Nat.le_of_ble_eq_true rfl, Nat.le_of_ble_eq_true rfl, Nat.le_of_ble_eq_true rfl⟩ h ?_
          rintro _ s49 ⟨r48, rfl, h⟩
          refine r_aload_n 0 dL_route_837 rfl rfl ?_
          refine r_iload_n 2 dL_route_838 rfl rfl ?_
          refine r_iconst dL_route_839 (by decide) ?_
          refine r_callV [vI x2, vI 2] [vI r48] dL_route_840 okX7_vehicle ivX7_vehicle seX7_vehicle lm_L_21 rfl rfl sh_0 rfl ⟨Nat.le_of_ble_eq_true rfl, Nat.le_of_ble_eq_true rfl, Nat.le_of_ble_eq_true rfl, Nat.le_of_ble_eq_true rfl⟩ h ?_
          rintro _ s51 ⟨r50, rfl, h⟩
          refine r_icmp_gt (tgt := 865) dL_route_843 (by decide) (fun (c52 : r50 < r48) => ?_) (fun (c52 : ¬ (r50 < r48)) => ?_)
          · replace h := h.1 c52
            refine r_iconst dL_route_865 (by decide) ?_
            refine MWF.sub [0, 2, 3, 5, 6, 7, 8] rfl ?_
            exact h
          · replace h := h.2 c52
            refine r_aload_n 0 dL_route_846 rfl rfl ?_
            refine r_iload_n 2 dL_route_847 rfl rfl ?_
            refine r_iconst dL_route_848 (by decide) ?_
            refine r_callV [vI x2, vI 0] [] dL_route_849 okX7_depotTime ivX7_depotTime seX7_depotTime lm_L_43 rfl rfl sh_0 rfl ⟨Nat.le_of_ble_eq_true rfl, Nat.le_of_ble_eq_true rfl, Nat.le_of_ble_eq_true rfl, Nat.le_of_ble_eq_true rfl⟩ h ?_
            rintro _ s54 ⟨r53, rfl, h⟩
            refine r_aload_n 0 dL_route_852 rfl rfl ?_
            refine r_iload_n 2 dL_route_853 rfl rfl ?_
            refine r_iconst dL_route_854 (by decide) ?_
            refine r_callV [vI x2, vI 1] [vI r53] dL_route_855 okX7_vehicle ivX7_vehicle seX7_vehicle lm_L_21 rfl rfl sh_0 rfl ⟨Nat.le_of_ble_eq_true rfl, Nat.le_of_ble_eq_true rfl, Nat.le_of_ble_eq_true rfl, Nat.le_of_ble_eq_true rfl⟩ h ?_
            rintro _ s56 ⟨r55, rfl, h⟩
            refine r_icmp_lt (tgt := 865) dL_route_858 (by decide) (fun (c57 : r53 < r55) => ?_) (fun (c57 : ¬ (r53 < r55)) => ?_)
            · replace h := h.1 c57
              refine r_iconst dL_route_865 (by decide) ?_
              refine MWF.sub [0, 2, 3, 5, 6, 7, 8] rfl ?_
              exact h
            · replace h := h.2 c57
              refine r_iconst dL_route_861 (by decide) ?_
              refine r_goto (tgt := 866) dL_route_862 (by decide) ?_
              refine MWF.sub [0, 2, 3, 5, 6, 7, 8] rfl ?_
              exact h
        · replace h := h.2 c47
          refine r_iconst dL_route_865 (by decide) ?_
          refine MWF.sub [0, 2, 3, 5, 6, 7, 8] rfl ?_
          exact h
      · replace h := h.2 c35
        refine r_iconst dL_route_865 (by decide) ?_
        refine MWF.sub [0, 2, 3, 5, 6, 7, 8] rfl ?_
        exact h
  · replace h := h.2 c17
    refine r_aload_n 0 dL_route_73 rfl rfl ?_
    refine r_iload_n 2 dL_route_74 rfl rfl ?_
    refine r_iload 9 dL_route_75 rfl ?_
    refine r_iconst dL_route_77 (by decide) ?_
    refine r_callV [vI x2, vI x9, vI 0] [] dL_route_78 okX7_stop ivX7_stop seX7_stop lm_L_15 rfl rfl sh_0 rfl ⟨Nat.le_of_ble_eq_true rfl, Nat.le_of_ble_eq_true rfl, Nat.le_of_ble_eq_true rfl, Nat.le_of_ble_eq_true rfl⟩ h ?_
    rintro _ s59 ⟨r58, rfl, h⟩
    refine r_istore dL_route_81 (by decide) rfl ?_
    refine r_aload_n 1 dL_route_83 rfl rfl ?_
    refine r_iload_n 3 dL_route_84 rfl rfl ?_
    refine r_iload 10 dL_route_85 rfl ?_
    refine r_iconst dL_route_87 (by decide) ?_
    refine r_callV [vI x2, vI x9, vI 1] [] dL_route_88 okX7_stop ivX7_stop seX7_stop lm_L_15 rfl rfl sh_0 rfl ⟨Nat.le_of_ble_eq_true rfl, Nat.le_of_ble_eq_true rfl, Nat.le_of_ble_eq_true rfl, Nat.le_of_ble_eq_true rfl⟩ h ?_
    rintro _ s61 ⟨r60, rfl, h⟩
    refine r_iconst dL_route_91 (by decide) ?_
    obtain ⟨y63, ey63⟩ : ∃ z : Int, z = (if r60 = 1 then 1 else 0) := ⟨_, rfl⟩
    replace h := h y63 ey63
    have hj64 : MWi l G mL_route 100 [(0, vR 0), (1, vR 56), (2, vI x2), (3, vI x3), (4, vI x4), (5, vI x5), (6, vI x6), (7, vI x7), (8, vI x8), (9, vI x9), (10, vI r58)] [vI y63] s61 Q := by
      refine r_istore dL_route_100 (by decide) rfl ?_
      refine r_aload_n 1 dL_route_102 rfl rfl ?_
      refine r_iload_n 3 dL_route_103 rfl rfl ?_
      refine r_iload 10 dL_route_104 rfl ?_
      refine r_callS [vR 0, vI x2, vI x9] [] dL_route_106 okL_at ssL_at lm_L_28 rfl rfl ⟨Nat.le_of_ble_eq_true rfl, Nat.le_of_ble_eq_true rfl, Nat.le_of_ble_eq_true rfl, Nat.le_of_ble_eq_true rfl⟩ h ?_
      rintro _ s68 ⟨r67, rfl, h⟩
      refine r_istore dL_route_109 (by decide) rfl ?_
      refine r_aload_n 2 dL_route_111 rfl rfl ?_
      refine r_iload_n 4 dL_route_112 rfl rfl ?_
      refine r_iload 11 dL_route_113 rfl ?_
      refine r_iconst dL_route_115 (by decide) ?_
      refine r_callV [vI x2, vI x9, vI 2] [] dL_route_116 okX7_stop ivX7_stop seX7_stop lm_L_15 rfl rfl sh_0 rfl ⟨Nat.le_of_ble_eq_true rfl, Nat.le_of_ble_eq_true rfl, Nat.le_of_ble_eq_true rfl, Nat.le_of_ble_eq_true rfl⟩ h ?_
      rintro _ s70 ⟨r69, rfl, h⟩
      refine r_istore dL_route_119 (by decide) rfl ?_
      refine r_aload_n 3 dL_route_121 rfl rfl ?_
      refine r_iload_n 5 dL_route_122 rfl rfl ?_
      refine r_iload 12 dL_route_123 rfl ?_
      refine r_iconst dL_route_125 (by decide) ?_
      refine r_callV [vI x2, vI x9, vI 3] [] dL_route_126 okX7_stop ivX7_stop seX7_stop lm_L_15 rfl rfl sh_0 rfl ⟨Nat.le_of_ble_eq_true rfl, Nat.le_of_ble_eq_true rfl, Nat.le_of_ble_eq_true rfl, Nat.le_of_ble_eq_true rfl⟩ h ?_
      rintro _ s72 ⟨r71, rfl, h⟩
      refine r_istore dL_route_129 (by decide) rfl ?_
      refine r_iload 13 dL_route_131 rfl ?_
      refine r_if_ne (tgt := 156) dL_route_133 (by decide) (fun (c73 : x9 = 0) => ?_) (fun (c73 : ¬ (x9 = 0)) => ?_)
      · replace h := h.1 c73
        refine r_aload_n 4 dL_route_136 rfl rfl ?_
        refine r_iload_n 6 dL_route_137 rfl rfl ?_
        refine r_iconst dL_route_138 (by decide) ?_
        refine r_callV [vI x2, vI 1] [] dL_route_139 okX7_vehicle ivX7_vehicle seX7_vehicle lm_L_21 rfl rfl sh_0 rfl ⟨Nat.le_of_ble_eq_true rfl, Nat.le_of_ble_eq_true rfl, Nat.le_of_ble_eq_true rfl, Nat.le_of_ble_eq_true rfl⟩ h ?_
        rintro _ s75 ⟨r74, rfl, h⟩
        refine r_aload_n 5 dL_route_142 rfl rfl ?_
        refine r_bipush dL_route_143 (by decide) (by decide) ?_
        refine r_iload_n 6 dL_route_145 rfl rfl ?_
        obtain ⟨b76, h⟩ := h
        refine r_iadd dL_route_146 b76 ?_
        refine r_iload 2 dL_route_147 rfl ?_
        refine r_callS [vR 56, vI (24 + x2), vI r67] [vI r74] dL_route_149 okL_far ssL_far lm_L_32 rfl rfl ⟨Nat.le_of_ble_eq_true rfl, Nat.le_of_ble_eq_true rfl, Nat.le_of_ble_eq_true rfl, Nat.le_of_ble_eq_true rfl⟩ h ?_
        rintro _ s78 ⟨r77, rfl, h⟩
        obtain ⟨b79, h⟩ := h
        refine r_iadd dL_route_152 b79 ?_
        refine r_goto (tgt := 185) dL_route_153 (by decide) ?_
        refine MWF.sub [4, 5, 6, 7, 8, 9, 10, 11, 12, 13, 14, 3, 2, 1, 0] rfl ?_
        exact h
      · replace h := h.2 c73
        refine r_aload_n 4 dL_route_156 rfl rfl ?_
        refine r_iload_n 6 dL_route_157 rfl rfl ?_
        refine r_iload 13 dL_route_158 rfl ?_
        refine r_iconst dL_route_160 (by decide) ?_
        obtain ⟨b80, h⟩ := h
        refine r_isub dL_route_161 b80 ?_
        refine r_iconst dL_route_162 (by decide) ?_
        refine r_callV [vI x2, vI (x9 - 1), vI 2] [] dL_route_163 okX7_stop ivX7_stop seX7_stop lm_L_15 rfl rfl sh_0 rfl ⟨Nat.le_of_ble_eq_true rfl, Nat.le_of_ble_eq_true rfl, Nat.le_of_ble_eq_true rfl, Nat.le_of_ble_eq_true rfl⟩ h ?_
        rintro _ s82 ⟨r81, rfl, h⟩
        refine r_iload 8 dL_route_166 rfl ?_
        obtain ⟨b83, h⟩ := h
        refine r_iadd dL_route_168 b83 ?_
        refine r_aload_n 5 dL_route_169 rfl rfl ?_
        refine r_aload_n 4 dL_route_170 rfl rfl ?_
        refine r_iload_n 6 dL_route_171 rfl rfl ?_
        refine r_iload 13 dL_route_172 rfl ?_
        refine r_iconst dL_route_174 (by decide) ?_
        refine r_isub dL_route_175 b80 ?_
        refine r_callS [vR 0, vI x2, vI (x9 - 1)] [vR 56, vI (r81 + x4)] dL_route_176 okL_at ssL_at lm_L_28 rfl rfl ⟨Nat.le_of_ble_eq_true rfl, Nat.le_of_ble_eq_true rfl, Nat.le_of_ble_eq_true rfl, Nat.le_of_ble_eq_true rfl⟩ h ?_
        rintro _ s85 ⟨r84, rfl, h⟩
        refine r_iload 2 dL_route_179 rfl ?_
        refine r_callS [vR 56, vI r84, vI r67] [vI (r81 + x4)] dL_route_181 okL_far ssL_far lm_L_32 rfl rfl ⟨Nat.le_of_ble_eq_true rfl, Nat.le_of_ble_eq_true rfl, Nat.le_of_ble_eq_true rfl, Nat.le_of_ble_eq_true rfl⟩ h ?_
        rintro _ s87 ⟨r86, rfl, h⟩
        obtain ⟨b88, h⟩ := h
        refine r_iadd dL_route_184 b88 ?_
        refine MWF.sub [4, 5, 6, 7, 8, 9, 10, 11, 12, 13, 14, 3, 2, 1, 0] rfl ?_
        exact h
    refine r_icmp_ne (tgt := 99) dL_route_92 (by decide) (fun (c62 : r60 = 1) => ?_) (fun (c62 : ¬ (r60 = 1)) => ?_)
    · refine r_iconst dL_route_95 (by decide) ?_
      refine r_goto (tgt := 100) dL_route_96 (by decide) ?_
      refine MWF.sub [1, 2, 3, 4, 5, 6, 7, 8, 9, 10, 0] rfl ?_
      have q65 : y63 = 1 := by rw [ey63, if_pos c62]
      rw [q65] at hj64
      exact hj64
    · refine r_iconst dL_route_99 (by decide) ?_
      refine MWF.sub [1, 2, 3, 4, 5, 6, 7, 8, 9, 10, 0] rfl ?_
      have q66 : y63 = 0 := by rw [ey63, if_neg c62]
      rw [q66] at hj64
      exact hj64
set_option maxRecDepth 100000 in
set_option maxHeartbeats 4000000 in
theorem vcL_route_866 (l : Launch) (G : GT) (σ : Sto) (Q : Int → Sto → Prop) (x2 : Int) (x3 : Int) (x5 : Int) (x6 : Int) (x7 : Int) (x8 : Int) (z0 : Int)
    (h : (z0 = 0 → Q 0 σ) ∧ (¬ (z0 = 0) → (x6 = 0 → CLi l G mX7_vehicle [vR 0, vI x2, vI 4] σ (fun r91 s92 => (r91 = x5 → CLi l G mX7_vehicle [vR 0, vI x2, vI 5] s92 (fun r94 s95 => (r94 = x7 → CLi l G mX7_vehicle [vR 0, vI x2, vI 0] s95 (fun r97 s98 => (r97 < x7 → Q 0 s98) ∧ (¬ (r97 < x7) → CLi l G mX7_vehicle [vR 0, vI x2, vI 6] s98 (fun r100 s101 => (r100 = x8 → CLi l G mX7_stop [vR 0, vI x2, vI x3, vI 0] s101 (fun r103 s104 => ∀ y106 : Int, y106 = (if r103 = (-1001) then 1 else 0) → Q y106 s104)) ∧ (¬ (r100 = x8) → Q 0 s101))))) ∧ (¬ (r94 = x7) → Q 0 s95))) ∧ (¬ (r91 = x5) → Q 0 s92))) ∧ (¬ (x6 = 0) → Q 0 σ))) :
    MWi l G mL_route 866 [(0, vR 0), (2, vI x2), (3, vI x3), (5, vI x5), (6, vI x6), (7, vI x7), (8, vI x8)] [vI z0] σ Q := by
  refine r_istore dL_route_866 (by decide) rfl ?_
  refine r_iload 0 dL_route_868 rfl ?_
  refine r_if_eq (tgt := 940) dL_route_870 (by decide) (fun (c89 : z0 = 0) => ?_) (fun (c89 : ¬ (z0 = 0)) => ?_)
  · replace h := h.1 c89
    refine r_iconst dL_route_940 (by decide) ?_
    exact r_zret dL_route_941 rfl (by decide) ⟨_, rfl, h⟩
  · replace h := h.2 c89
    refine r_iload 5 dL_route_873 rfl ?_
    refine r_if_ne (tgt := 940) dL_route_875 (by decide) (fun (c90 : x6 = 0) => ?_) (fun (c90 : ¬ (x6 = 0)) => ?_)
    · replace h := h.1 c90
      refine r_aload_n 1 dL_route_878 rfl rfl ?_
      refine r_iload_n 2 dL_route_879 rfl rfl ?_
      refine r_iconst dL_route_880 (by decide) ?_
      refine r_callV [vI x2, vI 4] [] dL_route_881 okX7_vehicle ivX7_vehicle seX7_vehicle lm_L_21 rfl rfl sh_0 rfl ⟨Nat.le_of_ble_eq_true rfl, Nat.le_of_ble_eq_true rfl, Nat.le_of_ble_eq_true rfl, Nat.le_of_ble_eq_true rfl⟩ h ?_
      rintro _ s92 ⟨r91, rfl, h⟩
      refine r_iload 4 dL_route_884 rfl ?_
      refine r_icmp_ne (tgt := 940) dL_route_886 (by decide) (fun (c93 : r91 = x5) => ?_) (fun (c93 : ¬ (r91 = x5)) => ?_)
      · replace h := h.1 c93
        refine r_aload_n 1 dL_route_889 rfl rfl ?_
        refine r_iload_n 2 dL_route_890 rfl rfl ?_
        refine r_iconst dL_route_891 (by decide) ?_
        refine r_callV [vI x2, vI 5] [] dL_route_892 okX7_vehicle ivX7_vehicle seX7_vehicle lm_L_21 rfl rfl sh_0 rfl ⟨Nat.le_of_ble_eq_true rfl, Nat.le_of_ble_eq_true rfl, Nat.le_of_ble_eq_true rfl, Nat.le_of_ble_eq_true rfl⟩ h ?_
        rintro _ s95 ⟨r94, rfl, h⟩
        refine r_iload 6 dL_route_895 rfl ?_
        refine r_icmp_ne (tgt := 940) dL_route_897 (by decide) (fun (c96 : r94 = x7) => ?_) (fun (c96 : ¬ (r94 = x7)) => ?_)
        · replace h := h.1 c96
          refine r_iload 6 dL_route_900 rfl ?_
          refine r_aload_n 1 dL_route_902 rfl rfl ?_
          refine r_iload_n 2 dL_route_903 rfl rfl ?_
          refine r_iconst dL_route_904 (by decide) ?_
          refine r_callV [vI x2, vI 0] [vI x7] dL_route_905 okX7_vehicle ivX7_vehicle seX7_vehicle lm_L_21 rfl rfl sh_0 rfl ⟨Nat.le_of_ble_eq_true rfl, Nat.le_of_ble_eq_true rfl, Nat.le_of_ble_eq_true rfl, Nat.le_of_ble_eq_true rfl⟩ h ?_
          rintro _ s98 ⟨r97, rfl, h⟩
          refine r_icmp_gt (tgt := 940) dL_route_908 (by decide) (fun (c99 : r97 < x7) => ?_) (fun (c99 : ¬ (r97 < x7)) => ?_)
          · replace h := h.1 c99
            refine r_iconst dL_route_940 (by decide) ?_
            exact r_zret dL_route_941 rfl (by decide) ⟨_, rfl, h⟩
          · replace h := h.2 c99
            refine r_aload_n 1 dL_route_911 rfl rfl ?_
            refine r_iload_n 2 dL_route_912 rfl rfl ?_
            refine r_bipush dL_route_913 (by decide) (by decide) ?_
            refine r_callV [vI x2, vI 6] [] dL_route_915 okX7_vehicle ivX7_vehicle seX7_vehicle lm_L_21 rfl rfl sh_0 rfl ⟨Nat.le_of_ble_eq_true rfl, Nat.le_of_ble_eq_true rfl, Nat.le_of_ble_eq_true rfl, Nat.le_of_ble_eq_true rfl⟩ h ?_
            rintro _ s101 ⟨r100, rfl, h⟩
            refine r_iload 7 dL_route_918 rfl ?_
            refine r_icmp_ne (tgt := 940) dL_route_920 (by decide) (fun (c102 : r100 = x8) => ?_) (fun (c102 : ¬ (r100 = x8)) => ?_)
            · replace h := h.1 c102
              refine r_aload_n 1 dL_route_923 rfl rfl ?_
              refine r_iload_n 2 dL_route_924 rfl rfl ?_
              refine r_iload_n 3 dL_route_925 rfl rfl ?_
              refine r_iconst dL_route_926 (by decide) ?_
              refine r_callV [vI x2, vI x3, vI 0] [] dL_route_927 okX7_stop ivX7_stop seX7_stop lm_L_15 rfl rfl sh_0 rfl ⟨Nat.le_of_ble_eq_true rfl, Nat.le_of_ble_eq_true rfl, Nat.le_of_ble_eq_true rfl, Nat.le_of_ble_eq_true rfl⟩ h ?_
              rintro _ s104 ⟨r103, rfl, h⟩
              refine r_sipush dL_route_930 (by decide) (by decide) ?_
              obtain ⟨y106, ey106⟩ : ∃ z : Int, z = (if r103 = (-1001) then 1 else 0) := ⟨_, rfl⟩
              replace h := h y106 ey106
              have hj107 : MWi l G mL_route 941 [] [vI y106] s104 Q := by
                exact r_zret dL_route_941 rfl (by rw [ey106]; (repeat' split) <;> decide) ⟨_, rfl, h⟩
              refine r_icmp_ne (tgt := 940) dL_route_933 (by decide) (fun (c105 : r103 = (-1001)) => ?_) (fun (c105 : ¬ (r103 = (-1001))) => ?_)
              · refine r_iconst dL_route_936 (by decide) ?_
                refine r_goto (tgt := 941) dL_route_937 (by decide) ?_
                refine MWF.sub [] rfl ?_
                have q108 : y106 = 1 := by rw [ey106, if_pos c105]
                rw [q108] at hj107
                exact hj107
              · refine r_iconst dL_route_940 (by decide) ?_
                refine MWF.sub [] rfl ?_
                have q109 : y106 = 0 := by rw [ey106, if_neg c105]
                rw [q109] at hj107
                exact hj107
            · replace h := h.2 c102
              refine r_iconst dL_route_940 (by decide) ?_
              exact r_zret dL_route_941 rfl (by decide) ⟨_, rfl, h⟩
        · replace h := h.2 c96
          refine r_iconst dL_route_940 (by decide) ?_
          exact r_zret dL_route_941 rfl (by decide) ⟨_, rfl, h⟩
      · replace h := h.2 c93
        refine r_iconst dL_route_940 (by decide) ?_
        exact r_zret dL_route_941 rfl (by decide) ⟨_, rfl, h⟩
    · replace h := h.2 c90
      refine r_iconst dL_route_940 (by decide) ?_
      exact r_zret dL_route_941 rfl (by decide) ⟨_, rfl, h⟩
set_option maxRecDepth 100000 in
set_option maxHeartbeats 4000000 in
theorem vcL_route_185 (l : Launch) (G : GT) (σ : Sto) (Q : Int → Sto → Prop) (x2 : Int) (x3 : Int) (x4 : Int) (x5 : Int) (x6 : Int) (x7 : Int) (x8 : Int) (x9 : Int) (x10 : Int) (x11 : Int) (x12 : Int) (x13 : Int) (x14 : Int) (z0 : Int)
    (h : (-2147483648 ≤ x3 - 1 ∧ x3 - 1 ≤ 2147483647) ∧ (x9 = (x3 - 1) → CLi l G mX7_vehicle [vR 0, vI x2, vI 2] σ (fun r112 s113 => (-2147483648 ≤ r112 - x4 ∧ r112 - x4 ≤ 2147483647) ∧ (-2147483648 ≤ 24 + x2 ∧ 24 + x2 ≤ 2147483647) ∧ CLi l G mL_far [vR 56, vI (24 + x2), vI x12] s113 (fun r116 s117 => (-2147483648 ≤ (r112 - x4) - r116 ∧ (r112 - x4) - r116 ≤ 2147483647) ∧ MWi l G mL_route 247 [(0, vR 0), (1, vR 56), (2, vI x2), (3, vI x3), (4, vI x4), (5, vI x5), (6, vI x6), (7, vI x7), (8, vI x8), (9, vI x9), (10, vI x10), (11, vI x11), (12, vI x12), (13, vI x13), (14, vI x14), (15, vI z0)] [vI ((r112 - x4) - r116)] s117 Q))) ∧ (¬ (x9 = (x3 - 1)) → (-2147483648 ≤ x9 + 1 ∧ x9 + 1 ≤ 2147483647) ∧ CLi l G mX7_stop [vR 0, vI x2, vI (x9 + 1), vI 3] σ (fun r120 s121 => (-2147483648 ≤ r120 - x4 ∧ r120 - x4 ≤ 2147483647) ∧ CLi l G mL_at [vR 0, vI x2, vI (x9 + 1)] s121 (fun r123 s124 => CLi l G mL_far [vR 56, vI x12, vI r123] s124 (fun r125 s126 => (-2147483648 ≤ (r120 - x4) - r125 ∧ (r120 - x4) - r125 ≤ 2147483647) ∧ MWi l G mL_route 247 [(0, vR 0), (1, vR 56), (2, vI x2), (3, vI x3), (4, vI x4), (5, vI x5), (6, vI x6), (7, vI x7), (8, vI x8), (9, vI x9), (10, vI x10), (11, vI x11), (12, vI x12), (13, vI x13), (14, vI x14), (15, vI z0)] [vI ((r120 - x4) - r125)] s126 Q))))) :
    MWi l G mL_route 185 [(0, vR 0), (1, vR 56), (2, vI x2), (3, vI x3), (4, vI x4), (5, vI x5), (6, vI x6), (7, vI x7), (8, vI x8), (9, vI x9), (10, vI x10), (11, vI x11), (12, vI x12), (13, vI x13), (14, vI x14)] [vI z0] σ Q := by
  refine r_istore dL_route_185 (by decide) rfl ?_
  refine r_iload 10 dL_route_187 rfl ?_
  refine r_iload_n 4 dL_route_189 rfl rfl ?_
  refine r_iconst dL_route_190 (by decide) ?_
  obtain ⟨b110, h⟩ := h
  refine r_isub dL_route_191 b110 ?_
  refine r_icmp_ne (tgt := 218) dL_route_192 (by decide) (fun (c111 : x9 = (x3 - 1)) => ?_) (fun (c111 : ¬ (x9 = (x3 - 1))) => ?_)
  · replace h := h.1 c111
    refine r_aload_n 1 dL_route_195 rfl rfl ?_
    refine r_iload_n 3 dL_route_196 rfl rfl ?_
    refine r_iconst dL_route_197 (by decide) ?_
    refine r_callV [vI x2, vI 2] [] dL_route_198 okX7_vehicle ivX7_vehicle seX7_vehicle lm_L_21 rfl rfl sh_0 rfl ⟨Nat.le_of_ble_eq_true rfl, Nat.le_of_ble_eq_true rfl, Nat.le_of_ble_eq_true rfl, Nat.le_of_ble_eq_true rfl⟩ h ?_
    rintro _ s113 ⟨r112, rfl, h⟩
    refine r_iload 5 dL_route_201 rfl ?_
    obtain ⟨b114, h⟩ := h
    refine r_isub dL_route_203 b114 ?_
    refine r_aload_n 2 dL_route_204 rfl rfl ?_
    refine r_bipush dL_route_205 (by decide) (by decide) ?_
    refine r_iload_n 3 dL_route_207 rfl rfl ?_
    obtain ⟨b115, h⟩ := h
    refine r_iadd dL_route_208 b115 ?_
    refine r_iload 13 dL_route_209 rfl ?_
    refine r_callS [vR 56, vI (24 + x2), vI x12] [vI (r112 - x4)] dL_route_211 okL_far ssL_far lm_L_32 rfl rfl ⟨Nat.le_of_ble_eq_true rfl, Nat.le_of_ble_eq_true rfl, Nat.le_of_ble_eq_true rfl, Nat.le_of_ble_eq_true rfl⟩ h ?_
    rintro _ s117 ⟨r116, rfl, h⟩
    obtain ⟨b118, h⟩ := h
    refine r_isub dL_route_214 b118 ?_
    refine r_goto (tgt := 247) dL_route_215 (by decide) ?_
    refine MWF.sub [1, 2, 3, 4, 5, 6, 7, 8, 9, 10, 11, 12, 13, 14, 15, 0] rfl ?_
    exact h
  · replace h := h.2 c111
    refine r_aload_n 1 dL_route_218 rfl rfl ?_
    refine r_iload_n 3 dL_route_219 rfl rfl ?_
    refine r_iload 10 dL_route_220 rfl ?_
    refine r_iconst dL_route_222 (by decide) ?_
    obtain ⟨b119, h⟩ := h
    refine r_iadd dL_route_223 b119 ?_
    refine r_iconst dL_route_224 (by decide) ?_
    refine r_callV [vI x2, vI (x9 + 1), vI 3] [] dL_route_225 okX7_stop ivX7_stop seX7_stop lm_L_15 rfl rfl sh_0 rfl ⟨Nat.le_of_ble_eq_true rfl, Nat.le_of_ble_eq_true rfl, Nat.le_of_ble_eq_true rfl, Nat.le_of_ble_eq_true rfl⟩ h ?_
    rintro _ s121 ⟨r120, rfl, h⟩
    refine r_iload 5 dL_route_228 rfl ?_
    obtain ⟨b122, h⟩ := h
    refine r_isub dL_route_230 b122 ?_
    refine r_aload_n 2 dL_route_231 rfl rfl ?_
    refine r_iload 13 dL_route_232 rfl ?_
    refine r_aload_n 1 dL_route_234 rfl rfl ?_
    refine r_iload_n 3 dL_route_235 rfl rfl ?_
    refine r_iload 10 dL_route_236 rfl ?_
    refine r_iconst dL_route_238 (by decide) ?_
    refine r_iadd dL_route_239 b119 ?_
    refine r_callS [vR 0, vI x2, vI (x9 + 1)] [vI x12, vR 56, vI (r120 - x4)] dL_route_240 okL_at ssL_at lm_L_28 rfl rfl ⟨Nat.le_of_ble_eq_true rfl, Nat.le_of_ble_eq_true rfl, Nat.le_of_ble_eq_true rfl, Nat.le_of_ble_eq_true rfl⟩ h ?_
    rintro _ s124 ⟨r123, rfl, h⟩
    refine r_callS [vR 56, vI x12, vI r123] [vI (r120 - x4)] dL_route_243 okL_far ssL_far lm_L_32 rfl rfl ⟨Nat.le_of_ble_eq_true rfl, Nat.le_of_ble_eq_true rfl, Nat.le_of_ble_eq_true rfl, Nat.le_of_ble_eq_true rfl⟩ h ?_
    rintro _ s126 ⟨r125, rfl, h⟩
    obtain ⟨b127, h⟩ := h
    refine r_isub dL_route_246 b127 ?_
    refine MWF.sub [1, 2, 3, 4, 5, 6, 7, 8, 9, 10, 11, 12, 13, 14, 15, 0] rfl ?_
    exact h
set_option maxRecDepth 100000 in
set_option maxHeartbeats 4000000 in
theorem vcL_route_247 (l : Launch) (G : GT) (σ : Sto) (Q : Int → Sto → Prop) (x2 : Int) (x3 : Int) (x4 : Int) (x5 : Int) (x6 : Int) (x7 : Int) (x8 : Int) (x9 : Int) (x10 : Int) (x11 : Int) (x12 : Int) (x13 : Int) (x14 : Int) (x15 : Int) (z0 : Int)
    (h : ∀ y129 : Int, y129 = (if x11 = 0 then 3 else 5) → CLi l G mX7_request [vR 0, vI x10, vI y129] σ (fun r133 s134 => ∀ y136 : Int, y136 = (if x11 = 0 then 4 else 6) → CLi l G mX7_request [vR 0, vI x10, vI y136] s134 (fun r140 s141 => ∀ y143 : Int, y143 = (if r133 ≤ x15 then x15 else r133) → ∀ y148 : Int, y148 = (if z0 ≤ r140 then z0 else r140) → MWi l G mL_route 321 [(0, vR 0), (1, vR 56), (2, vI x2), (3, vI x3), (4, vI x4), (5, vI x5), (6, vI x6), (7, vI x7), (8, vI x8), (9, vI x9), (10, vI x10), (11, vI x11), (12, vI x12), (13, vI x13), (14, vI x14), (15, vI x15), (17, vI r133), (18, vI r140), (19, vI y143), (20, vI y148), (21, vI 0)] [] s141 Q))) :
    MWi l G mL_route 247 [(0, vR 0), (1, vR 56), (2, vI x2), (3, vI x3), (4, vI x4), (5, vI x5), (6, vI x6), (7, vI x7), (8, vI x8), (9, vI x9), (10, vI x10), (11, vI x11), (12, vI x12), (13, vI x13), (14, vI x14), (15, vI x15)] [vI z0] σ Q := by
  refine r_istore dL_route_247 (by decide) rfl ?_
  refine r_aload_n 1 dL_route_249 rfl rfl ?_
  refine r_iload 11 dL_route_250 rfl ?_
  refine r_iload 12 dL_route_252 rfl ?_
  obtain ⟨y129, ey129⟩ : ∃ z : Int, z = (if x11 = 0 then 3 else 5) := ⟨_, rfl⟩
  replace h := h y129 ey129
  have hj130 : MWi l G mL_route 262 [(0, vR 0), (1, vR 56), (2, vI x2), (3, vI x3), (4, vI x4), (5, vI x5), (6, vI x6), (7, vI x7), (8, vI x8), (9, vI x9), (10, vI x10), (11, vI x11), (12, vI x12), (13, vI x13), (14, vI x14), (15, vI x15), (16, vI z0)] [vI y129, vI x10, vR 0] σ Q := by
    refine r_callV [vI x10, vI y129] [] dL_route_262 okX7_request ivX7_request seX7_request lm_L_36 rfl rfl sh_0 rfl ⟨Nat.le_of_ble_eq_true rfl, Nat.le_of_ble_eq_true rfl, Nat.le_of_ble_eq_true rfl, Nat.le_of_ble_eq_true rfl⟩ h ?_
    rintro _ s134 ⟨r133, rfl, h⟩
    refine r_istore dL_route_265 (by decide) rfl ?_
    refine r_aload_n 1 dL_route_267 rfl rfl ?_
    refine r_iload 11 dL_route_268 rfl ?_
    refine r_iload 12 dL_route_270 rfl ?_
    obtain ⟨y136, ey136⟩ : ∃ z : Int, z = (if x11 = 0 then 4 else 6) := ⟨_, rfl⟩
    replace h := h y136 ey136
    have hj137 : MWi l G mL_route 281 [(0, vR 0), (1, vR 56), (2, vI x2), (3, vI x3), (4, vI x4), (5, vI x5), (6, vI x6), (7, vI x7), (8, vI x8), (9, vI x9), (10, vI x10), (11, vI x11), (12, vI x12), (13, vI x13), (14, vI x14), (15, vI x15), (16, vI z0), (17, vI r133)] [vI y136, vI x10, vR 0] s134 Q := by
      refine r_callV [vI x10, vI y136] [] dL_route_281 okX7_request ivX7_request seX7_request lm_L_36 rfl rfl sh_0 rfl ⟨Nat.le_of_ble_eq_true rfl, Nat.le_of_ble_eq_true rfl, Nat.le_of_ble_eq_true rfl, Nat.le_of_ble_eq_true rfl⟩ h ?_
      rintro _ s141 ⟨r140, rfl, h⟩
      refine r_istore dL_route_284 (by decide) rfl ?_
      refine r_iload 18 dL_route_286 rfl ?_
      refine r_iload 16 dL_route_288 rfl ?_
      obtain ⟨y143, ey143⟩ : ∃ z : Int, z = (if r133 ≤ x15 then x15 else r133) := ⟨_, rfl⟩
      replace h := h y143 ey143
      have hj144 : MWi l G mL_route 300 [(0, vR 0), (1, vR 56), (2, vI x2), (3, vI x3), (4, vI x4), (5, vI x5), (6, vI x6), (7, vI x7), (8, vI x8), (9, vI x9), (10, vI x10), (11, vI x11), (12, vI x12), (13, vI x13), (14, vI x14), (15, vI x15), (16, vI z0), (17, vI r133), (18, vI r140)] [vI y143] s141 Q := by
        refine r_istore dL_route_300 (by decide) rfl ?_
        refine r_iload 19 dL_route_302 rfl ?_
        refine r_iload 17 dL_route_304 rfl ?_
        obtain ⟨y148, ey148⟩ : ∃ z : Int, z = (if z0 ≤ r140 then z0 else r140) := ⟨_, rfl⟩
        replace h := h y148 ey148
        have hj149 : MWi l G mL_route 316 [(0, vR 0), (1, vR 56), (2, vI x2), (3, vI x3), (4, vI x4), (5, vI x5), (6, vI x6), (7, vI x7), (8, vI x8), (9, vI x9), (10, vI x10), (11, vI x11), (12, vI x12), (13, vI x13), (14, vI x14), (15, vI x15), (17, vI r133), (18, vI r140), (19, vI y143)] [vI y148] s141 Q := by
          refine r_istore dL_route_316 (by decide) rfl ?_
          refine r_iconst dL_route_318 (by decide) ?_
          refine r_istore dL_route_319 (by decide) rfl ?_
          refine MWF.sub [2, 3, 4, 5, 6, 7, 8, 9, 10, 11, 12, 13, 14, 15, 16, 17, 18, 19, 20, 1, 0] rfl ?_
          exact h
        refine r_icmp_ge (tgt := 314) dL_route_306 (by decide) (fun (c147 : z0 ≤ r140) => ?_) (fun (c147 : ¬ (z0 ≤ r140)) => ?_)
        · refine r_iload 17 dL_route_314 rfl ?_
          refine MWF.sub [1, 2, 3, 4, 5, 6, 7, 8, 9, 10, 11, 12, 13, 14, 15, 16, 18, 19, 0] rfl ?_
          have q150 : y148 = z0 := by rw [ey148, if_pos c147]
          rw [q150] at hj149
          exact hj149
        · refine r_iload 19 dL_route_309 rfl ?_
          refine r_goto (tgt := 316) dL_route_311 (by decide) ?_
          refine MWF.sub [1, 2, 3, 4, 5, 6, 7, 8, 9, 10, 11, 12, 13, 14, 15, 16, 18, 19, 0] rfl ?_
          have q151 : y148 = r140 := by rw [ey148, if_neg c147]
          rw [q151] at hj149
          exact hj149
      refine r_icmp_le (tgt := 298) dL_route_290 (by decide) (fun (c142 : r133 ≤ x15) => ?_) (fun (c142 : ¬ (r133 ≤ x15)) => ?_)
      · refine r_iload 16 dL_route_298 rfl ?_
        refine MWF.sub [1, 2, 3, 4, 5, 6, 7, 8, 9, 10, 11, 12, 13, 14, 15, 16, 17, 18, 0] rfl ?_
        have q145 : y143 = x15 := by rw [ey143, if_pos c142]
        rw [q145] at hj144
        exact hj144
      · refine r_iload 18 dL_route_293 rfl ?_
        refine r_goto (tgt := 300) dL_route_295 (by decide) ?_
        refine MWF.sub [1, 2, 3, 4, 5, 6, 7, 8, 9, 10, 11, 12, 13, 14, 15, 16, 17, 18, 0] rfl ?_
        have q146 : y143 = r133 := by rw [ey143, if_neg c142]
        rw [q146] at hj144
        exact hj144
    refine r_if_eq (tgt := 280) dL_route_272 (by decide) (fun (c135 : x11 = 0) => ?_) (fun (c135 : ¬ (x11 = 0)) => ?_)
    · refine r_iconst dL_route_280 (by decide) ?_
      refine MWF.sub [1, 2, 3, 4, 5, 6, 7, 8, 9, 10, 11, 12, 13, 14, 15, 16, 17, 0] rfl ?_
      have q138 : y136 = 4 := by rw [ey136, if_pos c135]
      rw [q138] at hj137
      exact hj137
    · refine r_bipush dL_route_275 (by decide) (by decide) ?_
      refine r_goto (tgt := 281) dL_route_277 (by decide) ?_
      refine MWF.sub [1, 2, 3, 4, 5, 6, 7, 8, 9, 10, 11, 12, 13, 14, 15, 16, 17, 0] rfl ?_
      have q139 : y136 = 6 := by rw [ey136, if_neg c135]
      rw [q139] at hj137
      exact hj137
  refine r_if_eq (tgt := 261) dL_route_254 (by decide) (fun (c128 : x11 = 0) => ?_) (fun (c128 : ¬ (x11 = 0)) => ?_)
  · refine r_iconst dL_route_261 (by decide) ?_
    refine MWF.sub [1, 2, 3, 4, 5, 6, 7, 8, 9, 10, 11, 12, 13, 14, 15, 16, 0] rfl ?_
    have q131 : y129 = 3 := by rw [ey129, if_pos c128]
    rw [q131] at hj130
    exact hj130
  · refine r_iconst dL_route_257 (by decide) ?_
    refine r_goto (tgt := 262) dL_route_258 (by decide) ?_
    refine MWF.sub [1, 2, 3, 4, 5, 6, 7, 8, 9, 10, 11, 12, 13, 14, 15, 16, 0] rfl ?_
    have q132 : y129 = 5 := by rw [ey129, if_neg c128]
    rw [q132] at hj130
    exact hj130
set_option maxRecDepth 100000 in
set_option maxHeartbeats 4000000 in
theorem vcL_route_321 (l : Launch) (G : GT) (σ : Sto) (Q : Int → Sto → Prop) (x2 : Int) (x3 : Int) (x4 : Int) (x5 : Int) (x6 : Int) (x7 : Int) (x8 : Int) (x9 : Int) (x10 : Int) (x11 : Int) (x12 : Int) (x13 : Int) (x14 : Int) (x15 : Int) (x17 : Int) (x18 : Int) (x19 : Int) (x20 : Int) (x21 : Int)
    (h : CLi l G mX7_stop [vR 0, vI x2, vI x21, vI 0] σ (fun r152 s153 => (r152 = x10 → CLi l G mX7_stop [vR 0, vI x2, vI x21, vI 1] s153 (fun r155 s156 => ∀ y158 : Int, y158 = (if r155 = 1 then 1 else 0) → (y158 = x11 → (-2147483648 ≤ x21 + 1 ∧ x21 + 1 ≤ 2147483647) ∧ MWi l G mL_route 321 [(0, vR 0), (1, vR 56), (2, vI x2), (3, vI x3), (4, vI x4), (5, vI x5), (6, vI x6), (7, vI x7), (8, vI x8), (9, vI x9), (10, vI x10), (11, vI x11), (12, vI x12), (13, vI x13), (14, vI x14), (15, vI x15), (17, vI x17), (18, vI x18), (19, vI x19), (20, vI x20), (21, vI (x21 + 1))] [] s156 Q) ∧ (¬ (y158 = x11) → ∀ y165 : Int, y165 = (if x9 ≤ x21 then 0 else 1) → (x11 = y165 → (x11 = 0 → CLi l G mX7_stop [vR 0, vI x2, vI x21, vI 2] s156 (fun r171 s172 => CLi l G mX7_request [vR 0, vI x10, vI 2] s172 (fun r173 s174 => (-2147483648 ≤ r171 - r173 ∧ r171 - r173 ≤ 2147483647) ∧ (-2147483648 ≤ (r171 - r173) - x4 ∧ (r171 - r173) - x4 ≤ 2147483647) ∧ ∀ y178 : Int, y178 = (if ((r171 - r173) - x4) ≤ x19 then x19 else ((r171 - r173) - x4)) → MWi l G mL_route 463 [(0, vR 0), (1, vR 56), (2, vI x2), (3, vI x3), (4, vI x4), (5, vI x5), (6, vI x6), (7, vI x7), (8, vI x8), (9, vI x9), (10, vI x10), (11, vI x11), (12, vI x12), (13, vI x13), (14, vI x14), (15, vI x15), (17, vI x17), (18, vI x18), (19, vI y178), (20, vI x20), (21, vI x21)] [] s174 Q))) ∧ (¬ (x11 = 0) → CLi l G mX7_stop [vR 0, vI x2, vI x21, vI 3] s156 (fun r182 s183 => (-2147483648 ≤ r182 + x4 ∧ r182 + x4 ≤ 2147483647) ∧ CLi l G mX7_request [vR 0, vI x10, vI 2] s183 (fun r185 s186 => (-2147483648 ≤ (r182 + x4) + r185 ∧ (r182 + x4) + r185 ≤ 2147483647) ∧ ∀ y189 : Int, y189 = (if x20 ≤ ((r182 + x4) + r185) then x20 else ((r182 + x4) + r185)) → MWi l G mL_route 463 [(0, vR 0), (1, vR 56), (2, vI x2), (3, vI x3), (4, vI x4), (5, vI x5), (6, vI x6), (7, vI x7), (8, vI x8), (9, vI x9), (10, vI x10), (11, vI x11), (12, vI x12), (13, vI x13), (14, vI x14), (15, vI x15), (17, vI x17), (18, vI x18), (19, vI x19), (20, vI y189), (21, vI x21)] [] s186 Q)))) ∧ (¬ (x11 = y165) → Q 0 s156)))) ∧ (¬ (r152 = x10) → (-2147483648 ≤ x21 + 1 ∧ x21 + 1 ≤ 2147483647) ∧ MWi l G mL_route 321 [(0, vR 0), (1, vR 56), (2, vI x2), (3, vI x3), (4, vI x4), (5, vI x5), (6, vI x6), (7, vI x7), (8, vI x8), (9, vI x9), (10, vI x10), (11, vI x11), (12, vI x12), (13, vI x13), (14, vI x14), (15, vI x15), (17, vI x17), (18, vI x18), (19, vI x19), (20, vI x20), (21, vI (x21 + 1))] [] s153 Q))) :
    MWi l G mL_route 321 [(0, vR 0), (1, vR 56), (2, vI x2), (3, vI x3), (4, vI x4), (5, vI x5), (6, vI x6), (7, vI x7), (8, vI x8), (9, vI x9), (10, vI x10), (11, vI x11), (12, vI x12), (13, vI x13), (14, vI x14), (15, vI x15), (17, vI x17), (18, vI x18), (19, vI x19), (20, vI x20), (21, vI x21)] [] σ Q := by
  refine r_aload_n 0 dL_route_321 rfl rfl ?_
  refine r_iload_n 2 dL_route_322 rfl rfl ?_
  refine r_iload 20 dL_route_323 rfl ?_
  refine r_iconst dL_route_325 (by decide) ?_
  refine r_callV [vI x2, vI x21, vI 0] [] dL_route_326 okX7_stop ivX7_stop seX7_stop lm_L_15 rfl rfl sh_0 rfl ⟨Nat.le_of_ble_eq_true rfl, Nat.le_of_ble_eq_true rfl, Nat.le_of_ble_eq_true rfl, Nat.le_of_ble_eq_true rfl⟩ h ?_
  rintro _ s153 ⟨r152, rfl, h⟩
  refine r_iload 10 dL_route_329 rfl ?_
  refine r_icmp_ne (tgt := 356) dL_route_331 (by decide) (fun (c154 : r152 = x10) => ?_) (fun (c154 : ¬ (r152 = x10)) => ?_)
  · replace h := h.1 c154
    refine r_aload_n 0 dL_route_334 rfl rfl ?_
    refine r_iload_n 2 dL_route_335 rfl rfl ?_
    refine r_iload 20 dL_route_336 rfl ?_
    refine r_iconst dL_route_338 (by decide) ?_
    refine r_callV [vI x2, vI x21, vI 1] [] dL_route_339 okX7_stop ivX7_stop seX7_stop lm_L_15 rfl rfl sh_0 rfl ⟨Nat.le_of_ble_eq_true rfl, Nat.le_of_ble_eq_true rfl, Nat.le_of_ble_eq_true rfl, Nat.le_of_ble_eq_true rfl⟩ h ?_
    rintro _ s156 ⟨r155, rfl, h⟩
    refine r_iconst dL_route_342 (by decide) ?_
    obtain ⟨y158, ey158⟩ : ∃ z : Int, z = (if r155 = 1 then 1 else 0) := ⟨_, rfl⟩
    replace h := h y158 ey158
    have hj159 : MWi l G mL_route 351 [(0, vR 0), (1, vR 56), (2, vI x2), (3, vI x3), (4, vI x4), (5, vI x5), (6, vI x6), (7, vI x7), (8, vI x8), (9, vI x9), (10, vI x10), (11, vI x11), (12, vI x12), (13, vI x13), (14, vI x14), (15, vI x15), (17, vI x17), (18, vI x18), (19, vI x19), (20, vI x20), (21, vI x21)] [vI y158] s156 Q := by
      refine r_iload 11 dL_route_351 rfl ?_
      refine r_icmp_ne (tgt := 362) dL_route_353 (by decide) (fun (c162 : y158 = x11) => ?_) (fun (c162 : ¬ (y158 = x11)) => ?_)
      · replace h := h.1 c162
        obtain ⟨b163, h⟩ := h
        refine r_iinc 20 dL_route_356 rfl (by decide) b163 rfl ?_
        refine r_goto (tgt := 321) dL_route_359 (by decide) ?_
        refine MWF.sub [1, 2, 3, 4, 5, 6, 7, 8, 9, 10, 11, 12, 13, 14, 15, 16, 17, 18, 19, 20, 0] rfl ?_
        exact h
      · replace h := h.2 c162
        refine r_iload 11 dL_route_362 rfl ?_
        refine r_iload 20 dL_route_364 rfl ?_
        refine r_iload 9 dL_route_366 rfl ?_
        obtain ⟨y165, ey165⟩ : ∃ z : Int, z = (if x9 ≤ x21 then 0 else 1) := ⟨_, rfl⟩
        replace h := h y165 ey165
        have hj166 : MWi l G mL_route 376 [(0, vR 0), (1, vR 56), (2, vI x2), (3, vI x3), (4, vI x4), (5, vI x5), (6, vI x6), (7, vI x7), (8, vI x8), (9, vI x9), (10, vI x10), (11, vI x11), (12, vI x12), (13, vI x13), (14, vI x14), (15, vI x15), (17, vI x17), (18, vI x18), (19, vI x19), (20, vI x20), (21, vI x21)] [vI y165, vI x11] s156 Q := by
          refine r_icmp_eq (tgt := 381) dL_route_376 (by decide) (fun (c169 : x11 = y165) => ?_) (fun (c169 : ¬ (x11 = y165)) => ?_)
          · replace h := h.1 c169
            refine r_iload 11 dL_route_381 rfl ?_
            refine r_if_ne (tgt := 426) dL_route_383 (by decide) (fun (c170 : x11 = 0) => ?_) (fun (c170 : ¬ (x11 = 0)) => ?_)
            · replace h := h.1 c170
              refine r_aload_n 0 dL_route_386 rfl rfl ?_
              refine r_iload_n 2 dL_route_387 rfl rfl ?_
              refine r_iload 20 dL_route_388 rfl ?_
              refine r_iconst dL_route_390 (by decide) ?_
              refine r_callV [vI x2, vI x21, vI 2] [] dL_route_391 okX7_stop ivX7_stop seX7_stop lm_L_15 rfl rfl sh_0 rfl ⟨Nat.le_of_ble_eq_true rfl, Nat.le_of_ble_eq_true rfl, Nat.le_of_ble_eq_true rfl, Nat.le_of_ble_eq_true rfl⟩ h ?_
              rintro _ s172 ⟨r171, rfl, h⟩
              refine r_aload_n 0 dL_route_394 rfl rfl ?_
              refine r_iload 10 dL_route_395 rfl ?_
              refine r_iconst dL_route_397 (by decide) ?_
              refine r_callV [vI x10, vI 2] [vI r171] dL_route_398 okX7_request ivX7_request seX7_request lm_L_36 rfl rfl sh_0 rfl ⟨Nat.le_of_ble_eq_true rfl, Nat.le_of_ble_eq_true rfl, Nat.le_of_ble_eq_true rfl, Nat.le_of_ble_eq_true rfl⟩ h ?_
              rintro _ s174 ⟨r173, rfl, h⟩
              obtain ⟨b175, h⟩ := h
              refine r_isub dL_route_401 b175 ?_
              refine r_iload 4 dL_route_402 rfl ?_
              obtain ⟨b176, h⟩ := h
              refine r_isub dL_route_404 b176 ?_
              refine r_istore dL_route_405 (by decide) rfl ?_
              refine r_iload 0 dL_route_407 rfl ?_
              refine r_iload 19 dL_route_409 rfl ?_
              obtain ⟨y178, ey178⟩ : ∃ z : Int, z = (if ((r171 - r173) - x4) ≤ x19 then x19 else ((r171 - r173) - x4)) := ⟨_, rfl⟩
              replace h := h y178 ey178
              have hj179 : MWi l G mL_route 421 [(0, vR 0), (1, vR 56), (2, vI x2), (3, vI x3), (4, vI x4), (5, vI x5), (6, vI x6), (7, vI x7), (8, vI x8), (9, vI x9), (10, vI x10), (11, vI x11), (12, vI x12), (13, vI x13), (14, vI x14), (15, vI x15), (17, vI x17), (18, vI x18), (20, vI x20), (21, vI x21)] [vI y178] s174 Q := by
                refine r_istore dL_route_421 (by decide) rfl ?_
                refine r_goto (tgt := 463) dL_route_423 (by decide) ?_
                refine MWF.sub [1, 2, 3, 4, 5, 6, 7, 8, 9, 10, 11, 12, 13, 14, 15, 16, 17, 18, 0, 19, 20] rfl ?_
                exact h
              refine r_icmp_le (tgt := 419) dL_route_411 (by decide) (fun (c177 : ((r171 - r173) - x4) ≤ x19) => ?_) (fun (c177 : ¬ (((r171 - r173) - x4) ≤ x19)) => ?_)
              · refine r_iload 19 dL_route_419 rfl ?_
                refine MWF.sub [1, 2, 3, 4, 5, 6, 7, 8, 9, 10, 11, 12, 13, 14, 15, 16, 17, 18, 20, 21] rfl ?_
                have q180 : y178 = x19 := by rw [ey178, if_pos c177]
                rw [q180] at hj179
                exact hj179
              · refine r_iload 0 dL_route_414 rfl ?_
                refine r_goto (tgt := 421) dL_route_416 (by decide) ?_
                refine MWF.sub [1, 2, 3, 4, 5, 6, 7, 8, 9, 10, 11, 12, 13, 14, 15, 16, 17, 18, 20, 21] rfl ?_
                have q181 : y178 = ((r171 - r173) - x4) := by rw [ey178, if_neg c177]
                rw [q181] at hj179
                exact hj179
            · replace h := h.2 c170
              refine r_aload_n 0 dL_route_426 rfl rfl ?_
              refine r_iload_n 2 dL_route_427 rfl rfl ?_
              refine r_iload 20 dL_route_428 rfl ?_
              refine r_iconst dL_route_430 (by decide) ?_
              refine r_callV [vI x2, vI x21, vI 3] [] dL_route_431 okX7_stop ivX7_stop seX7_stop lm_L_15 rfl rfl sh_0 rfl ⟨Nat.le_of_ble_eq_true rfl, Nat.le_of_ble_eq_true rfl, Nat.le_of_ble_eq_true rfl, Nat.le_of_ble_eq_true rfl⟩ h ?_
              rintro _ s183 ⟨r182, rfl, h⟩
              refine r_iload 4 dL_route_434 rfl ?_
              obtain ⟨b184, h⟩ := h
              refine r_iadd dL_route_436 b184 ?_
              refine r_aload_n 0 dL_route_437 rfl rfl ?_
              refine r_iload 10 dL_route_438 rfl ?_
              refine r_iconst dL_route_440 (by decide) ?_
              refine r_callV [vI x10, vI 2] [vI (r182 + x4)] dL_route_441 okX7_request ivX7_request seX7_request lm_L_36 rfl rfl sh_0 rfl ⟨Nat.le_of_ble_eq_true rfl, Nat.le_of_ble_eq_true rfl, Nat.le_of_ble_eq_true rfl, Nat.le_of_ble_eq_true rfl⟩ h ?_
              rintro _ s186 ⟨r185, rfl, h⟩
              obtain ⟨b187, h⟩ := h
              refine r_iadd dL_route_444 b187 ?_
              refine r_istore dL_route_445 (by decide) rfl ?_
              refine r_iload 0 dL_route_447 rfl ?_
              refine r_iload 20 dL_route_449 rfl ?_
              obtain ⟨y189, ey189⟩ : ∃ z : Int, z = (if x20 ≤ ((r182 + x4) + r185) then x20 else ((r182 + x4) + r185)) := ⟨_, rfl⟩
              replace h := h y189 ey189
              have hj190 : MWi l G mL_route 461 [(0, vR 0), (1, vR 56), (2, vI x2), (3, vI x3), (4, vI x4), (5, vI x5), (6, vI x6), (7, vI x7), (8, vI x8), (9, vI x9), (10, vI x10), (11, vI x11), (12, vI x12), (13, vI x13), (14, vI x14), (15, vI x15), (17, vI x17), (18, vI x18), (19, vI x19), (21, vI x21)] [vI y189] s186 Q := by
                refine r_istore dL_route_461 (by decide) rfl ?_
                refine MWF.sub [1, 2, 3, 4, 5, 6, 7, 8, 9, 10, 11, 12, 13, 14, 15, 16, 17, 18, 19, 0, 20] rfl ?_
                exact h
              refine r_icmp_ge (tgt := 459) dL_route_451 (by decide) (fun (c188 : x20 ≤ ((r182 + x4) + r185)) => ?_) (fun (c188 : ¬ (x20 ≤ ((r182 + x4) + r185))) => ?_)
              · refine r_iload 20 dL_route_459 rfl ?_
                refine MWF.sub [1, 2, 3, 4, 5, 6, 7, 8, 9, 10, 11, 12, 13, 14, 15, 16, 17, 18, 19, 21] rfl ?_
                have q191 : y189 = x20 := by rw [ey189, if_pos c188]
                rw [q191] at hj190
                exact hj190
              · refine r_iload 0 dL_route_454 rfl ?_
                refine r_goto (tgt := 461) dL_route_456 (by decide) ?_
                refine MWF.sub [1, 2, 3, 4, 5, 6, 7, 8, 9, 10, 11, 12, 13, 14, 15, 16, 17, 18, 19, 21] rfl ?_
                have q192 : y189 = ((r182 + x4) + r185) := by rw [ey189, if_neg c188]
                rw [q192] at hj190
                exact hj190
          · replace h := h.2 c169
            refine r_iconst dL_route_379 (by decide) ?_
            exact r_zret dL_route_380 rfl (by decide) ⟨_, rfl, h⟩
        refine r_icmp_ge (tgt := 375) dL_route_368 (by decide) (fun (c164 : x9 ≤ x21) => ?_) (fun (c164 : ¬ (x9 ≤ x21)) => ?_)
        · refine r_iconst dL_route_375 (by decide) ?_
          refine MWF.sub [0, 1, 2, 3, 4, 5, 6, 7, 8, 9, 10, 11, 12, 13, 14, 15, 16, 17, 18, 19, 20] rfl ?_
          have q167 : y165 = 0 := by rw [ey165, if_pos c164]
          rw [q167] at hj166
          exact hj166
        · refine r_iconst dL_route_371 (by decide) ?_
          refine r_goto (tgt := 376) dL_route_372 (by decide) ?_
          refine MWF.sub [0, 1, 2, 3, 4, 5, 6, 7, 8, 9, 10, 11, 12, 13, 14, 15, 16, 17, 18, 19, 20] rfl ?_
          have q168 : y165 = 1 := by rw [ey165, if_neg c164]
          rw [q168] at hj166
          exact hj166
    refine r_icmp_ne (tgt := 350) dL_route_343 (by decide) (fun (c157 : r155 = 1) => ?_) (fun (c157 : ¬ (r155 = 1)) => ?_)
    · refine r_iconst dL_route_346 (by decide) ?_
      refine r_goto (tgt := 351) dL_route_347 (by decide) ?_
      refine MWF.sub [0, 1, 2, 3, 4, 5, 6, 7, 8, 9, 10, 11, 12, 13, 14, 15, 16, 17, 18, 19, 20] rfl ?_
      have q160 : y158 = 1 := by rw [ey158, if_pos c157]
      rw [q160] at hj159
      exact hj159
    · refine r_iconst dL_route_350 (by decide) ?_
      refine MWF.sub [0, 1, 2, 3, 4, 5, 6, 7, 8, 9, 10, 11, 12, 13, 14, 15, 16, 17, 18, 19, 20] rfl ?_
      have q161 : y158 = 0 := by rw [ey158, if_neg c157]
      rw [q161] at hj159
      exact hj159
  · replace h := h.2 c154
    obtain ⟨b193, h⟩ := h
    refine r_iinc 20 dL_route_356 rfl (by decide) b193 rfl ?_
    refine r_goto (tgt := 321) dL_route_359 (by decide) ?_
    refine MWF.sub [1, 2, 3, 4, 5, 6, 7, 8, 9, 10, 11, 12, 13, 14, 15, 16, 17, 18, 19, 20, 0] rfl ?_
    exact h
set_option maxRecDepth 100000 in
set_option maxHeartbeats 4000000 in
theorem vcL_route_463 (l : Launch) (G : GT) (σ : Sto) (Q : Int → Sto → Prop) (x2 : Int) (x3 : Int) (x4 : Int) (x5 : Int) (x6 : Int) (x7 : Int) (x8 : Int) (x9 : Int) (x10 : Int) (x11 : Int) (x12 : Int) (x13 : Int) (x14 : Int) (x15 : Int) (x17 : Int) (x18 : Int) (x19 : Int) (x20 : Int) (x21 : Int)
    (h : (x11 = 0 → CLi l G mX7_request [vR 0, vI x10, vI 1] σ (fun r195 s196 => MWi l G mL_route 488 [(0, vR 0), (1, vR 56), (2, vI x2), (3, vI x3), (4, vI x4), (5, vI x5), (7, vI x7), (8, vI x8), (9, vI x9), (10, vI x10), (11, vI x11), (12, vI x12), (13, vI x13), (14, vI x14), (15, vI x15), (17, vI x17), (18, vI x18), (19, vI x19), (20, vI x20), (21, vI x21)] [vI r195, vI x6] s196 Q)) ∧ (¬ (x11 = 0) → CLi l G mX7_request [vR 0, vI x10, vI 1] σ (fun r197 s198 => (-2147483648 ≤ -r197 ∧ -r197 ≤ 2147483647) ∧ MWi l G mL_route 488 [(0, vR 0), (1, vR 56), (2, vI x2), (3, vI x3), (4, vI x4), (5, vI x5), (7, vI x7), (8, vI x8), (9, vI x9), (10, vI x10), (11, vI x11), (12, vI x12), (13, vI x13), (14, vI x14), (15, vI x15), (17, vI x17), (18, vI x18), (19, vI x19), (20, vI x20), (21, vI x21)] [vI (-r197), vI x6] s198 Q))) :
    MWi l G mL_route 463 [(0, vR 0), (1, vR 56), (2, vI x2), (3, vI x3), (4, vI x4), (5, vI x5), (6, vI x6), (7, vI x7), (8, vI x8), (9, vI x9), (10, vI x10), (11, vI x11), (12, vI x12), (13, vI x13), (14, vI x14), (15, vI x15), (17, vI x17), (18, vI x18), (19, vI x19), (20, vI x20), (21, vI x21)] [] σ Q := by
  refine r_iload 6 dL_route_463 rfl ?_
  refine r_iload 11 dL_route_465 rfl ?_
  refine r_if_eq (tgt := 481) dL_route_467 (by decide) (fun (c194 : x11 = 0) => ?_) (fun (c194 : ¬ (x11 = 0)) => ?_)
  · replace h := h.1 c194
    refine r_aload_n 0 dL_route_481 rfl rfl ?_
    refine r_iload 10 dL_route_482 rfl ?_
    refine r_iconst dL_route_484 (by decide) ?_
    refine r_callV [vI x10, vI 1] [vI x6] dL_route_485 okX7_request ivX7_request seX7_request lm_L_36 rfl rfl sh_0 rfl ⟨Nat.le_of_ble_eq_true rfl, Nat.le_of_ble_eq_true rfl, Nat.le_of_ble_eq_true rfl, Nat.le_of_ble_eq_true rfl⟩ h ?_
    rintro _ s196 ⟨r195, rfl, h⟩
    refine MWF.sub [0, 1, 2, 3, 4, 5, 7, 8, 9, 10, 11, 12, 13, 14, 15, 16, 17, 18, 19, 20] rfl ?_
    exact h
  · replace h := h.2 c194
    refine r_aload_n 0 dL_route_470 rfl rfl ?_
    refine r_iload 10 dL_route_471 rfl ?_
    refine r_iconst dL_route_473 (by decide) ?_
    refine r_callV [vI x10, vI 1] [vI x6] dL_route_474 okX7_request ivX7_request seX7_request lm_L_36 rfl rfl sh_0 rfl ⟨Nat.le_of_ble_eq_true rfl, Nat.le_of_ble_eq_true rfl, Nat.le_of_ble_eq_true rfl, Nat.le_of_ble_eq_true rfl⟩ h ?_
    rintro _ s198 ⟨r197, rfl, h⟩
    obtain ⟨b199, h⟩ := h
    refine r_ineg dL_route_477 b199 ?_
    refine r_goto (tgt := 488) dL_route_478 (by decide) ?_
    refine MWF.sub [0, 1, 2, 3, 4, 5, 7, 8, 9, 10, 11, 12, 13, 14, 15, 16, 17, 18, 19, 20] rfl ?_
    exact h
set_option maxRecDepth 100000 in
set_option maxHeartbeats 4000000 in
theorem vcL_route_488 (l : Launch) (G : GT) (σ : Sto) (Q : Int → Sto → Prop) (x2 : Int) (x3 : Int) (x4 : Int) (x5 : Int) (x7 : Int) (x8 : Int) (x9 : Int) (x10 : Int) (x11 : Int) (x12 : Int) (x13 : Int) (x14 : Int) (x15 : Int) (x17 : Int) (x18 : Int) (x19 : Int) (x20 : Int) (x21 : Int) (z0 : Int) (z1 : Int)
    (h : (-2147483648 ≤ z1 + z0 ∧ z1 + z0 ≤ 2147483647) ∧ ∀ y202 : Int, y202 = (if (z1 + z0) ≤ x7 then x7 else (z1 + z0)) → (x9 = 0 → MWi l G mL_route 533 [(0, vR 0), (1, vR 56), (2, vI x2), (3, vI x3), (4, vI x4), (6, vI (z1 + z0)), (7, vI y202), (8, vI x8), (9, vI x9), (10, vI x10), (11, vI x11), (13, vI x13), (14, vI x14), (15, vI x15), (17, vI x17), (18, vI x18), (19, vI x19), (20, vI x20), (21, vI x21)] [vI 0, vI x5] σ Q) ∧ (¬ (x9 = 0) → (-2147483648 ≤ x9 - 1 ∧ x9 - 1 ≤ 2147483647) ∧ CLi l G mL_at [vR 0, vI x2, vI (x9 - 1)] σ (fun r208 s209 => CLi l G mL_far [vR 56, vI r208, vI x12] s209 (fun r210 s211 => MWi l G mL_route 533 [(0, vR 0), (1, vR 56), (2, vI x2), (3, vI x3), (4, vI x4), (6, vI (z1 + z0)), (7, vI y202), (8, vI x8), (9, vI x9), (10, vI x10), (11, vI x11), (13, vI x13), (14, vI x14), (15, vI x15), (17, vI x17), (18, vI x18), (19, vI x19), (20, vI x20), (21, vI x21)] [vI r210, vI x5] s211 Q)))) :
    MWi l G mL_route 488 [(0, vR 0), (1, vR 56), (2, vI x2), (3, vI x3), (4, vI x4), (5, vI x5), (7, vI x7), (8, vI x8), (9, vI x9), (10, vI x10), (11, vI x11), (12, vI x12), (13, vI x13), (14, vI x14), (15, vI x15), (17, vI x17), (18, vI x18), (19, vI x19), (20, vI x20), (21, vI x21)] [vI z0, vI z1] σ Q := by
  obtain ⟨b200, h⟩ := h
  refine r_iadd dL_route_488 b200 ?_
  refine r_istore dL_route_489 (by decide) rfl ?_
  refine r_iload 0 dL_route_491 rfl ?_
  refine r_iload 7 dL_route_493 rfl ?_
  obtain ⟨y202, ey202⟩ : ∃ z : Int, z = (if (z1 + z0) ≤ x7 then x7 else (z1 + z0)) := ⟨_, rfl⟩
  replace h := h y202 ey202
  have hj203 : MWi l G mL_route 505 [(0, vR 0), (1, vR 56), (2, vI x2), (3, vI x3), (4, vI x4), (5, vI x5), (6, vI (z1 + z0)), (8, vI x8), (9, vI x9), (10, vI x10), (11, vI x11), (12, vI x12), (13, vI x13), (14, vI x14), (15, vI x15), (17, vI x17), (18, vI x18), (19, vI x19), (20, vI x20), (21, vI x21)] [vI y202] σ Q := by
    refine r_istore dL_route_505 (by decide) rfl ?_
    refine r_iload 6 dL_route_507 rfl ?_
    refine r_iload 9 dL_route_509 rfl ?_
    refine r_if_ne (tgt := 518) dL_route_511 (by decide) (fun (c206 : x9 = 0) => ?_) (fun (c206 : ¬ (x9 = 0)) => ?_)
    · replace h := h.1 c206
      refine r_iconst dL_route_514 (by decide) ?_
      refine r_goto (tgt := 533) dL_route_515 (by decide) ?_
      refine MWF.sub [1, 2, 3, 4, 5, 7, 0, 8, 9, 10, 11, 13, 14, 15, 16, 17, 18, 19, 20] rfl ?_
      exact h
    · replace h := h.2 c206
      refine r_aload_n 2 dL_route_518 rfl rfl ?_
      refine r_aload_n 1 dL_route_519 rfl rfl ?_
      refine r_iload_n 3 dL_route_520 rfl rfl ?_
      refine r_iload 9 dL_route_521 rfl ?_
      refine r_iconst dL_route_523 (by decide) ?_
      obtain ⟨b207, h⟩ := h
      refine r_isub dL_route_524 b207 ?_
      refine r_callS [vR 0, vI x2, vI (x9 - 1)] [vR 56, vI x5] dL_route_525 okL_at ssL_at lm_L_28 rfl rfl ⟨Nat.le_of_ble_eq_true rfl, Nat.le_of_ble_eq_true rfl, Nat.le_of_ble_eq_true rfl, Nat.le_of_ble_eq_true rfl⟩ h ?_
      rintro _ s209 ⟨r208, rfl, h⟩
      refine r_iload 12 dL_route_528 rfl ?_
      refine r_callS [vR 56, vI r208, vI x12] [vI x5] dL_route_530 okL_far ssL_far lm_L_32 rfl rfl ⟨Nat.le_of_ble_eq_true rfl, Nat.le_of_ble_eq_true rfl, Nat.le_of_ble_eq_true rfl, Nat.le_of_ble_eq_true rfl⟩ h ?_
      rintro _ s211 ⟨r210, rfl, h⟩
      refine MWF.sub [1, 2, 3, 4, 5, 7, 0, 8, 9, 10, 11, 13, 14, 15, 16, 17, 18, 19, 20] rfl ?_
      exact h
  refine r_icmp_le (tgt := 503) dL_route_495 (by decide) (fun (c201 : (z1 + z0) ≤ x7) => ?_) (fun (c201 : ¬ ((z1 + z0) ≤ x7)) => ?_)
  · refine r_iload 7 dL_route_503 rfl ?_
    refine MWF.sub [1, 2, 3, 4, 5, 6, 0, 8, 9, 10, 11, 12, 13, 14, 15, 16, 17, 18, 19, 20] rfl ?_
    have q204 : y202 = x7 := by rw [ey202, if_pos c201]
    rw [q204] at hj203
    exact hj203
  · refine r_iload 0 dL_route_498 rfl ?_
    refine r_goto (tgt := 505) dL_route_500 (by decide) ?_
    refine MWF.sub [1, 2, 3, 4, 5, 6, 0, 8, 9, 10, 11, 12, 13, 14, 15, 16, 17, 18, 19, 20] rfl ?_
    have q205 : y202 = (z1 + z0) := by rw [ey202, if_neg c201]
    rw [q205] at hj203
    exact hj203
set_option maxRecDepth 100000 in
set_option maxHeartbeats 4000000 in
theorem vcL_route_533 (l : Launch) (G : GT) (σ : Sto) (Q : Int → Sto → Prop) (x2 : Int) (x3 : Int) (x4 : Int) (x6 : Int) (x7 : Int) (x8 : Int) (x9 : Int) (x10 : Int) (x11 : Int) (x13 : Int) (x14 : Int) (x15 : Int) (x17 : Int) (x18 : Int) (x19 : Int) (x20 : Int) (x21 : Int) (z0 : Int) (z1 : Int)
    (h : (-2147483648 ≤ z1 + z0 ∧ z1 + z0 ≤ 2147483647) ∧ (0 ≤ x10 ∧ x10 < 31) ∧ (0 ≤ x8) ∧ (0 ≤ ((2 ^ x10.toNat : Nat) : Int)) ∧ (x13 = x19 → (x14 = x20 → (x14 < x13 → Q 0 σ) ∧ (¬ (x14 < x13) → CLi l G mX7_stop [vR 0, vI x2, vI x9, vI 5] σ (fun r219 s220 => (-2147483648 ≤ x13 - x15 ∧ x13 - x15 ≤ 2147483647) ∧ (r219 = (x13 - x15) → CLi l G mX7_stop [vR 0, vI x2, vI x9, vI 5] s220 (fun r223 s224 => (r223 < 0 → Q 0 s224) ∧ (¬ (r223 < 0) → CLi l G mX7_stop [vR 0, vI x2, vI x9, vI 4] s224 (fun r226 s227 => (r226 = x6 → CLi l G mX7_request [vR 0, vI x10, vI 0] s227 (fun r229 s230 => (r229 = x2 → (x18 < x13 → Q 0 s230) ∧ (¬ (x18 < x13) → (x17 ≤ x14 → (x11 = 0 → MWi l G mL_route 720 [(0, vR 0), (1, vR 56), (2, vI x2), (3, vI x3), (4, vI x4), (5, vI (z1 + z0)), (6, vI x6), (7, vI x7), (8, vI ((x8.toNat ||| ((2 ^ x10.toNat : Nat) : Int).toNat : Nat) : Int)), (9, vI x9)] [] s230 Q) ∧ (¬ (x11 = 0) → CLi l G mX7_stop [vR 0, vI x2, vI x21, vI 2] s230 (fun r235 s236 => (-2147483648 ≤ x13 - r235 ∧ x13 - r235 ≤ 2147483647) ∧ (-2147483648 ≤ (x13 - r235) - x4 ∧ (x13 - r235) - x4 ≤ 2147483647) ∧ CLi l G mX7_stop [vR 0, vI x2, vI x21, vI 3] s236 (fun r239 s240 => (-2147483648 ≤ x14 - r239 ∧ x14 - r239 ≤ 2147483647) ∧ (-2147483648 ≤ (x14 - r239) - x4 ∧ (x14 - r239) - x4 ≤ 2147483647) ∧ CLi l G mX7_rideTime [vR 0, vI x10, vI 0] s240 (fun r243 s244 => (r243 = ((x13 - r235) - x4) → CLi l G mX7_rideTime [vR 0, vI x10, vI 1] s244 (fun r246 s247 => (r246 = ((x14 - r239) - x4) → CLi l G mX7_request [vR 0, vI x10, vI 2] s247 (fun r249 s250 => (r249 < ((x13 - r235) - x4) → Q 0 s250) ∧ (¬ (r249 < ((x13 - r235) - x4)) → CLi l G mX7_request [vR 0, vI x10, vI 2] s250 (fun r252 s253 => (((x14 - r239) - x4) ≤ r252 → MWi l G mL_route 720 [(0, vR 0), (1, vR 56), (2, vI x2), (3, vI x3), (4, vI x4), (5, vI (z1 + z0)), (6, vI x6), (7, vI x7), (8, vI ((x8.toNat ||| ((2 ^ x10.toNat : Nat) : Int).toNat : Nat) : Int)), (9, vI x9)] [] s253 Q) ∧ (¬ (((x14 - r239) - x4) ≤ r252) → Q 0 s253))))) ∧ (¬ (r246 = ((x14 - r239) - x4)) → Q 0 s247))) ∧ (¬ (r243 = ((x13 - r235) - x4)) → Q 0 s244)))))) ∧ (¬ (x17 ≤ x14) → Q 0 s230))) ∧ (¬ (r229 = x2) → Q 0 s230))) ∧ (¬ (r226 = x6) → Q 0 s227))))) ∧ (¬ (r219 = (x13 - x15)) → Q 0 s220)))) ∧ (¬ (x14 = x20) → Q 0 σ)) ∧ (¬ (x13 = x19) → Q 0 σ)) :
    MWi l G mL_route 533 [(0, vR 0), (1, vR 56), (2, vI x2), (3, vI x3), (4, vI x4), (6, vI x6), (7, vI x7), (8, vI x8), (9, vI x9), (10, vI x10), (11, vI x11), (13, vI x13), (14, vI x14), (15, vI x15), (17, vI x17), (18, vI x18), (19, vI x19), (20, vI x20), (21, vI x21)] [vI z0, vI z1] σ Q := by
  obtain ⟨b212, h⟩ := h
  refine r_iadd dL_route_533 b212 ?_
  refine r_istore dL_route_534 (by decide) rfl ?_
  refine r_iload 8 dL_route_536 rfl ?_
  refine r_iconst dL_route_538 (by decide) ?_
  refine r_iload 10 dL_route_539 rfl ?_
  obtain ⟨b213, h⟩ := h
  refine r_shl1 dL_route_541 b213.1 b213.2 ?_
  obtain ⟨b214, h⟩ := h
  obtain ⟨b215, h⟩ := h
  refine r_ior dL_route_542 b214 b215 ?_
  refine r_istore dL_route_543 (by decide) rfl ?_
  refine r_iload 12 dL_route_545 rfl ?_
  refine r_iload 17 dL_route_547 rfl ?_
  refine r_icmp_ne (tgt := 631) dL_route_549 (by decide) (fun (c216 : x13 = x19) => ?_) (fun (c216 : ¬ (x13 = x19)) => ?_)
  · replace h := h.1 c216
    refine r_iload 13 dL_route_552 rfl ?_
    refine r_iload 18 dL_route_554 rfl ?_
    refine r_icmp_ne (tgt := 631) dL_route_556 (by decide) (fun (c217 : x14 = x20) => ?_) (fun (c217 : ¬ (x14 = x20)) => ?_)
    · replace h := h.1 c217
      refine r_iload 12 dL_route_559 rfl ?_
      refine r_iload 13 dL_route_561 rfl ?_
      refine r_icmp_gt (tgt := 631) dL_route_563 (by decide) (fun (c218 : x14 < x13) => ?_) (fun (c218 : ¬ (x14 < x13)) => ?_)
      · replace h := h.1 c218
        refine r_iconst dL_route_631 (by decide) ?_
        exact r_zret dL_route_632 rfl (by decide) ⟨_, rfl, h⟩
      · replace h := h.2 c218
        refine r_aload_n 2 dL_route_566 rfl rfl ?_
        refine r_iload_n 4 dL_route_567 rfl rfl ?_
        refine r_iload 9 dL_route_568 rfl ?_
        refine r_iconst dL_route_570 (by decide) ?_
        refine r_callV [vI x2, vI x9, vI 5] [] dL_route_571 okX7_stop ivX7_stop seX7_stop lm_L_15 rfl rfl sh_0 rfl ⟨Nat.le_of_ble_eq_true rfl, Nat.le_of_ble_eq_true rfl, Nat.le_of_ble_eq_true rfl, Nat.le_of_ble_eq_true rfl⟩ h ?_
        rintro _ s220 ⟨r219, rfl, h⟩
        refine r_iload 12 dL_route_574 rfl ?_
        refine r_iload 14 dL_route_576 rfl ?_
        obtain ⟨b221, h⟩ := h
        refine r_isub dL_route_578 b221 ?_
        refine r_icmp_ne (tgt := 631) dL_route_579 (by decide) (fun (c222 : r219 = (x13 - x15)) => ?_) (fun (c222 : ¬ (r219 = (x13 - x15))) => ?_)
        · replace h := h.1 c222
          refine r_aload_n 2 dL_route_582 rfl rfl ?_
          refine r_iload_n 4 dL_route_583 rfl rfl ?_
          refine r_iload 9 dL_route_584 rfl ?_
          refine r_iconst dL_route_586 (by decide) ?_
          refine r_callV [vI x2, vI x9, vI 5] [] dL_route_587 okX7_stop ivX7_stop seX7_stop lm_L_15 rfl rfl sh_0 rfl ⟨Nat.le_of_ble_eq_true rfl, Nat.le_of_ble_eq_true rfl, Nat.le_of_ble_eq_true rfl, Nat.le_of_ble_eq_true rfl⟩ h ?_
          rintro _ s224 ⟨r223, rfl, h⟩
          refine r_if_lt (tgt := 631) dL_route_590 (by decide) (fun (c225 : r223 < 0) => ?_) (fun (c225 : ¬ (r223 < 0)) => ?_)
          · replace h := h.1 c225
            refine r_iconst dL_route_631 (by decide) ?_
            exact r_zret dL_route_632 rfl (by decide) ⟨_, rfl, h⟩
          · replace h := h.2 c225
            refine r_aload_n 2 dL_route_593 rfl rfl ?_
            refine r_iload_n 4 dL_route_594 rfl rfl ?_
            refine r_iload 9 dL_route_595 rfl ?_
            refine r_iconst dL_route_597 (by decide) ?_
            refine r_callV [vI x2, vI x9, vI 4] [] dL_route_598 okX7_stop ivX7_stop seX7_stop lm_L_15 rfl rfl sh_0 rfl ⟨Nat.le_of_ble_eq_true rfl, Nat.le_of_ble_eq_true rfl, Nat.le_of_ble_eq_true rfl, Nat.le_of_ble_eq_true rfl⟩ h ?_
            rintro _ s227 ⟨r226, rfl, h⟩
            refine r_iload 7 dL_route_601 rfl ?_
            refine r_icmp_ne (tgt := 631) dL_route_603 (by decide) (fun (c228 : r226 = x6) => ?_) (fun (c228 : ¬ (r226 = x6)) => ?_)
            · replace h := h.1 c228
              refine r_aload_n 2 dL_route_606 rfl rfl ?_
              refine r_iload 10 dL_route_607 rfl ?_
              refine r_iconst dL_route_609 (by decide) ?_
              refine r_callV [vI x10, vI 0] [] dL_route_610 okX7_request ivX7_request seX7_request lm_L_36 rfl rfl sh_0 rfl ⟨Nat.le_of_ble_eq_true rfl, Nat.le_of_ble_eq_true rfl, Nat.le_of_ble_eq_true rfl, Nat.le_of_ble_eq_true rfl⟩ h ?_
              rintro _ s230 ⟨r229, rfl, h⟩
              refine r_iload_n 4 dL_route_613 rfl rfl ?_
              refine r_icmp_ne (tgt := 631) dL_route_614 (by decide) (fun (c231 : r229 = x2) => ?_) (fun (c231 : ¬ (r229 = x2)) => ?_)
              · replace h := h.1 c231
                refine r_iload 12 dL_route_617 rfl ?_
                refine r_iload 16 dL_route_619 rfl ?_
                refine r_icmp_gt (tgt := 631) dL_route_621 (by decide) (fun (c232 : x18 < x13) => ?_) (fun (c232 : ¬ (x18 < x13)) => ?_)
                · replace h := h.1 c232
                  refine r_iconst dL_route_631 (by decide) ?_
                  exact r_zret dL_route_632 rfl (by decide) ⟨_, rfl, h⟩
                · replace h := h.2 c232
                  refine r_iload 13 dL_route_624 rfl ?_
                  refine r_iload 15 dL_route_626 rfl ?_
                  refine r_icmp_ge (tgt := 633) dL_route_628 (by decide) (fun (c233 : x17 ≤ x14) => ?_) (fun (c233 : ¬ (x17 ≤ x14)) => ?_)
                  · replace h := h.1 c233
                    refine r_iload 11 dL_route_633 rfl ?_
                    refine r_if_eq (tgt := 720) dL_route_635 (by decide) (fun (c234 : x11 = 0) => ?_) (fun (c234 : ¬ (x11 = 0)) => ?_)
                    · replace h := h.1 c234
                      refine MWF.sub [2, 3, 4, 5, 6, 1, 7, 8, 0, 9] rfl ?_
                      exact h
                    · replace h := h.2 c234
                      refine r_iload 12 dL_route_638 rfl ?_
                      refine r_aload_n 2 dL_route_640 rfl rfl ?_
                      refine r_iload_n 4 dL_route_641 rfl rfl ?_
                      refine r_iload 19 dL_route_642 rfl ?_
                      refine r_iconst dL_route_644 (by decide) ?_
                      refine r_callV [vI x2, vI x21, vI 2] [vI x13] dL_route_645 okX7_stop ivX7_stop seX7_stop lm_L_15 rfl rfl sh_0 rfl ⟨Nat.le_of_ble_eq_true rfl, Nat.le_of_ble_eq_true rfl, Nat.le_of_ble_eq_true rfl, Nat.le_of_ble_eq_true rfl⟩ h ?_
                      rintro _ s236 ⟨r235, rfl, h⟩
                      obtain ⟨b237, h⟩ := h
                      refine r_isub dL_route_648 b237 ?_
                      refine r_iload 6 dL_route_649 rfl ?_
                      obtain ⟨b238, h⟩ := h
                      refine r_isub dL_route_651 b238 ?_
                      refine r_istore dL_route_652 (by decide) rfl ?_
                      refine r_iload 14 dL_route_654 rfl ?_
                      refine r_aload_n 3 dL_route_656 rfl rfl ?_
                      refine r_iload_n 5 dL_route_657 rfl rfl ?_
                      refine r_iload 20 dL_route_658 rfl ?_
                      refine r_iconst dL_route_660 (by decide) ?_
                      refine r_callV [vI x2, vI x21, vI 3] [vI x14] dL_route_661 okX7_stop ivX7_stop seX7_stop lm_L_15 rfl rfl sh_0 rfl ⟨Nat.le_of_ble_eq_true rfl, Nat.le_of_ble_eq_true rfl, Nat.le_of_ble_eq_true rfl, Nat.le_of_ble_eq_true rfl⟩ h ?_
                      rintro _ s240 ⟨r239, rfl, h⟩
                      obtain ⟨b241, h⟩ := h
                      refine r_isub dL_route_664 b241 ?_
                      refine r_iload 7 dL_route_665 rfl ?_
                      obtain ⟨b242, h⟩ := h
                      refine r_isub dL_route_667 b242 ?_
                      refine r_istore dL_route_668 (by decide) rfl ?_
                      refine r_aload_n 4 dL_route_670 rfl rfl ?_
                      refine r_iload 12 dL_route_671 rfl ?_
                      refine r_iconst dL_route_673 (by decide) ?_
                      refine r_callV [vI x10, vI 0] [] dL_route_674 okX7_rideTime ivX7_rideTime seX7_rideTime lm_L_39 rfl rfl sh_0 rfl ⟨Nat.le_of_ble_eq_true rfl, Nat.le_of_ble_eq_true rfl, Nat.le_of_ble_eq_true rfl, Nat.le_of_ble_eq_true rfl⟩ h ?_
                      rintro _ s244 ⟨r243, rfl, h⟩
                      refine r_iload 1 dL_route_677 rfl ?_
                      refine r_icmp_ne (tgt := 718) dL_route_679 (by decide) (fun (c245 : r243 = ((x13 - r235) - x4)) => ?_) (fun (c245 : ¬ (r243 = ((x13 - r235) - x4))) => ?_)
                      · replace h := h.1 c245
                        refine r_aload_n 4 dL_route_682 rfl rfl ?_
                        refine r_iload 12 dL_route_683 rfl ?_
                        refine r_iconst dL_route_685 (by decide) ?_
                        refine r_callV [vI x10, vI 1] [] dL_route_686 okX7_rideTime ivX7_rideTime seX7_rideTime lm_L_39 rfl rfl sh_0 rfl ⟨Nat.le_of_ble_eq_true rfl, Nat.le_of_ble_eq_true rfl, Nat.le_of_ble_eq_true rfl, Nat.le_of_ble_eq_true rfl⟩ h ?_
                        rintro _ s247 ⟨r246, rfl, h⟩
                        refine r_iload 0 dL_route_689 rfl ?_
                        refine r_icmp_ne (tgt := 718) dL_route_691 (by decide) (fun (c248 : r246 = ((x14 - r239) - x4)) => ?_) (fun (c248 : ¬ (r246 = ((x14 - r239) - x4))) => ?_)
                        · replace h := h.1 c248
                          refine r_iload 1 dL_route_694 rfl ?_
                          refine r_aload_n 4 dL_route_696 rfl rfl ?_
                          refine r_iload 12 dL_route_697 rfl ?_
                          refine r_iconst dL_route_699 (by decide) ?_
                          refine r_callV [vI x10, vI 2] [vI ((x13 - r235) - x4)] dL_route_700 okX7_request ivX7_request seX7_request lm_L_36 rfl rfl sh_0 rfl ⟨Nat.le_of_ble_eq_true rfl, Nat.le_of_ble_eq_true rfl, Nat.le_of_ble_eq_true rfl, Nat.le_of_ble_eq_true rfl⟩ h ?_
                          rintro _ s250 ⟨r249, rfl, h⟩
                          refine r_icmp_gt (tgt := 718) dL_route_703 (by decide) (fun (c251 : r249 < ((x13 - r235) - x4)) => ?_) (fun (c251 : ¬ (r249 < ((x13 - r235) - x4))) => ?_)
                          · replace h := h.1 c251
                            refine r_iconst dL_route_718 (by decide) ?_
                            exact r_zret dL_route_719 rfl (by decide) ⟨_, rfl, h⟩
                          · replace h := h.2 c251
                            refine r_iload 0 dL_route_706 rfl ?_
                            refine r_aload_n 4 dL_route_708 rfl rfl ?_
                            refine r_iload 12 dL_route_709 rfl ?_
                            refine r_iconst dL_route_711 (by decide) ?_
                            refine r_callV [vI x10, vI 2] [vI ((x14 - r239) - x4)] dL_route_712 okX7_request ivX7_request seX7_request lm_L_36 rfl rfl sh_0 rfl ⟨Nat.le_of_ble_eq_true rfl, Nat.le_of_ble_eq_true rfl, Nat.le_of_ble_eq_true rfl, Nat.le_of_ble_eq_true rfl⟩ h ?_
                            rintro _ s253 ⟨r252, rfl, h⟩
                            refine r_icmp_le (tgt := 720) dL_route_715 (by decide) (fun (c254 : ((x14 - r239) - x4) ≤ r252) => ?_) (fun (c254 : ¬ (((x14 - r239) - x4) ≤ r252)) => ?_)
                            · replace h := h.1 c254
                              refine MWF.sub [4, 5, 6, 7, 8, 3, 9, 10, 2, 11] rfl ?_
                              exact h
                            · replace h := h.2 c254
                              refine r_iconst dL_route_718 (by decide) ?_
                              exact r_zret dL_route_719 rfl (by decide) ⟨_, rfl, h⟩
                        · replace h := h.2 c248
                          refine r_iconst dL_route_718 (by decide) ?_
                          exact r_zret dL_route_719 rfl (by decide) ⟨_, rfl, h⟩
                      · replace h := h.2 c245
                        refine r_iconst dL_route_718 (by decide) ?_
                        exact r_zret dL_route_719 rfl (by decide) ⟨_, rfl, h⟩
                  · replace h := h.2 c233
                    refine r_iconst dL_route_631 (by decide) ?_
                    exact r_zret dL_route_632 rfl (by decide) ⟨_, rfl, h⟩
              · replace h := h.2 c231
                refine r_iconst dL_route_631 (by decide) ?_
                exact r_zret dL_route_632 rfl (by decide) ⟨_, rfl, h⟩
            · replace h := h.2 c228
              refine r_iconst dL_route_631 (by decide) ?_
              exact r_zret dL_route_632 rfl (by decide) ⟨_, rfl, h⟩
        · replace h := h.2 c222
          refine r_iconst dL_route_631 (by decide) ?_
          exact r_zret dL_route_632 rfl (by decide) ⟨_, rfl, h⟩
    · replace h := h.2 c217
      refine r_iconst dL_route_631 (by decide) ?_
      exact r_zret dL_route_632 rfl (by decide) ⟨_, rfl, h⟩
  · replace h := h.2 c216
    refine r_iconst dL_route_631 (by decide) ?_
    exact r_zret dL_route_632 rfl (by decide) ⟨_, rfl, h⟩
set_option maxRecDepth 100000 in
set_option maxHeartbeats 4000000 in
theorem vcL_route_720 (l : Launch) (G : GT) (σ : Sto) (Q : Int → Sto → Prop) (x2 : Int) (x3 : Int) (x4 : Int) (x5 : Int) (x6 : Int) (x7 : Int) (x8 : Int) (x9 : Int)
    (h : (-2147483648 ≤ x9 + 1 ∧ x9 + 1 ≤ 2147483647) ∧ MWi l G mL_route 67 [(0, vR 0), (1, vR 56), (2, vI x2), (3, vI x3), (4, vI x4), (5, vI x5), (6, vI x6), (7, vI x7), (8, vI x8), (9, vI (x9 + 1))] [] σ Q) :
    MWi l G mL_route 720 [(0, vR 0), (1, vR 56), (2, vI x2), (3, vI x3), (4, vI x4), (5, vI x5), (6, vI x6), (7, vI x7), (8, vI x8), (9, vI x9)] [] σ Q := by
  obtain ⟨b255, h⟩ := h
  refine r_iinc 9 dL_route_720 rfl (by decide) b255 rfl ?_
  refine r_goto (tgt := 67) dL_route_723 (by decide) ?_
  refine MWF.sub [1, 2, 3, 4, 5, 6, 7, 8, 9, 0] rfl ?_
  exact h
set_option maxRecDepth 100000 in
set_option maxHeartbeats 4000000 in
theorem clL_plan (l : Launch) (G : GT) (σ : Sto) (Q : Int → Sto → Prop) 
    (h : MWi l G mL_plan 7 [(0, vR 0), (1, vR 56), (2, vI 0), (3, vI 0), (4, vI 0)] [] σ Q) :
    CLi l G mL_plan [vR 0, vR 56] σ Q := by
  show MWi l G mL_plan 0 [(0, vR 0), (1, vR 56)] [] σ Q
  refine r_iconst dL_plan_0 (by decide) ?_
  refine r_istore_n dL_plan_1 rfl (by decide) rfl ?_
  refine r_iconst dL_plan_2 (by decide) ?_
  refine r_istore_n dL_plan_3 rfl (by decide) rfl ?_
  refine r_iconst dL_plan_4 (by decide) ?_
  refine r_istore dL_plan_5 (by decide) rfl ?_
  refine MWF.sub [3, 4, 2, 1, 0] rfl ?_
  exact h
set_option maxRecDepth 100000 in
set_option maxHeartbeats 4000000 in
theorem vcL_plan_7 (l : Launch) (G : GT) (σ : Sto) (Q : Int → Sto → Prop) (x2 : Int) (x3 : Int) (x4 : Int)
    (h : CLi l G mX7_count [vR 0, vI 0] σ (fun r1 s2 => (r1 ≤ x4 → MWi l G mL_plan 61 [(0, vR 0), (1, vR 56), (2, vI x2), (3, vI x3), (4, vI 0), (5, vI 0)] [] s2 Q) ∧ (¬ (r1 ≤ x4) → CLi l G mL_route [vR 0, vR 56, vI x4] s2 (fun r4 s5 => (r4 = 0 → Q 0 s5) ∧ (¬ (r4 = 0) → CLi l G mX7_vehicle [vR 0, vI x4, vI 4] s5 (fun r7 s8 => (-2147483648 ≤ x2 + r7 ∧ x2 + r7 ≤ 2147483647) ∧ CLi l G mX7_vehicle [vR 0, vI x4, vI 3] s8 (fun r10 s11 => (-2147483648 ≤ x3 + r10 ∧ x3 + r10 ≤ 2147483647) ∧ (-2147483648 ≤ x4 + 1 ∧ x4 + 1 ≤ 2147483647) ∧ MWi l G mL_plan 7 [(0, vR 0), (1, vR 56), (2, vI (x2 + r7)), (3, vI (x3 + r10)), (4, vI (x4 + 1))] [] s11 Q))))))) :
    MWi l G mL_plan 7 [(0, vR 0), (1, vR 56), (2, vI x2), (3, vI x3), (4, vI x4)] [] σ Q := by
  refine r_iload 4 dL_plan_7 rfl ?_
  refine r_aload_n 0 dL_plan_9 rfl rfl ?_
  refine r_iconst dL_plan_10 (by decide) ?_
  refine r_callV [vI 0] [vI x4] dL_plan_11 okX7_count ivX7_count seX7_count lm_L_25 rfl rfl sh_0 rfl ⟨Nat.le_of_ble_eq_true rfl, Nat.le_of_ble_eq_true rfl, Nat.le_of_ble_eq_true rfl, Nat.le_of_ble_eq_true rfl⟩ h ?_
  rintro _ s2 ⟨r1, rfl, h⟩
  refine r_icmp_ge (tgt := 55) dL_plan_14 (by decide) (fun (c3 : r1 ≤ x4) => ?_) (fun (c3 : ¬ (r1 ≤ x4)) => ?_)
  · replace h := h.1 c3
    refine r_iconst dL_plan_55 (by decide) ?_
    refine r_istore dL_plan_56 (by decide) rfl ?_
    refine r_iconst dL_plan_58 (by decide) ?_
    refine r_istore dL_plan_59 (by decide) rfl ?_
    refine MWF.sub [2, 3, 4, 5, 1, 0] rfl ?_
    exact h
  · replace h := h.2 c3
    refine r_aload_n 0 dL_plan_17 rfl rfl ?_
    refine r_aload_n 1 dL_plan_18 rfl rfl ?_
    refine r_iload 4 dL_plan_19 rfl ?_
    refine r_callS [vR 0, vR 56, vI x4] [] dL_plan_21 okL_route ssL_route lm_L_46 rfl rfl ⟨Nat.le_of_ble_eq_true rfl, Nat.le_of_ble_eq_true rfl, Nat.le_of_ble_eq_true rfl, Nat.le_of_ble_eq_true rfl⟩ h ?_
    rintro _ s5 ⟨r4, rfl, h⟩
    refine r_if_ne (tgt := 29) dL_plan_24 (by decide) (fun (c6 : r4 = 0) => ?_) (fun (c6 : ¬ (r4 = 0)) => ?_)
    · replace h := h.1 c6
      refine r_iconst dL_plan_27 (by decide) ?_
      exact r_zret dL_plan_28 rfl (by decide) ⟨_, rfl, h⟩
    · replace h := h.2 c6
      refine r_iload_n 2 dL_plan_29 rfl rfl ?_
      refine r_aload_n 0 dL_plan_30 rfl rfl ?_
      refine r_iload 4 dL_plan_31 rfl ?_
      refine r_iconst dL_plan_33 (by decide) ?_
      refine r_callV [vI x4, vI 4] [vI x2] dL_plan_34 okX7_vehicle ivX7_vehicle seX7_vehicle lm_L_21 rfl rfl sh_0 rfl ⟨Nat.le_of_ble_eq_true rfl, Nat.le_of_ble_eq_true rfl, Nat.le_of_ble_eq_true rfl, Nat.le_of_ble_eq_true rfl⟩ h ?_
      rintro _ s8 ⟨r7, rfl, h⟩
      obtain ⟨b9, h⟩ := h
      refine r_iadd dL_plan_37 b9 ?_
      refine r_istore_n dL_plan_38 rfl (by decide) rfl ?_
      refine r_iload_n 3 dL_plan_39 rfl rfl ?_
      refine r_aload_n 1 dL_plan_40 rfl rfl ?_
      refine r_iload 4 dL_plan_41 rfl ?_
      refine r_iconst dL_plan_43 (by decide) ?_
      refine r_callV [vI x4, vI 3] [vI x3] dL_plan_44 okX7_vehicle ivX7_vehicle seX7_vehicle lm_L_21 rfl rfl sh_0 rfl ⟨Nat.le_of_ble_eq_true rfl, Nat.le_of_ble_eq_true rfl, Nat.le_of_ble_eq_true rfl, Nat.le_of_ble_eq_true rfl⟩ h ?_
      rintro _ s11 ⟨r10, rfl, h⟩
      obtain ⟨b12, h⟩ := h
      refine r_iadd dL_plan_47 b12 ?_
      refine r_istore_n dL_plan_48 rfl (by decide) rfl ?_
      obtain ⟨b13, h⟩ := h
      refine r_iinc 4 dL_plan_49 rfl (by decide) b13 rfl ?_
      refine r_goto (tgt := 7) dL_plan_52 (by decide) ?_
      refine MWF.sub [3, 4, 2, 1, 0] rfl ?_
      exact h
set_option maxRecDepth 100000 in
set_option maxHeartbeats 4000000 in
theorem vcL_plan_61 (l : Launch) (G : GT) (σ : Sto) (Q : Int → Sto → Prop) (x2 : Int) (x3 : Int) (x4 : Int) (x5 : Int)
    (h : CLi l G mX7_count [vR 0, vI 1] σ (fun r14 s15 => (r14 ≤ x5 → CLi l G mX7_count [vR 0, vI 3] s15 (fun r17 s18 => (r17 = x2 → CLi l G mX7_count [vR 0, vI 2] s18 (fun r20 s21 => (r20 = x4 → CLi l G mX7_count [vR 0, vI 1] s21 (fun r23 s24 => (-2147483648 ≤ r23 - x4 ∧ r23 - x4 ≤ 2147483647) ∧ (-2147483648 ≤ 2 * (r23 - x4) ∧ 2 * (r23 - x4) ≤ 2147483647) ∧ ∀ y28 : Int, y28 = (if x3 = (2 * (r23 - x4)) then 1 else 0) → Q y28 s24)) ∧ (¬ (r20 = x4) → Q 0 s21))) ∧ (¬ (r17 = x2) → Q 0 s18))) ∧ (¬ (r14 ≤ x5) → CLi l G mX7_request [vR 0, vI x5, vI 0] s15 (fun r32 s33 => ∀ y35 : Int, y35 = (if r32 = (-1007) then 1 else 0) → ∀ y40 : Int, y40 = (if y35 = 0 then 0 else 1) → (-2147483648 ≤ x4 + y40 ∧ x4 + y40 ≤ 2147483647) ∧ CLi l G mX7_rideTime [vR 0, vI x5, vI 0] s33 (fun r45 s46 => ∀ y48 : Int, y48 = (if r45 = (-1004) then 1 else 0) → (y35 = y48 → CLi l G mX7_request [vR 0, vI x5, vI 7] s46 (fun r53 s54 => (-2147483648 ≤ 2 * x5 ∧ 2 * x5 ≤ 2147483647) ∧ (-2147483648 ≤ (2 * x5) + 1 ∧ (2 * x5) + 1 ≤ 2147483647) ∧ CLi l G mL_far [vR 56, vI (2 * x5), vI ((2 * x5) + 1)] s54 (fun r57 s58 => (r53 = r57 → (-2147483648 ≤ x5 + 1 ∧ x5 + 1 ≤ 2147483647) ∧ MWi l G mL_plan 61 [(0, vR 0), (1, vR 56), (2, vI x2), (3, vI x3), (4, vI (x4 + y40)), (5, vI (x5 + 1))] [] s58 Q) ∧ (¬ (r53 = r57) → Q 0 s58)))) ∧ (¬ (y35 = y48) → Q 0 s46)))))) :
    MWi l G mL_plan 61 [(0, vR 0), (1, vR 56), (2, vI x2), (3, vI x3), (4, vI x4), (5, vI x5)] [] σ Q := by
  refine r_iload 5 dL_plan_61 rfl ?_
  refine r_aload_n 0 dL_plan_63 rfl rfl ?_
  refine r_iconst dL_plan_64 (by decide) ?_
  refine r_callV [vI 1] [vI x5] dL_plan_65 okX7_count ivX7_count seX7_count lm_L_25 rfl rfl sh_0 rfl ⟨Nat.le_of_ble_eq_true rfl, Nat.le_of_ble_eq_true rfl, Nat.le_of_ble_eq_true rfl, Nat.le_of_ble_eq_true rfl⟩ h ?_
  rintro _ s15 ⟨r14, rfl, h⟩
  refine r_icmp_ge (tgt := 162) dL_plan_68 (by decide) (fun (c16 : r14 ≤ x5) => ?_) (fun (c16 : ¬ (r14 ≤ x5)) => ?_)
  · replace h := h.1 c16
    refine r_aload_n 0 dL_plan_162 rfl rfl ?_
    refine r_iconst dL_plan_163 (by decide) ?_
    refine r_callV [vI 3] [] dL_plan_164 okX7_count ivX7_count seX7_count lm_L_25 rfl rfl sh_0 rfl ⟨Nat.le_of_ble_eq_true rfl, Nat.le_of_ble_eq_true rfl, Nat.le_of_ble_eq_true rfl, Nat.le_of_ble_eq_true rfl⟩ h ?_
    rintro _ s18 ⟨r17, rfl, h⟩
    refine r_iload_n 2 dL_plan_167 rfl rfl ?_
    refine r_icmp_ne (tgt := 199) dL_plan_168 (by decide) (fun (c19 : r17 = x2) => ?_) (fun (c19 : ¬ (r17 = x2)) => ?_)
    · replace h := h.1 c19
      refine r_aload_n 0 dL_plan_171 rfl rfl ?_
      refine r_iconst dL_plan_172 (by decide) ?_
      refine r_callV [vI 2] [] dL_plan_173 okX7_count ivX7_count seX7_count lm_L_25 rfl rfl sh_0 rfl ⟨Nat.le_of_ble_eq_true rfl, Nat.le_of_ble_eq_true rfl, Nat.le_of_ble_eq_true rfl, Nat.le_of_ble_eq_true rfl⟩ h ?_
      rintro _ s21 ⟨r20, rfl, h⟩
      refine r_iload 4 dL_plan_176 rfl ?_
      refine r_icmp_ne (tgt := 199) dL_plan_178 (by decide) (fun (c22 : r20 = x4) => ?_) (fun (c22 : ¬ (r20 = x4)) => ?_)
      · replace h := h.1 c22
        refine r_iload_n 3 dL_plan_181 rfl rfl ?_
        refine r_iconst dL_plan_182 (by decide) ?_
        refine r_aload_n 0 dL_plan_183 rfl rfl ?_
        refine r_iconst dL_plan_184 (by decide) ?_
        refine r_callV [vI 1] [vI 2, vI x3] dL_plan_185 okX7_count ivX7_count seX7_count lm_L_25 rfl rfl sh_0 rfl ⟨Nat.le_of_ble_eq_true rfl, Nat.le_of_ble_eq_true rfl, Nat.le_of_ble_eq_true rfl, Nat.le_of_ble_eq_true rfl⟩ h ?_
        rintro _ s24 ⟨r23, rfl, h⟩
        refine r_iload 4 dL_plan_188 rfl ?_
        obtain ⟨b25, h⟩ := h
        refine r_isub dL_plan_190 b25 ?_
        obtain ⟨b26, h⟩ := h
        refine r_imul dL_plan_191 b26 ?_
        obtain ⟨y28, ey28⟩ : ∃ z : Int, z = (if x3 = (2 * (r23 - x4)) then 1 else 0) := ⟨_, rfl⟩
        replace h := h y28 ey28
        have hj29 : MWi l G mL_plan 200 [] [vI y28] s24 Q := by
          exact r_zret dL_plan_200 rfl (by rw [ey28]; (repeat' split) <;> decide) ⟨_, rfl, h⟩
        refine r_icmp_ne (tgt := 199) dL_plan_192 (by decide) (fun (c27 : x3 = (2 * (r23 - x4))) => ?_) (fun (c27 : ¬ (x3 = (2 * (r23 - x4)))) => ?_)
        · refine r_iconst dL_plan_195 (by decide) ?_
          refine r_goto (tgt := 200) dL_plan_196 (by decide) ?_
          refine MWF.sub [] rfl ?_
          have q30 : y28 = 1 := by rw [ey28, if_pos c27]
          rw [q30] at hj29
          exact hj29
        · refine r_iconst dL_plan_199 (by decide) ?_
          refine MWF.sub [] rfl ?_
          have q31 : y28 = 0 := by rw [ey28, if_neg c27]
          rw [q31] at hj29
          exact hj29
      · replace h := h.2 c22
        refine r_iconst dL_plan_199 (by decide) ?_
        exact r_zret dL_plan_200 rfl (by decide) ⟨_, rfl, h⟩
    · replace h := h.2 c19
      refine r_iconst dL_plan_199 (by decide) ?_
      exact r_zret dL_plan_200 rfl (by decide) ⟨_, rfl, h⟩
  · replace h := h.2 c16
    refine r_aload_n 0 dL_plan_71 rfl rfl ?_
    refine r_iload 5 dL_plan_72 rfl ?_
    refine r_iconst dL_plan_74 (by decide) ?_
    refine r_callV [vI x5, vI 0] [] dL_plan_75 okX7_request ivX7_request seX7_request lm_L_36 rfl rfl sh_0 rfl ⟨Nat.le_of_ble_eq_true rfl, Nat.le_of_ble_eq_true rfl, Nat.le_of_ble_eq_true rfl, Nat.le_of_ble_eq_true rfl⟩ h ?_
    rintro _ s33 ⟨r32, rfl, h⟩
    refine r_sipush dL_plan_78 (by decide) (by decide) ?_
    obtain ⟨y35, ey35⟩ : ∃ z : Int, z = (if r32 = (-1007) then 1 else 0) := ⟨_, rfl⟩
    replace h := h y35 ey35
    have hj36 : MWi l G mL_plan 89 [(0, vR 0), (1, vR 56), (2, vI x2), (3, vI x3), (4, vI x4), (5, vI x5)] [vI y35] s33 Q := by
      refine r_istore dL_plan_89 (by decide) rfl ?_
      refine r_iload 5 dL_plan_91 rfl ?_
      refine r_iload 0 dL_plan_93 rfl ?_
      obtain ⟨y40, ey40⟩ : ∃ z : Int, z = (if y35 = 0 then 0 else 1) := ⟨_, rfl⟩
      replace h := h y40 ey40
      have hj41 : MWi l G mL_plan 103 [(0, vR 0), (1, vR 56), (2, vI x2), (3, vI x3), (5, vI x5), (6, vI y35)] [vI y40, vI x4] s33 Q := by
        obtain ⟨b44, h⟩ := h
        refine r_iadd dL_plan_103 b44 ?_
        refine r_istore dL_plan_104 (by decide) rfl ?_
        refine r_iload 6 dL_plan_106 rfl ?_
        refine r_aload_n 1 dL_plan_108 rfl rfl ?_
        refine r_iload 5 dL_plan_109 rfl ?_
        refine r_iconst dL_plan_111 (by decide) ?_
        refine r_callV [vI x5, vI 0] [vI y35] dL_plan_112 okX7_rideTime ivX7_rideTime seX7_rideTime lm_L_39 rfl rfl sh_0 rfl ⟨Nat.le_of_ble_eq_true rfl, Nat.le_of_ble_eq_true rfl, Nat.le_of_ble_eq_true rfl, Nat.le_of_ble_eq_true rfl⟩ h ?_
        rintro _ s46 ⟨r45, rfl, h⟩
        refine r_sipush dL_plan_115 (by decide) (by decide) ?_
        obtain ⟨y48, ey48⟩ : ∃ z : Int, z = (if r45 = (-1004) then 1 else 0) := ⟨_, rfl⟩
        replace h := h y48 ey48
        have hj49 : MWi l G mL_plan 126 [(0, vR 0), (1, vR 56), (2, vI x2), (3, vI x3), (4, vI (x4 + y40)), (5, vI x5)] [vI y48, vI y35] s46 Q := by
          refine r_icmp_ne (tgt := 154) dL_plan_126 (by decide) (fun (c52 : y35 = y48) => ?_) (fun (c52 : ¬ (y35 = y48)) => ?_)
          · replace h := h.1 c52
            refine r_aload_n 0 dL_plan_129 rfl rfl ?_
            refine r_iload 5 dL_plan_130 rfl ?_
            refine r_bipush dL_plan_132 (by decide) (by decide) ?_
            refine r_callV [vI x5, vI 7] [] dL_plan_134 okX7_request ivX7_request seX7_request lm_L_36 rfl rfl sh_0 rfl ⟨Nat.le_of_ble_eq_true rfl, Nat.le_of_ble_eq_true rfl, Nat.le_of_ble_eq_true rfl, Nat.le_of_ble_eq_true rfl⟩ h ?_
            rintro _ s54 ⟨r53, rfl, h⟩
            refine r_aload_n 1 dL_plan_137 rfl rfl ?_
            refine r_iconst dL_plan_138 (by decide) ?_
            refine r_iload 5 dL_plan_139 rfl ?_
            obtain ⟨b55, h⟩ := h
            refine r_imul dL_plan_141 b55 ?_
            refine r_iconst dL_plan_142 (by decide) ?_
            refine r_iload 5 dL_plan_143 rfl ?_
            refine r_imul dL_plan_145 b55 ?_
            refine r_iconst dL_plan_146 (by decide) ?_
            obtain ⟨b56, h⟩ := h
            refine r_iadd dL_plan_147 b56 ?_
            refine r_callS [vR 56, vI (2 * x5), vI ((2 * x5) + 1)] [vI r53] dL_plan_148 okL_far ssL_far lm_L_32 rfl rfl ⟨Nat.le_of_ble_eq_true rfl, Nat.le_of_ble_eq_true rfl, Nat.le_of_ble_eq_true rfl, Nat.le_of_ble_eq_true rfl⟩ h ?_
            rintro _ s58 ⟨r57, rfl, h⟩
            refine r_icmp_eq (tgt := 156) dL_plan_151 (by decide) (fun (c59 : r53 = r57) => ?_) (fun (c59 : ¬ (r53 = r57)) => ?_)
            · replace h := h.1 c59
              obtain ⟨b60, h⟩ := h
              refine r_iinc 5 dL_plan_156 rfl (by decide) b60 rfl ?_
              refine r_goto (tgt := 61) dL_plan_159 (by decide) ?_
              refine MWF.sub [1, 2, 3, 4, 5, 0] rfl ?_
              exact h
            · replace h := h.2 c59
              refine r_iconst dL_plan_154 (by decide) ?_
              exact r_zret dL_plan_155 rfl (by decide) ⟨_, rfl, h⟩
          · replace h := h.2 c52
            refine r_iconst dL_plan_154 (by decide) ?_
            exact r_zret dL_plan_155 rfl (by decide) ⟨_, rfl, h⟩
        refine r_icmp_ne (tgt := 125) dL_plan_118 (by decide) (fun (c47 : r45 = (-1004)) => ?_) (fun (c47 : ¬ (r45 = (-1004))) => ?_)
        · refine r_iconst dL_plan_121 (by decide) ?_
          refine r_goto (tgt := 126) dL_plan_122 (by decide) ?_
          refine MWF.sub [1, 2, 3, 4, 0, 5] rfl ?_
          have q50 : y48 = 1 := by rw [ey48, if_pos c47]
          rw [q50] at hj49
          exact hj49
        · refine r_iconst dL_plan_125 (by decide) ?_
          refine MWF.sub [1, 2, 3, 4, 0, 5] rfl ?_
          have q51 : y48 = 0 := by rw [ey48, if_neg c47]
          rw [q51] at hj49
          exact hj49
      refine r_if_eq (tgt := 102) dL_plan_95 (by decide) (fun (c39 : y35 = 0) => ?_) (fun (c39 : ¬ (y35 = 0)) => ?_)
      · refine r_iconst dL_plan_102 (by decide) ?_
        refine MWF.sub [1, 2, 3, 4, 6, 0] rfl ?_
        have q42 : y40 = 0 := by rw [ey40, if_pos c39]
        rw [q42] at hj41
        exact hj41
      · refine r_iconst dL_plan_98 (by decide) ?_
        refine r_goto (tgt := 103) dL_plan_99 (by decide) ?_
        refine MWF.sub [1, 2, 3, 4, 6, 0] rfl ?_
        have q43 : y40 = 1 := by rw [ey40, if_neg c39]
        rw [q43] at hj41
        exact hj41
    refine r_icmp_ne (tgt := 88) dL_plan_81 (by decide) (fun (c34 : r32 = (-1007)) => ?_) (fun (c34 : ¬ (r32 = (-1007))) => ?_)
    · refine r_iconst dL_plan_84 (by decide) ?_
      refine r_goto (tgt := 89) dL_plan_85 (by decide) ?_
      refine MWF.sub [0, 1, 2, 3, 4, 5] rfl ?_
      have q37 : y35 = 1 := by rw [ey35, if_pos c34]
      rw [q37] at hj36
      exact hj36
    · refine r_iconst dL_plan_88 (by decide) ?_
      refine MWF.sub [0, 1, 2, 3, 4, 5] rfl ?_
      have q38 : y35 = 0 := by rw [ey35, if_neg c34]
      rw [q38] at hj36
      exact hj36
set_option maxRecDepth 100000 in
set_option maxHeartbeats 4000000 in
theorem clL_best (l : Launch) (G : GT) (σ : Sto) (Q : Int → Sto → Prop) (x1 : Int) (x2 : Int)
    (h : CLi l G mX7_vehicle [vR 0, vI x2, vI 3] σ (fun r1 s2 => MWi l G mL_best 19 [(0, vR 0), (1, vI x1), (2, vI x2), (3, vI r1), (4, vI 99999), (5, vI (-1007)), (6, vI 0)] [] s2 Q)) :
    CLi l G mL_best [vR 0, vI x1, vI x2] σ Q := by
  show MWi l G mL_best 0 [(0, vR 0), (1, vI x1), (2, vI x2)] [] σ Q
  refine r_aload_n 0 dL_best_0 rfl rfl ?_
  refine r_iload_n 2 dL_best_1 rfl rfl ?_
  refine r_iconst dL_best_2 (by decide) ?_
  refine r_callV [vI x2, vI 3] [] dL_best_3 okX7_vehicle ivX7_vehicle seX7_vehicle lm_L_21 rfl rfl sh_0 rfl ⟨Nat.le_of_ble_eq_true rfl, Nat.le_of_ble_eq_true rfl, Nat.le_of_ble_eq_true rfl, Nat.le_of_ble_eq_true rfl⟩ h ?_
  rintro _ s2 ⟨r1, rfl, h⟩
  refine r_istore_n dL_best_6 rfl (by decide) rfl ?_
  refine r_ldc (n := 99999) dL_best_7 lc_L_50 (by decide) ?_
  refine r_istore dL_best_9 (by decide) rfl ?_
  refine r_sipush dL_best_11 (by decide) (by decide) ?_
  refine r_istore dL_best_14 (by decide) rfl ?_
  refine r_iconst dL_best_16 (by decide) ?_
  refine r_istore dL_best_17 (by decide) rfl ?_
  refine MWF.sub [4, 5, 6, 3, 2, 1, 0] rfl ?_
  exact h
set_option maxRecDepth 100000 in
set_option maxHeartbeats 4000000 in
theorem vcL_best_19 (l : Launch) (G : GT) (σ : Sto) (Q : Int → Sto → Prop) (x1 : Int) (x2 : Int) (x3 : Int) (x4 : Int) (x5 : Int) (x6 : Int)
    (h : (x3 < x6 → CLi l G mX7_best [vR 0, vI x1, vI x2] σ (fun r4 s5 => (r4 = x5 → (-2147483648 ≤ x3 + 1 ∧ x3 + 1 ≤ 2147483647) ∧ (-2147483648 ≤ x3 + 2 ∧ x3 + 2 ≤ 2147483647) ∧ CLi l G mX7_cost [vR 0, vI x1, vI x2, vI (x3 + 1), vI (x3 + 2)] s5 (fun r9 s10 => (r9 = (-1002) → CLi l G mX7_cost [vR 0, vI x1, vI x2, vI 0, vI 0] s10 (fun r12 s13 => ∀ y15 : Int, y15 = (if r12 = (-1002) then x4 else (-1)) → Q y15 s13)) ∧ (¬ (r9 = (-1002)) → Q (-1) s10))) ∧ (¬ (r4 = x5) → Q (-1) s5))) ∧ (¬ (x3 < x6) → (-2147483648 ≤ x6 + 1 ∧ x6 + 1 ≤ 2147483647) ∧ MWi l G mL_best 31 [(0, vR 0), (1, vI x1), (2, vI x2), (3, vI x3), (4, vI x4), (5, vI x5), (6, vI x6), (7, vI (x6 + 1))] [] σ Q)) :
    MWi l G mL_best 19 [(0, vR 0), (1, vI x1), (2, vI x2), (3, vI x3), (4, vI x4), (5, vI x5), (6, vI x6)] [] σ Q := by
  refine r_iload 6 dL_best_19 rfl ?_
  refine r_iload_n 3 dL_best_21 rfl rfl ?_
  refine r_icmp_gt (tgt := 104) dL_best_22 (by decide) (fun (c3 : x3 < x6) => ?_) (fun (c3 : ¬ (x3 < x6)) => ?_)
  · replace h := h.1 c3
    refine r_aload_n 0 dL_best_104 rfl rfl ?_
    refine r_iload_n 1 dL_best_105 rfl rfl ?_
    refine r_iload_n 2 dL_best_106 rfl rfl ?_
    refine r_callV [vI x1, vI x2] [] dL_best_107 okX7_best ivX7_best seX7_best lm_L_55 rfl rfl sh_0 rfl ⟨Nat.le_of_ble_eq_true rfl, Nat.le_of_ble_eq_true rfl, Nat.le_of_ble_eq_true rfl, Nat.le_of_ble_eq_true rfl⟩ h ?_
    rintro _ s5 ⟨r4, rfl, h⟩
    refine r_iload 5 dL_best_110 rfl ?_
    refine r_icmp_ne (tgt := 152) dL_best_112 (by decide) (fun (c6 : r4 = x5) => ?_) (fun (c6 : ¬ (r4 = x5)) => ?_)
    · replace h := h.1 c6
      refine r_aload_n 0 dL_best_115 rfl rfl ?_
      refine r_iload_n 1 dL_best_116 rfl rfl ?_
      refine r_iload_n 2 dL_best_117 rfl rfl ?_
      refine r_iload_n 3 dL_best_118 rfl rfl ?_
      refine r_iconst dL_best_119 (by decide) ?_
      obtain ⟨b7, h⟩ := h
      refine r_iadd dL_best_120 b7 ?_
      refine r_iload_n 3 dL_best_121 rfl rfl ?_
      refine r_iconst dL_best_122 (by decide) ?_
      obtain ⟨b8, h⟩ := h
      refine r_iadd dL_best_123 b8 ?_
      refine r_callV [vI x1, vI x2, vI (x3 + 1), vI (x3 + 2)] [] dL_best_124 okX7_cost ivX7_cost seX7_cost lm_L_51 rfl rfl sh_0 rfl ⟨Nat.le_of_ble_eq_true rfl, Nat.le_of_ble_eq_true rfl, Nat.le_of_ble_eq_true rfl, Nat.le_of_ble_eq_true rfl⟩ h ?_
      rintro _ s10 ⟨r9, rfl, h⟩
      refine r_sipush dL_best_127 (by decide) (by decide) ?_
      refine r_icmp_ne (tgt := 152) dL_best_130 (by decide) (fun (c11 : r9 = (-1002)) => ?_) (fun (c11 : ¬ (r9 = (-1002))) => ?_)
      · replace h := h.1 c11
        refine r_aload_n 0 dL_best_133 rfl rfl ?_
        refine r_iload_n 1 dL_best_134 rfl rfl ?_
        refine r_iload_n 2 dL_best_135 rfl rfl ?_
        refine r_iconst dL_best_136 (by decide) ?_
        refine r_iconst dL_best_137 (by decide) ?_
        refine r_callV [vI x1, vI x2, vI 0, vI 0] [] dL_best_138 okX7_cost ivX7_cost seX7_cost lm_L_51 rfl rfl sh_0 rfl ⟨Nat.le_of_ble_eq_true rfl, Nat.le_of_ble_eq_true rfl, Nat.le_of_ble_eq_true rfl, Nat.le_of_ble_eq_true rfl⟩ h ?_
        rintro _ s13 ⟨r12, rfl, h⟩
        refine r_sipush dL_best_141 (by decide) (by decide) ?_
        obtain ⟨y15, ey15⟩ : ∃ z : Int, z = (if r12 = (-1002) then x4 else (-1)) := ⟨_, rfl⟩
        replace h := h y15 ey15
        have hj16 : MWi l G mL_best 153 [] [vI y15] s13 Q := by
          exact r_iret dL_best_153 rfl ⟨_, rfl, h⟩
        refine r_icmp_ne (tgt := 152) dL_best_144 (by decide) (fun (c14 : r12 = (-1002)) => ?_) (fun (c14 : ¬ (r12 = (-1002))) => ?_)
        · refine r_iload 4 dL_best_147 rfl ?_
          refine r_goto (tgt := 153) dL_best_149 (by decide) ?_
          refine MWF.sub [] rfl ?_
          have q17 : y15 = x4 := by rw [ey15, if_pos c14]
          rw [q17] at hj16
          exact hj16
        · refine r_iconst dL_best_152 (by decide) ?_
          refine MWF.sub [] rfl ?_
          have q18 : y15 = (-1) := by rw [ey15, if_neg c14]
          rw [q18] at hj16
          exact hj16
      · replace h := h.2 c11
        refine r_iconst dL_best_152 (by decide) ?_
        exact r_iret dL_best_153 rfl ⟨_, rfl, h⟩
    · replace h := h.2 c6
      refine r_iconst dL_best_152 (by decide) ?_
      exact r_iret dL_best_153 rfl ⟨_, rfl, h⟩
  · replace h := h.2 c3
    refine r_iload 6 dL_best_25 rfl ?_
    refine r_iconst dL_best_27 (by decide) ?_
    obtain ⟨b19, h⟩ := h
    refine r_iadd dL_best_28 b19 ?_
    refine r_istore dL_best_29 (by decide) rfl ?_
    refine MWF.sub [1, 2, 3, 4, 5, 6, 7, 0] rfl ?_
    exact h
set_option maxRecDepth 100000 in
set_option maxHeartbeats 4000000 in
theorem vcL_best_31 (l : Launch) (G : GT) (σ : Sto) (Q : Int → Sto → Prop) (x1 : Int) (x2 : Int) (x3 : Int) (x4 : Int) (x5 : Int) (x6 : Int) (x7 : Int)
    (h : (-2147483648 ≤ x3 + 1 ∧ x3 + 1 ≤ 2147483647) ∧ ((x3 + 1) < x7 → (-2147483648 ≤ x6 + 1 ∧ x6 + 1 ≤ 2147483647) ∧ MWi l G mL_best 19 [(0, vR 0), (1, vI x1), (2, vI x2), (3, vI x3), (4, vI x4), (5, vI x5), (6, vI (x6 + 1))] [] σ Q) ∧ (¬ ((x3 + 1) < x7) → CLi l G mX7_cost [vR 0, vI x1, vI x2, vI x6, vI x7] σ (fun r23 s24 => (0 ≤ r23 → MWi l G mL_best 66 [(0, vR 0), (1, vI x1), (2, vI x2), (3, vI x3), (4, vI x4), (5, vI x5), (6, vI x6), (7, vI x7), (8, vI r23)] [] s24 Q) ∧ (¬ (0 ≤ r23) → (r23 = (-1005) → MWi l G mL_best 66 [(0, vR 0), (1, vI x1), (2, vI x2), (3, vI x3), (4, vI x4), (5, vI x5), (6, vI x6), (7, vI x7), (8, vI r23)] [] s24 Q) ∧ (¬ (r23 = (-1005)) → Q (-1) s24))))) :
    MWi l G mL_best 31 [(0, vR 0), (1, vI x1), (2, vI x2), (3, vI x3), (4, vI x4), (5, vI x5), (6, vI x6), (7, vI x7)] [] σ Q := by
  refine r_iload 7 dL_best_31 rfl ?_
  refine r_iload_n 3 dL_best_33 rfl rfl ?_
  refine r_iconst dL_best_34 (by decide) ?_
  obtain ⟨b20, h⟩ := h
  refine r_iadd dL_best_35 b20 ?_
  refine r_icmp_gt (tgt := 98) dL_best_36 (by decide) (fun (c21 : (x3 + 1) < x7) => ?_) (fun (c21 : ¬ ((x3 + 1) < x7)) => ?_)
  · replace h := h.1 c21
    obtain ⟨b22, h⟩ := h
    refine r_iinc 6 dL_best_98 rfl (by decide) b22 rfl ?_
    refine r_goto (tgt := 19) dL_best_101 (by decide) ?_
    refine MWF.sub [1, 2, 3, 4, 5, 6, 0] rfl ?_
    exact h
  · replace h := h.2 c21
    refine r_aload_n 0 dL_best_39 rfl rfl ?_
    refine r_iload_n 1 dL_best_40 rfl rfl ?_
    refine r_iload_n 2 dL_best_41 rfl rfl ?_
    refine r_iload 6 dL_best_42 rfl ?_
    refine r_iload 7 dL_best_44 rfl ?_
    refine r_callV [vI x1, vI x2, vI x6, vI x7] [] dL_best_46 okX7_cost ivX7_cost seX7_cost lm_L_51 rfl rfl sh_0 rfl ⟨Nat.le_of_ble_eq_true rfl, Nat.le_of_ble_eq_true rfl, Nat.le_of_ble_eq_true rfl, Nat.le_of_ble_eq_true rfl⟩ h ?_
    rintro _ s24 ⟨r23, rfl, h⟩
    refine r_istore dL_best_49 (by decide) rfl ?_
    refine r_iload 0 dL_best_51 rfl ?_
    refine r_if_ge (tgt := 66) dL_best_53 (by decide) (fun (c25 : 0 ≤ r23) => ?_) (fun (c25 : ¬ (0 ≤ r23)) => ?_)
    · replace h := h.1 c25
      refine MWF.sub [1, 2, 3, 4, 5, 6, 7, 8, 0] rfl ?_
      exact h
    · replace h := h.2 c25
      refine r_iload 0 dL_best_56 rfl ?_
      refine r_sipush dL_best_58 (by decide) (by decide) ?_
      refine r_icmp_eq (tgt := 66) dL_best_61 (by decide) (fun (c26 : r23 = (-1005)) => ?_) (fun (c26 : ¬ (r23 = (-1005))) => ?_)
      · replace h := h.1 c26
        refine MWF.sub [1, 2, 3, 4, 5, 6, 7, 8, 0] rfl ?_
        exact h
      · replace h := h.2 c26
        refine r_iconst dL_best_64 (by decide) ?_
        exact r_iret dL_best_65 rfl ⟨_, rfl, h⟩
set_option maxRecDepth 100000 in
set_option maxHeartbeats 4000000 in
theorem vcL_best_66 (l : Launch) (G : GT) (σ : Sto) (Q : Int → Sto → Prop) (x1 : Int) (x2 : Int) (x3 : Int) (x4 : Int) (x5 : Int) (x6 : Int) (x7 : Int) (x8 : Int)
    (h : ((¬ (x8 < 0) → (¬ (x4 ≤ x8) → (-2147483648 ≤ 100 * x6 ∧ 100 * x6 ≤ 2147483647) ∧ (-2147483648 ≤ (100 * x6) + x7 ∧ (100 * x6) + x7 ≤ 2147483647) ∧ True))) ∧ ∀ y32 : Int, y32 = (if x8 < 0 then x4 else (if x4 ≤ x8 then x4 else x8)) → ∀ y33 : Int, y33 = (if x8 < 0 then x5 else (if x4 ≤ x8 then x5 else ((100 * x6) + x7))) → (-2147483648 ≤ x7 + 1 ∧ x7 + 1 ≤ 2147483647) ∧ MWi l G mL_best 31 [(0, vR 0), (1, vI x1), (2, vI x2), (3, vI x3), (4, vI y32), (5, vI y33), (6, vI x6), (7, vI (x7 + 1))] [] σ Q) :
    MWi l G mL_best 66 [(0, vR 0), (1, vI x1), (2, vI x2), (3, vI x3), (4, vI x4), (5, vI x5), (6, vI x6), (7, vI x7), (8, vI x8)] [] σ Q := by
  refine r_iload 8 dL_best_66 rfl ?_
  obtain ⟨q31, h⟩ := h
  obtain ⟨y32, ey32⟩ : ∃ z : Int, z = (if x8 < 0 then x4 else (if x4 ≤ x8 then x4 else x8)) := ⟨_, rfl⟩
  replace h := h y32 ey32
  obtain ⟨y33, ey33⟩ : ∃ z : Int, z = (if x8 < 0 then x5 else (if x4 ≤ x8 then x5 else ((100 * x6) + x7))) := ⟨_, rfl⟩
  replace h := h y33 ey33
  have hj34 : MWi l G mL_best 92 [(0, vR 0), (1, vI x1), (2, vI x2), (3, vI x3), (4, vI y32), (5, vI y33), (6, vI x6), (7, vI x7)] [] σ Q := by
    obtain ⟨b41, h⟩ := h
    refine r_iinc 7 dL_best_92 rfl (by decide) b41 rfl ?_
    refine r_goto (tgt := 31) dL_best_95 (by decide) ?_
    refine MWF.sub [1, 2, 3, 4, 5, 6, 7, 0] rfl ?_
    exact h
  replace h := q31
  refine r_if_lt (tgt := 92) dL_best_68 (by decide) (fun (c27 : x8 < 0) => ?_) (fun (c27 : ¬ (x8 < 0)) => ?_)
  · refine MWF.sub [0, 1, 2, 3, 4, 5, 6, 7] rfl ?_
    have q35 : y32 = x4 := by rw [ey32, if_pos c27]
    rw [q35] at hj34
    have q36 : y33 = x5 := by rw [ey33, if_pos c27]
    rw [q36] at hj34
    exact hj34
  · replace h := h c27
    refine r_iload 8 dL_best_71 rfl ?_
    refine r_iload 4 dL_best_73 rfl ?_
    refine r_icmp_ge (tgt := 92) dL_best_75 (by decide) (fun (c28 : x4 ≤ x8) => ?_) (fun (c28 : ¬ (x4 ≤ x8)) => ?_)
    · refine MWF.sub [0, 1, 2, 3, 4, 5, 6, 7] rfl ?_
      have q37 : y32 = x4 := by rw [ey32, if_neg c27, if_pos c28]
      rw [q37] at hj34
      have q38 : y33 = x5 := by rw [ey33, if_neg c27, if_pos c28]
      rw [q38] at hj34
      exact hj34
    · replace h := h c28
      refine r_iload 8 dL_best_78 rfl ?_
      refine r_istore dL_best_80 (by decide) rfl ?_
      refine r_bipush dL_best_82 (by decide) (by decide) ?_
      refine r_iload 6 dL_best_84 rfl ?_
      obtain ⟨b29, h⟩ := h
      refine r_imul dL_best_86 b29 ?_
      refine r_iload 7 dL_best_87 rfl ?_
      obtain ⟨b30, h⟩ := h
      refine r_iadd dL_best_89 b30 ?_
      refine r_istore dL_best_90 (by decide) rfl ?_
      refine MWF.sub [2, 3, 4, 5, 1, 0, 6, 7] rfl ?_
      have q39 : y32 = x8 := by rw [ey32, if_neg c27, if_neg c28]
      rw [q39] at hj34
      have q40 : y33 = ((100 * x6) + x7) := by rw [ey33, if_neg c27, if_neg c28]
      rw [q40] at hj34
      exact hj34
set_option maxRecDepth 100000 in
set_option maxHeartbeats 4000000 in
theorem clL_print (l : Launch) (G : GT) (σ : Sto) (Q : Int64 → Sto → Prop) 
    (h : MWj l G mL_print 4 [(0, vR 0), (1, vJ 1), (3, vI 0)] [] σ Q) :
    CLj l G mL_print [vR 0] σ Q := by
  show MWj l G mL_print 0 [(0, vR 0)] [] σ Q
  refine r_lconst dL_print_0 (z := 1) rfl ?_
  refine r_lstore_n dL_print_1 rfl (by decide) rfl ?_
  refine r_iconst dL_print_2 (by decide) ?_
  refine r_istore_n dL_print_3 rfl (by decide) rfl ?_
  refine MWF.sub [2, 1, 0] rfl ?_
  exact h
set_option maxRecDepth 100000 in
set_option maxHeartbeats 4000000 in
theorem vcL_print_4 (l : Launch) (G : GT) (σ : Sto) (Q : Int64 → Sto → Prop) (x1 : Int64) (x3 : Int)
    (h : CLi l G mX7_count [vR 0, vI 0] σ (fun r1 s2 => (r1 ≤ x3 → Q x1 s2) ∧ (¬ (r1 ≤ x3) → MWj l G mL_print 26 [(0, vR 0), (1, vJ ((1000003 * x1) + 7)), (3, vI x3), (4, vI 0)] [] s2 Q))) :
    MWj l G mL_print 4 [(0, vR 0), (1, vJ x1), (3, vI x3)] [] σ Q := by
  refine r_iload_n 2 dL_print_4 rfl rfl ?_
  refine r_aload_n 0 dL_print_5 rfl rfl ?_
  refine r_iconst dL_print_6 (by decide) ?_
  refine r_callV [vI 0] [vI x3] dL_print_7 okX7_count ivX7_count seX7_count lm_L_25 rfl rfl sh_0 rfl ⟨Nat.le_of_ble_eq_true rfl, Nat.le_of_ble_eq_true rfl, Nat.le_of_ble_eq_true rfl, Nat.le_of_ble_eq_true rfl⟩ h ?_
  rintro _ s2 ⟨r1, rfl, h⟩
  refine r_icmp_ge (tgt := 79) dL_print_10 (by decide) (fun (c3 : r1 ≤ x3) => ?_) (fun (c3 : ¬ (r1 ≤ x3)) => ?_)
  · replace h := h.1 c3
    refine r_lload_n 1 dL_print_79 rfl rfl ?_
    exact r_jret dL_print_80 rfl ⟨_, rfl, h⟩
  · replace h := h.2 c3
    refine r_ldc2 (z := 1000003) dL_print_13 lc_L_58 ?_
    refine r_lload_n 1 dL_print_16 rfl rfl ?_
    refine r_lmul dL_print_17 ?_
    refine r_ldc2 (z := 7) dL_print_18 lc_L_60 ?_
    refine r_ladd dL_print_21 ?_
    refine r_lstore_n dL_print_22 rfl (by decide) rfl ?_
    refine r_iconst dL_print_23 (by decide) ?_
    refine r_istore dL_print_24 (by decide) rfl ?_
    refine MWF.sub [2, 1, 3, 0] rfl ?_
    exact h
set_option maxRecDepth 100000 in
set_option maxHeartbeats 4000000 in
theorem vcL_print_26 (l : Launch) (G : GT) (σ : Sto) (Q : Int64 → Sto → Prop) (x1 : Int64) (x3 : Int) (x4 : Int)
    (h : CLi l G mX7_vehicle [vR 0, vI x3, vI 3] σ (fun r4 s5 => (r4 ≤ x4 → (-2147483648 ≤ x3 + 1 ∧ x3 + 1 ≤ 2147483647) ∧ MWj l G mL_print 4 [(0, vR 0), (1, vJ x1), (3, vI (x3 + 1))] [] s5 Q) ∧ (¬ (r4 ≤ x4) → CLi l G mX7_stop [vR 0, vI x3, vI x4, vI 0] s5 (fun r8 s9 => CLi l G mX7_stop [vR 0, vI x3, vI x4, vI 1] s9 (fun r10 s11 => (-2147483648 ≤ x4 + 1 ∧ x4 + 1 ≤ 2147483647) ∧ MWj l G mL_print 26 [(0, vR 0), (1, vJ (((1009 * x1) + (2 * (i2J r8))) + (i2J r10))), (3, vI x3), (4, vI (x4 + 1))] [] s11 Q))))) :
    MWj l G mL_print 26 [(0, vR 0), (1, vJ x1), (3, vI x3), (4, vI x4)] [] σ Q := by
  refine r_iload 3 dL_print_26 rfl ?_
  refine r_aload_n 0 dL_print_28 rfl rfl ?_
  refine r_iload_n 2 dL_print_29 rfl rfl ?_
  refine r_iconst dL_print_30 (by decide) ?_
  refine r_callV [vI x3, vI 3] [vI x4] dL_print_31 okX7_vehicle ivX7_vehicle seX7_vehicle lm_L_21 rfl rfl sh_0 rfl ⟨Nat.le_of_ble_eq_true rfl, Nat.le_of_ble_eq_true rfl, Nat.le_of_ble_eq_true rfl, Nat.le_of_ble_eq_true rfl⟩ h ?_
  rintro _ s5 ⟨r4, rfl, h⟩
  refine r_icmp_ge (tgt := 73) dL_print_34 (by decide) (fun (c6 : r4 ≤ x4) => ?_) (fun (c6 : ¬ (r4 ≤ x4)) => ?_)
  · replace h := h.1 c6
    obtain ⟨b7, h⟩ := h
    refine r_iinc 2 dL_print_73 rfl (by decide) b7 rfl ?_
    refine r_goto (tgt := 4) dL_print_76 (by decide) ?_
    refine MWF.sub [1, 2, 0] rfl ?_
    exact h
  · replace h := h.2 c6
    refine r_ldc2 (z := 1009) dL_print_37 lc_L_62 ?_
    refine r_lload_n 1 dL_print_40 rfl rfl ?_
    refine r_lmul dL_print_41 ?_
    refine r_ldc2 (z := 2) dL_print_42 lc_L_64 ?_
    refine r_aload_n 0 dL_print_45 rfl rfl ?_
    refine r_iload_n 2 dL_print_46 rfl rfl ?_
    refine r_iload 3 dL_print_47 rfl ?_
    refine r_iconst dL_print_49 (by decide) ?_
    refine r_callV [vI x3, vI x4, vI 0] [vJ 2, vJ (1009 * x1)] dL_print_50 okX7_stop ivX7_stop seX7_stop lm_L_15 rfl rfl sh_0 rfl ⟨Nat.le_of_ble_eq_true rfl, Nat.le_of_ble_eq_true rfl, Nat.le_of_ble_eq_true rfl, Nat.le_of_ble_eq_true rfl⟩ h ?_
    rintro _ s9 ⟨r8, rfl, h⟩
    refine r_i2l dL_print_53 ?_
    refine r_lmul dL_print_54 ?_
    refine r_ladd dL_print_55 ?_
    refine r_aload_n 0 dL_print_56 rfl rfl ?_
    refine r_iload_n 2 dL_print_57 rfl rfl ?_
    refine r_iload 3 dL_print_58 rfl ?_
    refine r_iconst dL_print_60 (by decide) ?_
    refine r_callV [vI x3, vI x4, vI 1] [vJ ((1009 * x1) + (2 * (i2J r8)))] dL_print_61 okX7_stop ivX7_stop seX7_stop lm_L_15 rfl rfl sh_0 rfl ⟨Nat.le_of_ble_eq_true rfl, Nat.le_of_ble_eq_true rfl, Nat.le_of_ble_eq_true rfl, Nat.le_of_ble_eq_true rfl⟩ h ?_
    rintro _ s11 ⟨r10, rfl, h⟩
    refine r_i2l dL_print_64 ?_
    refine r_ladd dL_print_65 ?_
    refine r_lstore_n dL_print_66 rfl (by decide) rfl ?_
    obtain ⟨b12, h⟩ := h
    refine r_iinc 3 dL_print_67 rfl (by decide) b12 rfl ?_
    refine r_goto (tgt := 26) dL_print_70 (by decide) ?_
    refine MWF.sub [2, 1, 3, 0] rfl ?_
    exact h
set_option maxRecDepth 100000 in
set_option maxHeartbeats 4000000 in
theorem clL_puts (l : Launch) (G : GT) (hx0 : G.2.2.2.2 = 0) (sz : Nat) (σ : Sto) (Q : Int → Sto → Prop) (x1 : Int) (x2 : Int)
    (h : CLi l G mX7_count [vR 0, vI 0] σ (fun r1 s2 => CLi l G mL_low [vI x2, vI r1] s2 (fun r3 s4 => CLi l G mX7_count [vR 0, vI 3] s4 (fun r5 s6 => ∀ q7 : Nat, MXi l G (gX G 57 q7) mL_puts 4 sz 1 4 35 [(0, vR 0), (1, vI x1), (2, vI x2), (3, vI r1), (4, vI r3), (5, vI r5), (6, vR 57), (7, vI 99999), (8, vI (-1)), (9, vI 0)] [] (zS s6 57) Q)))) :
    MXi l G G mL_puts 4 sz 0 0 0 [(0, vR 0), (1, vI x1), (2, vI x2)] [] σ Q := by
  refine r_aload_n 0 dL_puts_0 rfl rfl ?_
  refine r_iconst dL_puts_1 (by decide) ?_
  refine r_callV [vI 0] [] dL_puts_2 okX7_count ivX7_count seX7_count lm_L_25 rfl rfl sh_0 rfl ⟨Nat.le_of_ble_eq_true rfl, Nat.le_of_ble_eq_true rfl, Nat.le_of_ble_eq_true rfl, Nat.le_of_ble_eq_true rfl⟩ h ?_
  rintro _ s2 ⟨r1, rfl, h⟩
  refine r_istore_n dL_puts_5 rfl (by decide) rfl ?_
  refine r_iload_n 3 dL_puts_6 rfl rfl ?_
  refine r_iload_n 0 dL_puts_7 rfl rfl ?_
  refine r_callS [vI x2, vI r1] [] dL_puts_8 okL_low ssL_low lm_L_66 rfl rfl ⟨Nat.le_of_ble_eq_true rfl, Nat.le_of_ble_eq_true rfl, Nat.le_of_ble_eq_true rfl, Nat.le_of_ble_eq_true rfl⟩ h ?_
  rintro _ s4 ⟨r3, rfl, h⟩
  refine r_istore dL_puts_11 (by decide) rfl ?_
  refine r_aload_n 2 dL_puts_13 rfl rfl ?_
  refine r_iconst dL_puts_14 (by decide) ?_
  refine r_callV [vI 3] [] dL_puts_15 okX7_count ivX7_count seX7_count lm_L_25 rfl rfl sh_0 rfl ⟨Nat.le_of_ble_eq_true rfl, Nat.le_of_ble_eq_true rfl, Nat.le_of_ble_eq_true rfl, Nat.le_of_ble_eq_true rfl⟩ h ?_
  rintro _ s6 ⟨r5, rfl, h⟩
  refine r_istore dL_puts_18 (by decide) rfl ?_
  refine r_iconst dL_puts_20 (by decide) ?_
  refine r_newX (x := 57) hx0 dL_puts_21 rfl (by decide) (by decide +kernel) rfl rfl (fun q7 => ?_)
  replace h := h q7
  refine r_astore dL_puts_23 (by decide) rfl ?_
  refine r_ldc (n := 99999) dL_puts_25 lc_L_50 (by decide) ?_
  refine r_istore dL_puts_27 (by decide) rfl ?_
  refine r_iconst dL_puts_29 (by decide) ?_
  refine r_istore dL_puts_30 (by decide) rfl ?_
  refine r_iconst dL_puts_32 (by decide) ?_
  refine r_istore dL_puts_33 (by decide) rfl ?_
  refine MWF.sub [7, 8, 9, 6, 5, 4, 3, 2, 1, 0] rfl ?_
  exact h
set_option maxRecDepth 100000 in
set_option maxHeartbeats 4000000 in
theorem vcL_puts_35 (l : Launch) (G0 G : GT) (hg : gR G0 G) (hx : G.2.2.2.2 = 57) (sz : Nat) (σ : Sto) (Q : Int → Sto → Prop) (x1 : Int) (x2 : Int) (x3 : Int) (x4 : Int) (x5 : Int) (x7 : Int) (x8 : Int) (x9 : Int)
    (h : (x3 ≤ x9 → MXi l G0 G mL_puts 4 sz 1 4 110 [(0, vR 0), (1, vI x1), (2, vI x2), (4, vI x4), (5, vI x5), (6, vR 57), (7, vI x7), (8, vI x8)] [] σ Q) ∧ (¬ (x3 ≤ x9) → CLi l G mL_best [vR 0, vI x1, vI x9] σ (fun r9 s10 => (0 ≤ x9 ∧ x9 < 4) ∧ (0 ≤ r9 → ∀ y14 : Int, y14 = (if x7 ≤ r9 then x8 else x9) → ∀ y19 : Int, y19 = (if x7 ≤ r9 then x7 else r9) → (-2147483648 ≤ x9 + 1 ∧ x9 + 1 ≤ 2147483647) ∧ MXi l G0 G mL_puts 4 sz 1 4 35 [(0, vR 0), (1, vI x1), (2, vI x2), (3, vI x3), (4, vI x4), (5, vI x5), (6, vR 57), (7, vI y19), (8, vI y14), (9, vI (x9 + 1))] [] (stS s10 57 x9.toNat r9) Q) ∧ (¬ (0 ≤ r9) → Q 0 (stS s10 57 x9.toNat r9))))) :
    MXi l G0 G mL_puts 4 sz 1 4 35 [(0, vR 0), (1, vI x1), (2, vI x2), (3, vI x3), (4, vI x4), (5, vI x5), (6, vR 57), (7, vI x7), (8, vI x8), (9, vI x9)] [] σ Q := by
  refine r_iload 9 dL_puts_35 rfl ?_
  refine r_iload_n 3 dL_puts_37 rfl rfl ?_
  refine r_icmp_ge (tgt := 110) dL_puts_38 (by decide) (fun (c8 : x3 ≤ x9) => ?_) (fun (c8 : ¬ (x3 ≤ x9)) => ?_)
  · replace h := h.1 c8
    refine MWF.sub [0, 1, 2, 4, 5, 6, 7, 8] rfl ?_
    exact h
  · replace h := h.2 c8
    refine r_aload 6 dL_puts_41 rfl ?_
    refine r_iload 9 dL_puts_43 rfl ?_
    refine r_aload_n 0 dL_puts_45 rfl rfl ?_
    refine r_iload_n 1 dL_puts_46 rfl rfl ?_
    refine r_iload 9 dL_puts_47 rfl ?_
    refine r_callS [vR 0, vI x1, vI x9] [vI x9, vR 57] dL_puts_49 okL_best ssL_best lm_L_69 rfl rfl ⟨Nat.le_of_ble_eq_true rfl, Nat.le_of_ble_eq_true rfl, Nat.le_of_ble_eq_true rfl, Nat.le_of_ble_eq_true rfl⟩ h ?_
    rintro _ s10 ⟨r9, rfl, h⟩
    obtain ⟨b11, h⟩ := h
    refine r_xast hx dL_puts_52 (n := 4) rfl b11.1 b11.2 ?_
    refine r_aload 6 dL_puts_53 rfl ?_
    refine r_iload 9 dL_puts_55 rfl ?_
    refine r_xald hx dL_puts_57 (n := 4) rfl b11.1 b11.2 ?_
    refine MWF.top stS_eq ?_
    refine r_if_ge (tgt := 63) dL_puts_58 (by decide) (fun (c12 : 0 ≤ r9) => ?_) (fun (c12 : ¬ (0 ≤ r9)) => ?_)
    · replace h := h.1 c12
      refine r_aload 6 dL_puts_63 rfl ?_
      refine r_iload 9 dL_puts_65 rfl ?_
      refine r_xald hx dL_puts_67 (n := 4) rfl b11.1 b11.2 ?_
      refine MWF.top stS_eq ?_
      refine r_iload 7 dL_puts_68 rfl ?_
      obtain ⟨y14, ey14⟩ : ∃ z : Int, z = (if x7 ≤ r9 then x8 else x9) := ⟨_, rfl⟩
      replace h := h y14 ey14
      have hj15 : MXi l G0 G mL_puts 4 sz 1 4 80 [(0, vR 0), (1, vI x1), (2, vI x2), (3, vI x3), (4, vI x4), (5, vI x5), (6, vR 57), (7, vI x7), (9, vI x9)] [vI y14] (stS s10 57 x9.toNat r9) Q := by
        refine r_istore dL_puts_80 (by decide) rfl ?_
        refine r_aload 7 dL_puts_82 rfl ?_
        refine r_iload 9 dL_puts_84 rfl ?_
        refine r_xald hx dL_puts_86 (n := 4) rfl b11.1 b11.2 ?_
        refine MWF.top stS_eq ?_
        refine r_iload 8 dL_puts_87 rfl ?_
        obtain ⟨y19, ey19⟩ : ∃ z : Int, z = (if x7 ≤ r9 then x7 else r9) := ⟨_, rfl⟩
        replace h := h y19 ey19
        have hj20 : MXi l G0 G mL_puts 4 sz 1 4 102 [(0, vR 0), (1, vI x1), (2, vI x2), (3, vI x3), (4, vI x4), (5, vI x5), (6, vR 57), (8, vI y14), (9, vI x9)] [vI y19] (stS s10 57 x9.toNat r9) Q := by
          refine r_istore dL_puts_102 (by decide) rfl ?_
          obtain ⟨b23, h⟩ := h
          refine r_iinc 9 dL_puts_104 rfl (by decide) b23 rfl ?_
          refine r_goto (tgt := 35) dL_puts_107 (by decide) ?_
          refine MWF.sub [2, 3, 4, 5, 6, 7, 8, 1, 9, 0] rfl ?_
          exact h
        refine r_icmp_ge (tgt := 100) dL_puts_89 (by decide) (fun (c18 : x7 ≤ r9) => ?_) (fun (c18 : ¬ (x7 ≤ r9)) => ?_)
        · refine r_iload 8 dL_puts_100 rfl ?_
          refine MWF.sub [1, 2, 3, 4, 5, 6, 7, 0, 9] rfl ?_
          have q21 : y19 = x7 := by rw [ey19, if_pos c18]
          rw [q21] at hj20
          exact hj20
        · refine r_aload 7 dL_puts_92 rfl ?_
          refine r_iload 9 dL_puts_94 rfl ?_
          refine r_xald hx dL_puts_96 (n := 4) rfl b11.1 b11.2 ?_
          refine MWF.top stS_eq ?_
          refine r_goto (tgt := 102) dL_puts_97 (by decide) ?_
          refine MWF.sub [1, 2, 3, 4, 5, 6, 7, 0, 9] rfl ?_
          have q22 : y19 = r9 := by rw [ey19, if_neg c18]
          rw [q22] at hj20
          exact hj20
      refine r_icmp_ge (tgt := 78) dL_puts_70 (by decide) (fun (c13 : x7 ≤ r9) => ?_) (fun (c13 : ¬ (x7 ≤ r9)) => ?_)
      · refine r_iload 8 dL_puts_78 rfl ?_
        refine MWF.sub [0, 1, 2, 3, 4, 5, 6, 7, 9] rfl ?_
        have q16 : y14 = x8 := by rw [ey14, if_pos c13]
        rw [q16] at hj15
        exact hj15
      · refine r_iload 9 dL_puts_73 rfl ?_
        refine r_goto (tgt := 80) dL_puts_75 (by decide) ?_
        refine MWF.sub [0, 1, 2, 3, 4, 5, 6, 7, 9] rfl ?_
        have q17 : y14 = x9 := by rw [ey14, if_neg c13]
        rw [q17] at hj15
        exact hj15
    · replace h := h.2 c12
      refine r_iconst dL_puts_61 (by decide) ?_
      exact r_zretX hg dL_puts_62 rfl (by decide) ⟨_, rfl, h⟩
set_option maxRecDepth 100000 in
set_option maxHeartbeats 4000000 in
theorem vcL_puts_110 (l : Launch) (G0 G : GT) (hg : gR G0 G) (hx : G.2.2.2.2 = 57) (sz : Nat) (σ : Sto) (Q : Int → Sto → Prop) (x1 : Int) (x2 : Int) (x4 : Int) (x5 : Int) (x7 : Int) (x8 : Int)
    (h : CLi l G mL_low [vI (shrI x2 3), vI 3] σ (fun r24 s25 => (r24 = 0 → CLi l G mX7_assign [vR 0, vI x1] s25 (fun r27 s28 => ∀ y30 : Int, y30 = (if 0 ≤ x8 then x8 else (-1005)) → (r27 = y30 → (x8 < 0 → Q 1 s28) ∧ (¬ (x8 < 0) → CLi l G mX7_count [vR 0, vI 3] s28 (fun r36 s37 => (-2147483648 ≤ x5 + x7 ∧ x5 + x7 ≤ 2147483647) ∧ (r36 = (x5 + x7) → CLi l G mX7_request [vR 0, vI x1, vI 0] s37 (fun r40 s41 => ∀ y43 : Int, y43 = (if r40 = x8 then 1 else 0) → Q y43 s41)) ∧ (¬ (r36 = (x5 + x7)) → Q 0 s37)))) ∧ (¬ (r27 = y30) → Q 0 s28))) ∧ (¬ (r24 = 0) → (r24 = 1 → CLi l G mX7_assignTo [vR 0, vI x1, vI x4] s25 (fun r48 s49 => (0 ≤ x4 ∧ x4 < 4) ∧ ∀ y52 : Int, y52 = (if (s49 57 x4.toNat) = 99999 then (-1005) else (s49 57 x4.toNat)) → (r48 = y52 → (r48 < 0 → Q 1 s49) ∧ (¬ (r48 < 0) → CLi l G mX7_count [vR 0, vI 3] s49 (fun r58 s59 => (-2147483648 ≤ x5 + r48 ∧ x5 + r48 ≤ 2147483647) ∧ (r58 = (x5 + r48) → CLi l G mX7_request [vR 0, vI x1, vI 0] s59 (fun r62 s63 => ∀ y65 : Int, y65 = (if r62 = x4 then 1 else 0) → Q y65 s63)) ∧ (¬ (r58 = (x5 + r48)) → Q 0 s59)))) ∧ (¬ (r48 = y52) → Q 0 s49))) ∧ (¬ (r24 = 1) → CLi l G mX7_vehicle [vR 0, vI x4, vI 3] s25 (fun r69 s70 => (-2147483648 ≤ r69 + 1 ∧ r69 + 1 ≤ 2147483647) ∧ CLi l G mL_low [vI (shrI x2 5), vI (r69 + 1)] s70 (fun r72 s73 => (-2147483648 ≤ r72 + 1 ∧ r72 + 1 ≤ 2147483647) ∧ (-2147483648 ≤ (r69 + 1) - r72 ∧ (r69 + 1) - r72 ≤ 2147483647) ∧ CLi l G mL_low [vI (shrI x2 9), vI ((r69 + 1) - r72)] s73 (fun r76 s77 => (-2147483648 ≤ (r72 + 1) + r76 ∧ (r72 + 1) + r76 ≤ 2147483647) ∧ CLi l G mX7_cost [vR 0, vI x1, vI x4, vI r72, vI ((r72 + 1) + r76)] s77 (fun r79 s80 => CLi l G mX7_insert [vR 0, vI x1, vI x4, vI r72, vI ((r72 + 1) + r76)] s80 (fun r81 s82 => (r81 = r79 → (0 ≤ r81 → CLi l G mX7_stop [vR 0, vI x4, vI r72, vI 0] s82 (fun r85 s86 => (r85 = x1 → CLi l G mX7_stop [vR 0, vI x4, vI ((r72 + 1) + r76), vI 0] s86 (fun r88 s89 => (r88 = x1 → CLi l G mX7_stop [vR 0, vI x4, vI ((r72 + 1) + r76), vI 1] s89 (fun r91 s92 => (r91 = 1 → CLi l G mX7_count [vR 0, vI 3] s92 (fun r94 s95 => (-2147483648 ≤ x5 + r79 ∧ x5 + r79 ≤ 2147483647) ∧ ∀ y98 : Int, y98 = (if r94 = (x5 + r79) then 1 else 0) → Q y98 s95)) ∧ (¬ (r91 = 1) → Q 0 s92))) ∧ (¬ (r88 = x1) → Q 0 s89))) ∧ (¬ (r85 = x1) → Q 0 s86))) ∧ (¬ (0 ≤ r81) → ∀ y103 : Int, y103 = (if r81 = (-1005) then 1 else 0) → Q y103 s82)) ∧ (¬ (r81 = r79) → Q 0 s82)))))))))) :
    MXi l G0 G mL_puts 4 sz 1 4 110 [(0, vR 0), (1, vI x1), (2, vI x2), (4, vI x4), (5, vI x5), (6, vR 57), (7, vI x7), (8, vI x8)] [] σ Q := by
  refine r_iload_n 2 dL_puts_110 rfl rfl ?_
  refine r_iconst dL_puts_111 (by decide) ?_
  refine r_ishr dL_puts_112 ?_
  refine r_iconst dL_puts_113 (by decide) ?_
  refine r_callS [vI (shrI x2 3), vI 3] [] dL_puts_114 okL_low ssL_low lm_L_66 rfl rfl ⟨Nat.le_of_ble_eq_true rfl, Nat.le_of_ble_eq_true rfl, Nat.le_of_ble_eq_true rfl, Nat.le_of_ble_eq_true rfl⟩ h ?_
  rintro _ s25 ⟨r24, rfl, h⟩
  refine r_istore dL_puts_117 (by decide) rfl ?_
  refine r_iload 0 dL_puts_119 rfl ?_
  refine r_if_ne (tgt := 184) dL_puts_121 (by decide) (fun (c26 : r24 = 0) => ?_) (fun (c26 : ¬ (r24 = 0)) => ?_)
  · replace h := h.1 c26
    refine r_aload_n 1 dL_puts_124 rfl rfl ?_
    refine r_iload_n 2 dL_puts_125 rfl rfl ?_
    refine r_callV [vI x1] [] dL_puts_126 okX7_assign ivX7_assign seX7_assign lm_L_71 rfl rfl sh_0 rfl ⟨Nat.le_of_ble_eq_true rfl, Nat.le_of_ble_eq_true rfl, Nat.le_of_ble_eq_true rfl, Nat.le_of_ble_eq_true rfl⟩ h ?_
    rintro _ s28 ⟨r27, rfl, h⟩
    refine r_istore dL_puts_129 (by decide) rfl ?_
    refine r_iload 0 dL_puts_131 rfl ?_
    refine r_iload 9 dL_puts_133 rfl ?_
    obtain ⟨y30, ey30⟩ : ∃ z : Int, z = (if 0 ≤ x8 then x8 else (-1005)) := ⟨_, rfl⟩
    replace h := h y30 ey30
    have hj31 : MXi l G0 G mL_puts 4 sz 1 4 146 [(0, vR 0), (1, vI x1), (5, vI x5), (7, vI x7), (8, vI x8)] [vI y30, vI r27] s28 Q := by
      refine r_icmp_ne (tgt := 182) dL_puts_146 (by decide) (fun (c34 : r27 = y30) => ?_) (fun (c34 : ¬ (r27 = y30)) => ?_)
      · replace h := h.1 c34
        refine r_iload 4 dL_puts_149 rfl ?_
        refine r_if_lt (tgt := 178) dL_puts_151 (by decide) (fun (c35 : x8 < 0) => ?_) (fun (c35 : ¬ (x8 < 0)) => ?_)
        · replace h := h.1 c35
          refine r_iconst dL_puts_178 (by decide) ?_
          refine r_goto (tgt := 183) dL_puts_179 (by decide) ?_
          exact r_zretX hg dL_puts_183 rfl (by decide) ⟨_, rfl, h⟩
        · replace h := h.2 c35
          refine r_aload_n 0 dL_puts_154 rfl rfl ?_
          refine r_iconst dL_puts_155 (by decide) ?_
          refine r_callV [vI 3] [] dL_puts_156 okX7_count ivX7_count seX7_count lm_L_25 rfl rfl sh_0 rfl ⟨Nat.le_of_ble_eq_true rfl, Nat.le_of_ble_eq_true rfl, Nat.le_of_ble_eq_true rfl, Nat.le_of_ble_eq_true rfl⟩ h ?_
          rintro _ s37 ⟨r36, rfl, h⟩
          refine r_iload 2 dL_puts_159 rfl ?_
          refine r_iload 3 dL_puts_161 rfl ?_
          obtain ⟨b38, h⟩ := h
          refine r_iadd dL_puts_163 b38 ?_
          refine r_icmp_ne (tgt := 182) dL_puts_164 (by decide) (fun (c39 : r36 = (x5 + x7)) => ?_) (fun (c39 : ¬ (r36 = (x5 + x7))) => ?_)
          · replace h := h.1 c39
            refine r_aload_n 0 dL_puts_167 rfl rfl ?_
            refine r_iload_n 1 dL_puts_168 rfl rfl ?_
            refine r_iconst dL_puts_169 (by decide) ?_
            refine r_callV [vI x1, vI 0] [] dL_puts_170 okX7_request ivX7_request seX7_request lm_L_36 rfl rfl sh_0 rfl ⟨Nat.le_of_ble_eq_true rfl, Nat.le_of_ble_eq_true rfl, Nat.le_of_ble_eq_true rfl, Nat.le_of_ble_eq_true rfl⟩ h ?_
            rintro _ s41 ⟨r40, rfl, h⟩
            refine r_iload 4 dL_puts_173 rfl ?_
            obtain ⟨y43, ey43⟩ : ∃ z : Int, z = (if r40 = x8 then 1 else 0) := ⟨_, rfl⟩
            replace h := h y43 ey43
            have hj44 : MXi l G0 G mL_puts 4 sz 1 4 183 [] [vI y43] s41 Q := by
              exact r_zretX hg dL_puts_183 rfl (by rw [ey43]; (repeat' split) <;> decide) ⟨_, rfl, h⟩
            refine r_icmp_ne (tgt := 182) dL_puts_175 (by decide) (fun (c42 : r40 = x8) => ?_) (fun (c42 : ¬ (r40 = x8)) => ?_)
            · refine r_iconst dL_puts_178 (by decide) ?_
              refine r_goto (tgt := 183) dL_puts_179 (by decide) ?_
              refine MWF.sub [] rfl ?_
              have q45 : y43 = 1 := by rw [ey43, if_pos c42]
              rw [q45] at hj44
              exact hj44
            · refine r_iconst dL_puts_182 (by decide) ?_
              refine MWF.sub [] rfl ?_
              have q46 : y43 = 0 := by rw [ey43, if_neg c42]
              rw [q46] at hj44
              exact hj44
          · replace h := h.2 c39
            refine r_iconst dL_puts_182 (by decide) ?_
            exact r_zretX hg dL_puts_183 rfl (by decide) ⟨_, rfl, h⟩
      · replace h := h.2 c34
        refine r_iconst dL_puts_182 (by decide) ?_
        exact r_zretX hg dL_puts_183 rfl (by decide) ⟨_, rfl, h⟩
    refine r_if_ge (tgt := 144) dL_puts_135 (by decide) (fun (c29 : 0 ≤ x8) => ?_) (fun (c29 : ¬ (0 ≤ x8)) => ?_)
    · refine r_iload 9 dL_puts_144 rfl ?_
      refine MWF.sub [2, 3, 6, 8, 9] rfl ?_
      have q32 : y30 = x8 := by rw [ey30, if_pos c29]
      rw [q32] at hj31
      exact hj31
    · refine r_sipush dL_puts_138 (by decide) (by decide) ?_
      refine r_goto (tgt := 146) dL_puts_141 (by decide) ?_
      refine MWF.sub [2, 3, 6, 8, 9] rfl ?_
      have q33 : y30 = (-1005) := by rw [ey30, if_neg c29]
      rw [q33] at hj31
      exact hj31
  · replace h := h.2 c26
    refine r_iload 0 dL_puts_184 rfl ?_
    refine r_iconst dL_puts_186 (by decide) ?_
    refine r_icmp_ne (tgt := 260) dL_puts_187 (by decide) (fun (c47 : r24 = 1) => ?_) (fun (c47 : ¬ (r24 = 1)) => ?_)
    · replace h := h.1 c47
      refine r_aload_n 1 dL_puts_190 rfl rfl ?_
      refine r_iload_n 2 dL_puts_191 rfl rfl ?_
      refine r_iload 4 dL_puts_192 rfl ?_
      refine r_callV [vI x1, vI x4] [] dL_puts_194 okX7_assignTo ivX7_assignTo seX7_assignTo lm_L_74 rfl rfl sh_0 rfl ⟨Nat.le_of_ble_eq_true rfl, Nat.le_of_ble_eq_true rfl, Nat.le_of_ble_eq_true rfl, Nat.le_of_ble_eq_true rfl⟩ h ?_
      rintro _ s49 ⟨r48, rfl, h⟩
      refine r_istore dL_puts_197 (by decide) rfl ?_
      refine r_iload 0 dL_puts_199 rfl ?_
      refine r_aload 7 dL_puts_201 rfl ?_
      refine r_iload 5 dL_puts_203 rfl ?_
      obtain ⟨b50, h⟩ := h
      refine r_xald hx dL_puts_205 (n := 4) rfl b50.1 b50.2 ?_
      refine r_ldc (n := 99999) dL_puts_206 lc_L_50 (by decide) ?_
      obtain ⟨y52, ey52⟩ : ∃ z : Int, z = (if (s49 57 x4.toNat) = 99999 then (-1005) else (s49 57 x4.toNat)) := ⟨_, rfl⟩
      replace h := h y52 ey52
      have hj53 : MXi l G0 G mL_puts 4 sz 1 4 222 [(0, vR 0), (1, vI x1), (4, vI x4), (5, vI x5), (10, vI r48)] [vI y52, vI r48] s49 Q := by
        refine r_icmp_ne (tgt := 258) dL_puts_222 (by decide) (fun (c56 : r48 = y52) => ?_) (fun (c56 : ¬ (r48 = y52)) => ?_)
        · replace h := h.1 c56
          refine r_iload 4 dL_puts_225 rfl ?_
          refine r_if_lt (tgt := 254) dL_puts_227 (by decide) (fun (c57 : r48 < 0) => ?_) (fun (c57 : ¬ (r48 < 0)) => ?_)
          · replace h := h.1 c57
            refine r_iconst dL_puts_254 (by decide) ?_
            refine r_goto (tgt := 259) dL_puts_255 (by decide) ?_
            exact r_zretX hg dL_puts_259 rfl (by decide) ⟨_, rfl, h⟩
          · replace h := h.2 c57
            refine r_aload_n 0 dL_puts_230 rfl rfl ?_
            refine r_iconst dL_puts_231 (by decide) ?_
            refine r_callV [vI 3] [] dL_puts_232 okX7_count ivX7_count seX7_count lm_L_25 rfl rfl sh_0 rfl ⟨Nat.le_of_ble_eq_true rfl, Nat.le_of_ble_eq_true rfl, Nat.le_of_ble_eq_true rfl, Nat.le_of_ble_eq_true rfl⟩ h ?_
            rintro _ s59 ⟨r58, rfl, h⟩
            refine r_iload 3 dL_puts_235 rfl ?_
            refine r_iload 4 dL_puts_237 rfl ?_
            obtain ⟨b60, h⟩ := h
            refine r_iadd dL_puts_239 b60 ?_
            refine r_icmp_ne (tgt := 258) dL_puts_240 (by decide) (fun (c61 : r58 = (x5 + r48)) => ?_) (fun (c61 : ¬ (r58 = (x5 + r48))) => ?_)
            · replace h := h.1 c61
              refine r_aload_n 0 dL_puts_243 rfl rfl ?_
              refine r_iload_n 1 dL_puts_244 rfl rfl ?_
              refine r_iconst dL_puts_245 (by decide) ?_
              refine r_callV [vI x1, vI 0] [] dL_puts_246 okX7_request ivX7_request seX7_request lm_L_36 rfl rfl sh_0 rfl ⟨Nat.le_of_ble_eq_true rfl, Nat.le_of_ble_eq_true rfl, Nat.le_of_ble_eq_true rfl, Nat.le_of_ble_eq_true rfl⟩ h ?_
              rintro _ s63 ⟨r62, rfl, h⟩
              refine r_iload 2 dL_puts_249 rfl ?_
              obtain ⟨y65, ey65⟩ : ∃ z : Int, z = (if r62 = x4 then 1 else 0) := ⟨_, rfl⟩
              replace h := h y65 ey65
              have hj66 : MXi l G0 G mL_puts 4 sz 1 4 259 [] [vI y65] s63 Q := by
                exact r_zretX hg dL_puts_259 rfl (by rw [ey65]; (repeat' split) <;> decide) ⟨_, rfl, h⟩
              refine r_icmp_ne (tgt := 258) dL_puts_251 (by decide) (fun (c64 : r62 = x4) => ?_) (fun (c64 : ¬ (r62 = x4)) => ?_)
              · refine r_iconst dL_puts_254 (by decide) ?_
                refine r_goto (tgt := 259) dL_puts_255 (by decide) ?_
                refine MWF.sub [] rfl ?_
                have q67 : y65 = 1 := by rw [ey65, if_pos c64]
                rw [q67] at hj66
                exact hj66
              · refine r_iconst dL_puts_258 (by decide) ?_
                refine MWF.sub [] rfl ?_
                have q68 : y65 = 0 := by rw [ey65, if_neg c64]
                rw [q68] at hj66
                exact hj66
            · replace h := h.2 c61
              refine r_iconst dL_puts_258 (by decide) ?_
              exact r_zretX hg dL_puts_259 rfl (by decide) ⟨_, rfl, h⟩
        · replace h := h.2 c56
          refine r_iconst dL_puts_258 (by decide) ?_
          exact r_zretX hg dL_puts_259 rfl (by decide) ⟨_, rfl, h⟩
      refine r_icmp_ne (tgt := 217) dL_puts_208 (by decide) (fun (c51 : (s49 57 x4.toNat) = 99999) => ?_) (fun (c51 : ¬ ((s49 57 x4.toNat) = 99999)) => ?_)
      · refine r_sipush dL_puts_211 (by decide) (by decide) ?_
        refine r_goto (tgt := 222) dL_puts_214 (by decide) ?_
        refine MWF.sub [2, 3, 5, 6, 0] rfl ?_
        have q54 : y52 = (-1005) := by rw [ey52, if_pos c51]
        rw [q54] at hj53
        exact hj53
      · refine r_aload 7 dL_puts_217 rfl ?_
        refine r_iload 5 dL_puts_219 rfl ?_
        refine r_xald hx dL_puts_221 (n := 4) rfl b50.1 b50.2 ?_
        refine MWF.sub [2, 3, 5, 6, 0] rfl ?_
        have q55 : y52 = (s49 57 x4.toNat) := by rw [ey52, if_neg c51]
        rw [q55] at hj53
        exact hj53
    · replace h := h.2 c47
      refine r_aload_n 1 dL_puts_260 rfl rfl ?_
      refine r_iload 4 dL_puts_261 rfl ?_
      refine r_iconst dL_puts_263 (by decide) ?_
      refine r_callV [vI x4, vI 3] [] dL_puts_264 okX7_vehicle ivX7_vehicle seX7_vehicle lm_L_21 rfl rfl sh_0 rfl ⟨Nat.le_of_ble_eq_true rfl, Nat.le_of_ble_eq_true rfl, Nat.le_of_ble_eq_true rfl, Nat.le_of_ble_eq_true rfl⟩ h ?_
      rintro _ s70 ⟨r69, rfl, h⟩
      refine r_istore dL_puts_267 (by decide) rfl ?_
      refine r_iload_n 4 dL_puts_269 rfl rfl ?_
      refine r_iconst dL_puts_270 (by decide) ?_
      refine r_ishr dL_puts_271 ?_
      refine r_iload 0 dL_puts_272 rfl ?_
      refine r_iconst dL_puts_274 (by decide) ?_
      obtain ⟨b71, h⟩ := h
      refine r_iadd dL_puts_275 b71 ?_
      refine r_callS [vI (shrI x2 5), vI (r69 + 1)] [] dL_puts_276 okL_low ssL_low lm_L_66 rfl rfl ⟨Nat.le_of_ble_eq_true rfl, Nat.le_of_ble_eq_true rfl, Nat.le_of_ble_eq_true rfl, Nat.le_of_ble_eq_true rfl⟩ h ?_
      rintro _ s73 ⟨r72, rfl, h⟩
      refine r_istore dL_puts_279 (by decide) rfl ?_
      refine r_iload 0 dL_puts_281 rfl ?_
      refine r_iconst dL_puts_283 (by decide) ?_
      obtain ⟨b74, h⟩ := h
      refine r_iadd dL_puts_284 b74 ?_
      refine r_iload_n 5 dL_puts_285 rfl rfl ?_
      refine r_bipush dL_puts_286 (by decide) (by decide) ?_
      refine r_ishr dL_puts_288 ?_
      refine r_iload 1 dL_puts_289 rfl ?_
      refine r_iconst dL_puts_291 (by decide) ?_
      refine r_iadd dL_puts_292 b71 ?_
      refine r_iload 0 dL_puts_293 rfl ?_
      obtain ⟨b75, h⟩ := h
      refine r_isub dL_puts_295 b75 ?_
      refine r_callS [vI (shrI x2 9), vI ((r69 + 1) - r72)] [vI (r72 + 1)] dL_puts_296 okL_low ssL_low lm_L_66 rfl rfl ⟨Nat.le_of_ble_eq_true rfl, Nat.le_of_ble_eq_true rfl, Nat.le_of_ble_eq_true rfl, Nat.le_of_ble_eq_true rfl⟩ h ?_
      rintro _ s77 ⟨r76, rfl, h⟩
      obtain ⟨b78, h⟩ := h
      refine r_iadd dL_puts_299 b78 ?_
      refine r_istore dL_puts_300 (by decide) rfl ?_
      refine r_aload_n 4 dL_puts_302 rfl rfl ?_
      refine r_iload_n 5 dL_puts_303 rfl rfl ?_
      refine r_iload 7 dL_puts_304 rfl ?_
      refine r_iload 1 dL_puts_306 rfl ?_
      refine r_iload 0 dL_puts_308 rfl ?_
      refine r_callV [vI x1, vI x4, vI r72, vI ((r72 + 1) + r76)] [] dL_puts_310 okX7_cost ivX7_cost seX7_cost lm_L_51 rfl rfl sh_0 rfl ⟨Nat.le_of_ble_eq_true rfl, Nat.le_of_ble_eq_true rfl, Nat.le_of_ble_eq_true rfl, Nat.le_of_ble_eq_true rfl⟩ h ?_
      rintro _ s80 ⟨r79, rfl, h⟩
      refine r_istore dL_puts_313 (by decide) rfl ?_
      refine r_aload_n 5 dL_puts_315 rfl rfl ?_
      refine r_iload_n 6 dL_puts_316 rfl rfl ?_
      refine r_iload 8 dL_puts_317 rfl ?_
      refine r_iload 2 dL_puts_319 rfl ?_
      refine r_iload 1 dL_puts_321 rfl ?_
      refine r_callV [vI x1, vI x4, vI r72, vI ((r72 + 1) + r76)] [] dL_puts_323 okX7_insert ivX7_insert seX7_insert lm_L_77 rfl rfl sh_0 rfl ⟨Nat.le_of_ble_eq_true rfl, Nat.le_of_ble_eq_true rfl, Nat.le_of_ble_eq_true rfl, Nat.le_of_ble_eq_true rfl⟩ h ?_
      rintro _ s82 ⟨r81, rfl, h⟩
      refine r_istore dL_puts_326 (by decide) rfl ?_
      refine r_iload 0 dL_puts_328 rfl ?_
      refine r_iload 1 dL_puts_330 rfl ?_
      refine r_icmp_ne (tgt := 407) dL_puts_332 (by decide) (fun (c83 : r81 = r79) => ?_) (fun (c83 : ¬ (r81 = r79)) => ?_)
      · replace h := h.1 c83
        refine r_iload 0 dL_puts_335 rfl ?_
        refine r_if_ge (tgt := 351) dL_puts_337 (by decide) (fun (c84 : 0 ≤ r81) => ?_) (fun (c84 : ¬ (0 ≤ r81)) => ?_)
        · replace h := h.1 c84
          refine r_aload_n 6 dL_puts_351 rfl rfl ?_
          refine r_iload 9 dL_puts_352 rfl ?_
          refine r_iload 3 dL_puts_354 rfl ?_
          refine r_iconst dL_puts_356 (by decide) ?_
          refine r_callV [vI x4, vI r72, vI 0] [] dL_puts_357 okX7_stop ivX7_stop seX7_stop lm_L_15 rfl rfl sh_0 rfl ⟨Nat.le_of_ble_eq_true rfl, Nat.le_of_ble_eq_true rfl, Nat.le_of_ble_eq_true rfl, Nat.le_of_ble_eq_true rfl⟩ h ?_
          rintro _ s86 ⟨r85, rfl, h⟩
          refine r_iload_n 7 dL_puts_360 rfl rfl ?_
          refine r_icmp_ne (tgt := 407) dL_puts_361 (by decide) (fun (c87 : r85 = x1) => ?_) (fun (c87 : ¬ (r85 = x1)) => ?_)
          · replace h := h.1 c87
            refine r_aload_n 6 dL_puts_364 rfl rfl ?_
            refine r_iload 9 dL_puts_365 rfl ?_
            refine r_iload 2 dL_puts_367 rfl ?_
            refine r_iconst dL_puts_369 (by decide) ?_
            refine r_callV [vI x4, vI ((r72 + 1) + r76), vI 0] [] dL_puts_370 okX7_stop ivX7_stop seX7_stop lm_L_15 rfl rfl sh_0 rfl ⟨Nat.le_of_ble_eq_true rfl, Nat.le_of_ble_eq_true rfl, Nat.le_of_ble_eq_true rfl, Nat.le_of_ble_eq_true rfl⟩ h ?_
            rintro _ s89 ⟨r88, rfl, h⟩
            refine r_iload_n 7 dL_puts_373 rfl rfl ?_
            refine r_icmp_ne (tgt := 407) dL_puts_374 (by decide) (fun (c90 : r88 = x1) => ?_) (fun (c90 : ¬ (r88 = x1)) => ?_)
            · replace h := h.1 c90
              refine r_aload_n 6 dL_puts_377 rfl rfl ?_
              refine r_iload 9 dL_puts_378 rfl ?_
              refine r_iload 2 dL_puts_380 rfl ?_
              refine r_iconst dL_puts_382 (by decide) ?_
              refine r_callV [vI x4, vI ((r72 + 1) + r76), vI 1] [] dL_puts_383 okX7_stop ivX7_stop seX7_stop lm_L_15 rfl rfl sh_0 rfl ⟨Nat.le_of_ble_eq_true rfl, Nat.le_of_ble_eq_true rfl, Nat.le_of_ble_eq_true rfl, Nat.le_of_ble_eq_true rfl⟩ h ?_
              rintro _ s92 ⟨r91, rfl, h⟩
              refine r_iconst dL_puts_386 (by decide) ?_
              refine r_icmp_ne (tgt := 407) dL_puts_387 (by decide) (fun (c93 : r91 = 1) => ?_) (fun (c93 : ¬ (r91 = 1)) => ?_)
              · replace h := h.1 c93
                refine r_aload_n 6 dL_puts_390 rfl rfl ?_
                refine r_iconst dL_puts_391 (by decide) ?_
                refine r_callV [vI 3] [] dL_puts_392 okX7_count ivX7_count seX7_count lm_L_25 rfl rfl sh_0 rfl ⟨Nat.le_of_ble_eq_true rfl, Nat.le_of_ble_eq_true rfl, Nat.le_of_ble_eq_true rfl, Nat.le_of_ble_eq_true rfl⟩ h ?_
                rintro _ s95 ⟨r94, rfl, h⟩
                refine r_iload 10 dL_puts_395 rfl ?_
                refine r_iload 1 dL_puts_397 rfl ?_
                obtain ⟨b96, h⟩ := h
                refine r_iadd dL_puts_399 b96 ?_
                obtain ⟨y98, ey98⟩ : ∃ z : Int, z = (if r94 = (x5 + r79) then 1 else 0) := ⟨_, rfl⟩
                replace h := h y98 ey98
                have hj99 : MXi l G0 G mL_puts 4 sz 1 4 408 [] [vI y98] s95 Q := by
                  exact r_zretX hg dL_puts_408 rfl (by rw [ey98]; (repeat' split) <;> decide) ⟨_, rfl, h⟩
                refine r_icmp_ne (tgt := 407) dL_puts_400 (by decide) (fun (c97 : r94 = (x5 + r79)) => ?_) (fun (c97 : ¬ (r94 = (x5 + r79))) => ?_)
                · refine r_iconst dL_puts_403 (by decide) ?_
                  refine r_goto (tgt := 408) dL_puts_404 (by decide) ?_
                  refine MWF.sub [] rfl ?_
                  have q100 : y98 = 1 := by rw [ey98, if_pos c97]
                  rw [q100] at hj99
                  exact hj99
                · refine r_iconst dL_puts_407 (by decide) ?_
                  refine MWF.sub [] rfl ?_
                  have q101 : y98 = 0 := by rw [ey98, if_neg c97]
                  rw [q101] at hj99
                  exact hj99
              · replace h := h.2 c93
                refine r_iconst dL_puts_407 (by decide) ?_
                exact r_zretX hg dL_puts_408 rfl (by decide) ⟨_, rfl, h⟩
            · replace h := h.2 c90
              refine r_iconst dL_puts_407 (by decide) ?_
              exact r_zretX hg dL_puts_408 rfl (by decide) ⟨_, rfl, h⟩
          · replace h := h.2 c87
            refine r_iconst dL_puts_407 (by decide) ?_
            exact r_zretX hg dL_puts_408 rfl (by decide) ⟨_, rfl, h⟩
        · replace h := h.2 c84
          refine r_iload 0 dL_puts_340 rfl ?_
          refine r_sipush dL_puts_342 (by decide) (by decide) ?_
          obtain ⟨y103, ey103⟩ : ∃ z : Int, z = (if r81 = (-1005) then 1 else 0) := ⟨_, rfl⟩
          replace h := h y103 ey103
          have hj104 : MXi l G0 G mL_puts 4 sz 1 4 408 [] [vI y103] s82 Q := by
            exact r_zretX hg dL_puts_408 rfl (by rw [ey103]; (repeat' split) <;> decide) ⟨_, rfl, h⟩
          refine r_icmp_ne (tgt := 407) dL_puts_345 (by decide) (fun (c102 : r81 = (-1005)) => ?_) (fun (c102 : ¬ (r81 = (-1005))) => ?_)
          · refine r_goto (tgt := 403) dL_puts_348 (by decide) ?_
            refine r_iconst dL_puts_403 (by decide) ?_
            refine r_goto (tgt := 408) dL_puts_404 (by decide) ?_
            refine MWF.sub [] rfl ?_
            have q105 : y103 = 1 := by rw [ey103, if_pos c102]
            rw [q105] at hj104
            exact hj104
          · refine r_iconst dL_puts_407 (by decide) ?_
            refine MWF.sub [] rfl ?_
            have q106 : y103 = 0 := by rw [ey103, if_neg c102]
            rw [q106] at hj104
            exact hj104
      · replace h := h.2 c83
        refine r_iconst dL_puts_407 (by decide) ?_
        exact r_zretX hg dL_puts_408 rfl (by decide) ⟨_, rfl, h⟩
set_option maxRecDepth 100000 in
set_option maxHeartbeats 4000000 in
theorem clL_chains (l : Launch) (G : GT) (hx0 : G.2.2.2.2 = 0) (sz : Nat) (σ : Sto) (Q : Int → Sto → Prop) (x1 : Int)
    (h : CLi l G mX7_count [vR 0, vI 3] σ (fun r1 s2 => CLi l G mX7_count [vR 0, vI 2] s2 (fun r3 s4 => CLi l G mX7_chainCost [vR 0, vI x1] s4 (fun r5 s6 => CLj l G mL_print [vR 0] s6 (fun r7 s8 => ∀ q9 : Nat, MXi l G (gX G 58 q9) mL_chains 12 sz 1 12 34 [(0, vR 0), (1, vI x1), (2, vI r1), (3, vI r3), (4, vI r5), (5, vJ r7), (7, vR 58), (8, vI 0)] [] (zS s8 58) Q))))) :
    MXi l G G mL_chains 12 sz 0 0 0 [(0, vR 0), (1, vI x1)] [] σ Q := by
  refine r_aload_n 0 dL_chains_0 rfl rfl ?_
  refine r_iconst dL_chains_1 (by decide) ?_
  refine r_callV [vI 3] [] dL_chains_2 okX7_count ivX7_count seX7_count lm_L_25 rfl rfl sh_0 rfl ⟨Nat.le_of_ble_eq_true rfl, Nat.le_of_ble_eq_true rfl, Nat.le_of_ble_eq_true rfl, Nat.le_of_ble_eq_true rfl⟩ h ?_
  rintro _ s2 ⟨r1, rfl, h⟩
  refine r_istore_n dL_chains_5 rfl (by decide) rfl ?_
  refine r_aload_n 1 dL_chains_6 rfl rfl ?_
  refine r_iconst dL_chains_7 (by decide) ?_
  refine r_callV [vI 2] [] dL_chains_8 okX7_count ivX7_count seX7_count lm_L_25 rfl rfl sh_0 rfl ⟨Nat.le_of_ble_eq_true rfl, Nat.le_of_ble_eq_true rfl, Nat.le_of_ble_eq_true rfl, Nat.le_of_ble_eq_true rfl⟩ h ?_
  rintro _ s4 ⟨r3, rfl, h⟩
  refine r_istore_n dL_chains_11 rfl (by decide) rfl ?_
  refine r_aload_n 2 dL_chains_12 rfl rfl ?_
  refine r_iload_n 3 dL_chains_13 rfl rfl ?_
  refine r_callV [vI x1] [] dL_chains_14 okX7_chainCost ivX7_chainCost seX7_chainCost lm_L_80 rfl rfl sh_0 rfl ⟨Nat.le_of_ble_eq_true rfl, Nat.le_of_ble_eq_true rfl, Nat.le_of_ble_eq_true rfl, Nat.le_of_ble_eq_true rfl⟩ h ?_
  rintro _ s6 ⟨r5, rfl, h⟩
  refine r_istore dL_chains_17 (by decide) rfl ?_
  refine r_aload_n 3 dL_chains_19 rfl rfl ?_
  refine r_callS [vR 0] [] dL_chains_20 okL_print ssL_print lm_L_83 rfl rfl ⟨Nat.le_of_ble_eq_true rfl, Nat.le_of_ble_eq_true rfl, Nat.le_of_ble_eq_true rfl, Nat.le_of_ble_eq_true rfl⟩ h ?_
  rintro _ s8 ⟨r7, rfl, h⟩
  refine r_lstore dL_chains_23 (by decide) rfl ?_
  refine r_bipush dL_chains_25 (by decide) (by decide) ?_
  refine r_newX (x := 58) hx0 dL_chains_27 rfl (by decide) (by decide +kernel) rfl rfl (fun q9 => ?_)
  replace h := h q9
  refine r_astore dL_chains_29 (by decide) rfl ?_
  refine r_iconst dL_chains_31 (by decide) ?_
  refine r_istore dL_chains_32 (by decide) rfl ?_
  refine MWF.sub [6, 7, 5, 4, 3, 2, 1, 0] rfl ?_
  exact h
set_option maxRecDepth 100000 in
set_option maxHeartbeats 4000000 in
theorem vcL_chains_34 (l : Launch) (G0 G : GT) (hg : gR G0 G) (hx : G.2.2.2.2 = 58) (sz : Nat) (σ : Sto) (Q : Int → Sto → Prop) (x1 : Int) (x2 : Int) (x3 : Int) (x4 : Int) (x5 : Int64) (x8 : Int)
    (h : CLi l G mX7_count [vR 0, vI 1] σ (fun r10 s11 => (r10 ≤ x8 → MXi l G0 G mL_chains 12 sz 1 12 62 [(0, vR 0), (1, vI x1), (2, vI x2), (3, vI x3), (4, vI x4), (5, vJ x5), (7, vR 58)] [] s11 Q) ∧ (¬ (r10 ≤ x8) → CLi l G mX7_request [vR 0, vI x8, vI 0] s11 (fun r13 s14 => (0 ≤ x8 ∧ x8 < 12) ∧ (-2147483648 ≤ x8 + 1 ∧ x8 + 1 ≤ 2147483647) ∧ MXi l G0 G mL_chains 12 sz 1 12 34 [(0, vR 0), (1, vI x1), (2, vI x2), (3, vI x3), (4, vI x4), (5, vJ x5), (7, vR 58), (8, vI (x8 + 1))] [] (stS s14 58 x8.toNat r13) Q)))) :
    MXi l G0 G mL_chains 12 sz 1 12 34 [(0, vR 0), (1, vI x1), (2, vI x2), (3, vI x3), (4, vI x4), (5, vJ x5), (7, vR 58), (8, vI x8)] [] σ Q := by
  refine r_iload 7 dL_chains_34 rfl ?_
  refine r_aload_n 0 dL_chains_36 rfl rfl ?_
  refine r_iconst dL_chains_37 (by decide) ?_
  refine r_callV [vI 1] [vI x8] dL_chains_38 okX7_count ivX7_count seX7_count lm_L_25 rfl rfl sh_0 rfl ⟨Nat.le_of_ble_eq_true rfl, Nat.le_of_ble_eq_true rfl, Nat.le_of_ble_eq_true rfl, Nat.le_of_ble_eq_true rfl⟩ h ?_
  rintro _ s11 ⟨r10, rfl, h⟩
  refine r_icmp_ge (tgt := 62) dL_chains_41 (by decide) (fun (c12 : r10 ≤ x8) => ?_) (fun (c12 : ¬ (r10 ≤ x8)) => ?_)
  · replace h := h.1 c12
    refine MWF.sub [0, 1, 2, 3, 4, 5, 6] rfl ?_
    exact h
  · replace h := h.2 c12
    refine r_aload 6 dL_chains_44 rfl ?_
    refine r_iload 7 dL_chains_46 rfl ?_
    refine r_aload_n 0 dL_chains_48 rfl rfl ?_
    refine r_iload 7 dL_chains_49 rfl ?_
    refine r_iconst dL_chains_51 (by decide) ?_
    refine r_callV [vI x8, vI 0] [vI x8, vR 58] dL_chains_52 okX7_request ivX7_request seX7_request lm_L_36 rfl rfl sh_0 rfl ⟨Nat.le_of_ble_eq_true rfl, Nat.le_of_ble_eq_true rfl, Nat.le_of_ble_eq_true rfl, Nat.le_of_ble_eq_true rfl⟩ h ?_
    rintro _ s14 ⟨r13, rfl, h⟩
    obtain ⟨b15, h⟩ := h
    refine r_xast hx dL_chains_55 (n := 12) rfl b15.1 b15.2 ?_
    obtain ⟨b16, h⟩ := h
    refine r_iinc 7 dL_chains_56 rfl (by decide) b16 rfl ?_
    refine r_goto (tgt := 34) dL_chains_59 (by decide) ?_
    refine MWF.sub [1, 2, 3, 4, 5, 6, 7, 0] rfl ?_
    exact h
set_option maxRecDepth 100000 in
set_option maxHeartbeats 4000000 in
theorem vcL_chains_62 (l : Launch) (G0 G : GT) (hg : gR G0 G) (hx : G.2.2.2.2 = 58) (sz : Nat) (σ : Sto) (Q : Int → Sto → Prop) (x1 : Int) (x2 : Int) (x3 : Int) (x4 : Int) (x5 : Int64)
    (h : CLi l G mX7_chain [vR 0, vI x1] σ (fun r17 s18 => (x4 < 0 → (x4 = (-1005) → (r17 = (-1005) → CLj l G mL_print [vR 0] s18 (fun r22 s23 => ∀ y25 : Int, y25 = (if (lcI r22 x5) = 0 then 1 else 0) → Q y25 s23)) ∧ (¬ (r17 = (-1005)) → Q 0 s18)) ∧ (¬ (x4 = (-1005)) → Q 0 s18)) ∧ (¬ (x4 < 0) → (0 ≤ r17 → (0 ≤ r17) ∧ CLi l G mX7_request [vR 0, vI x1, vI 0] s18 (fun r31 s32 => (0 ≤ (r17 / 100) ∧ (r17 / 100) < 12) ∧ (r31 = (s32 58 (r17 / 100).toNat) → ((r17 % 100) = 99 → CLi l G mX7_request [vR 0, vI (r17 / 100), vI 0] s32 (fun r36 s37 => (r36 = (s37 58 (r17 / 100).toNat) → MXi l G0 G mL_chains 12 sz 1 12 232 [(0, vR 0), (1, vI x1), (2, vI x2), (3, vI x3), (4, vI x4), (7, vR 58), (9, vI (r17 / 100)), (10, vI (r17 % 100))] [vI 0] s37 Q) ∧ (¬ (r36 = (s37 58 (r17 / 100).toNat)) → CLi l G mX7_request [vR 0, vI (r17 / 100), vI 0] s37 (fun r39 s40 => (r39 < 0 → MXi l G0 G mL_chains 12 sz 1 12 232 [(0, vR 0), (1, vI x1), (2, vI x2), (3, vI x3), (4, vI x4), (7, vR 58), (9, vI (r17 / 100)), (10, vI (r17 % 100))] [vI 0] s40 Q) ∧ (¬ (r39 < 0) → MXi l G0 G mL_chains 12 sz 1 12 232 [(0, vR 0), (1, vI x1), (2, vI x2), (3, vI x3), (4, vI x4), (7, vR 58), (9, vI (r17 / 100)), (10, vI (r17 % 100))] [vI 1] s40 Q))))) ∧ (¬ ((r17 % 100) = 99) → CLi l G mX7_request [vR 0, vI (r17 / 100), vI 0] s32 (fun r42 s43 => (0 ≤ (r17 % 100) ∧ (r17 % 100) < 12) ∧ (r42 = (s43 58 (r17 % 100).toNat) → CLi l G mX7_request [vR 0, vI (r17 % 100), vI 0] s43 (fun r46 s47 => (r46 = (s47 58 (r17 % 100).toNat) → MXi l G0 G mL_chains 12 sz 1 12 232 [(0, vR 0), (1, vI x1), (2, vI x2), (3, vI x3), (4, vI x4), (7, vR 58), (9, vI (r17 / 100)), (10, vI (r17 % 100))] [vI 0] s47 Q) ∧ (¬ (r46 = (s47 58 (r17 % 100).toNat)) → CLi l G mX7_request [vR 0, vI (r17 % 100), vI 0] s47 (fun r49 s50 => (r49 < 0 → MXi l G0 G mL_chains 12 sz 1 12 232 [(0, vR 0), (1, vI x1), (2, vI x2), (3, vI x3), (4, vI x4), (7, vR 58), (9, vI (r17 / 100)), (10, vI (r17 % 100))] [vI 0] s50 Q) ∧ (¬ (r49 < 0) → ((s50 58 (r17 / 100).toNat) = (s50 58 (r17 % 100).toNat) → MXi l G0 G mL_chains 12 sz 1 12 232 [(0, vR 0), (1, vI x1), (2, vI x2), (3, vI x3), (4, vI x4), (7, vR 58), (9, vI (r17 / 100)), (10, vI (r17 % 100))] [vI 0] s50 Q) ∧ (¬ ((s50 58 (r17 / 100).toNat) = (s50 58 (r17 % 100).toNat)) → MXi l G0 G mL_chains 12 sz 1 12 232 [(0, vR 0), (1, vI x1), (2, vI x2), (3, vI x3), (4, vI x4), (7, vR 58), (9, vI (r17 / 100)), (10, vI (r17 % 100))] [vI 1] s50 Q)))))) ∧ (¬ (r42 = (s43 58 (r17 % 100).toNat)) → MXi l G0 G mL_chains 12 sz 1 12 232 [(0, vR 0), (1, vI x1), (2, vI x2), (3, vI x3), (4, vI x4), (7, vR 58), (9, vI (r17 / 100)), (10, vI (r17 % 100))] [vI 0] s43 Q)))) ∧ (¬ (r31 = (s32 58 (r17 / 100).toNat)) → MXi l G0 G mL_chains 12 sz 1 12 232 [(0, vR 0), (1, vI x1), (2, vI x2), (3, vI x3), (4, vI x4), (7, vR 58), (9, vI (r17 / 100)), (10, vI (r17 % 100))] [vI 0] s32 Q))) ∧ (¬ (0 ≤ r17) → (x4 = (-1005) → (r17 = (-1005) → CLj l G mL_print [vR 0] s18 (fun r55 s56 => ∀ y58 : Int, y58 = (if (lcI r55 x5) = 0 then 1 else 0) → Q y58 s56)) ∧ (¬ (r17 = (-1005)) → Q 0 s18)) ∧ (¬ (x4 = (-1005)) → Q 0 s18))))) :
    MXi l G0 G mL_chains 12 sz 1 12 62 [(0, vR 0), (1, vI x1), (2, vI x2), (3, vI x3), (4, vI x4), (5, vJ x5), (7, vR 58)] [] σ Q := by
  refine r_aload_n 0 dL_chains_62 rfl rfl ?_
  refine r_iload_n 1 dL_chains_63 rfl rfl ?_
  refine r_callV [vI x1] [] dL_chains_64 okX7_chain ivX7_chain seX7_chain lm_L_87 rfl rfl sh_0 rfl ⟨Nat.le_of_ble_eq_true rfl, Nat.le_of_ble_eq_true rfl, Nat.le_of_ble_eq_true rfl, Nat.le_of_ble_eq_true rfl⟩ h ?_
  rintro _ s18 ⟨r17, rfl, h⟩
  refine r_istore dL_chains_67 (by decide) rfl ?_
  refine r_iload 5 dL_chains_69 rfl ?_
  refine r_if_lt (tgt := 79) dL_chains_71 (by decide) (fun (c19 : x4 < 0) => ?_) (fun (c19 : ¬ (x4 < 0)) => ?_)
  · replace h := h.1 c19
    refine r_iload 5 dL_chains_79 rfl ?_
    refine r_sipush dL_chains_81 (by decide) (by decide) ?_
    refine r_icmp_ne (tgt := 109) dL_chains_84 (by decide) (fun (c20 : x4 = (-1005)) => ?_) (fun (c20 : ¬ (x4 = (-1005))) => ?_)
    · replace h := h.1 c20
      refine r_iload 0 dL_chains_87 rfl ?_
      refine r_sipush dL_chains_89 (by decide) (by decide) ?_
      refine r_icmp_ne (tgt := 109) dL_chains_92 (by decide) (fun (c21 : r17 = (-1005)) => ?_) (fun (c21 : ¬ (r17 = (-1005))) => ?_)
      · replace h := h.1 c21
        refine r_aload_n 1 dL_chains_95 rfl rfl ?_
        refine r_callS [vR 0] [] dL_chains_96 okL_print ssL_print lm_L_83 rfl rfl ⟨Nat.le_of_ble_eq_true rfl, Nat.le_of_ble_eq_true rfl, Nat.le_of_ble_eq_true rfl, Nat.le_of_ble_eq_true rfl⟩ h ?_
        rintro _ s23 ⟨r22, rfl, h⟩
        refine r_lload 6 dL_chains_99 rfl ?_
        refine r_lcmp dL_chains_101 ?_
        obtain ⟨y25, ey25⟩ : ∃ z : Int, z = (if (lcI r22 x5) = 0 then 1 else 0) := ⟨_, rfl⟩
        replace h := h y25 ey25
        have hj26 : MXi l G0 G mL_chains 12 sz 1 12 110 [] [vI y25] s23 Q := by
          exact r_zretX hg dL_chains_110 rfl (by rw [ey25]; (repeat' split) <;> decide) ⟨_, rfl, h⟩
        refine r_if_ne (tgt := 109) dL_chains_102 (by decide) (fun (c24 : (lcI r22 x5) = 0) => ?_) (fun (c24 : ¬ ((lcI r22 x5) = 0)) => ?_)
        · refine r_iconst dL_chains_105 (by decide) ?_
          refine r_goto (tgt := 110) dL_chains_106 (by decide) ?_
          refine MWF.sub [] rfl ?_
          have q27 : y25 = 1 := by rw [ey25, if_pos c24]
          rw [q27] at hj26
          exact hj26
        · refine r_iconst dL_chains_109 (by decide) ?_
          refine MWF.sub [] rfl ?_
          have q28 : y25 = 0 := by rw [ey25, if_neg c24]
          rw [q28] at hj26
          exact hj26
      · replace h := h.2 c21
        refine r_iconst dL_chains_109 (by decide) ?_
        exact r_zretX hg dL_chains_110 rfl (by decide) ⟨_, rfl, h⟩
    · replace h := h.2 c20
      refine r_iconst dL_chains_109 (by decide) ?_
      exact r_zretX hg dL_chains_110 rfl (by decide) ⟨_, rfl, h⟩
  · replace h := h.2 c19
    refine r_iload 0 dL_chains_74 rfl ?_
    refine r_if_ge (tgt := 111) dL_chains_76 (by decide) (fun (c29 : 0 ≤ r17) => ?_) (fun (c29 : ¬ (0 ≤ r17)) => ?_)
    · replace h := h.1 c29
      refine r_iload 0 dL_chains_111 rfl ?_
      refine r_bipush dL_chains_113 (by decide) (by decide) ?_
      obtain ⟨b30, h⟩ := h
      refine r_idiv dL_chains_115 b30 (by decide) ?_
      refine r_istore dL_chains_116 (by decide) rfl ?_
      refine r_iload 1 dL_chains_118 rfl ?_
      refine r_bipush dL_chains_120 (by decide) (by decide) ?_
      refine r_irem dL_chains_122 b30 (by decide) ?_
      refine r_istore dL_chains_123 (by decide) rfl ?_
      refine r_aload_n 3 dL_chains_125 rfl rfl ?_
      refine r_iload_n 4 dL_chains_126 rfl rfl ?_
      refine r_iconst dL_chains_127 (by decide) ?_
      refine r_callV [vI x1, vI 0] [] dL_chains_128 okX7_request ivX7_request seX7_request lm_L_36 rfl rfl sh_0 rfl ⟨Nat.le_of_ble_eq_true rfl, Nat.le_of_ble_eq_true rfl, Nat.le_of_ble_eq_true rfl, Nat.le_of_ble_eq_true rfl⟩ h ?_
      rintro _ s32 ⟨r31, rfl, h⟩
      refine r_aload 9 dL_chains_131 rfl ?_
      refine r_iload 1 dL_chains_133 rfl ?_
      obtain ⟨b33, h⟩ := h
      refine r_xald hx dL_chains_135 (n := 12) rfl b33.1 b33.2 ?_
      refine r_icmp_ne (tgt := 231) dL_chains_136 (by decide) (fun (c34 : r31 = (s32 58 (r17 / 100).toNat)) => ?_) (fun (c34 : ¬ (r31 = (s32 58 (r17 / 100).toNat))) => ?_)
      · replace h := h.1 c34
        refine r_iload 0 dL_chains_139 rfl ?_
        refine r_bipush dL_chains_141 (by decide) (by decide) ?_
        refine r_icmp_ne (tgt := 174) dL_chains_143 (by decide) (fun (c35 : (r17 % 100) = 99) => ?_) (fun (c35 : ¬ ((r17 % 100) = 99)) => ?_)
        · replace h := h.1 c35
          refine r_aload_n 3 dL_chains_146 rfl rfl ?_
          refine r_iload 1 dL_chains_147 rfl ?_
          refine r_iconst dL_chains_149 (by decide) ?_
          refine r_callV [vI (r17 / 100), vI 0] [] dL_chains_150 okX7_request ivX7_request seX7_request lm_L_36 rfl rfl sh_0 rfl ⟨Nat.le_of_ble_eq_true rfl, Nat.le_of_ble_eq_true rfl, Nat.le_of_ble_eq_true rfl, Nat.le_of_ble_eq_true rfl⟩ h ?_
          rintro _ s37 ⟨r36, rfl, h⟩
          refine r_aload 9 dL_chains_153 rfl ?_
          refine r_iload 1 dL_chains_155 rfl ?_
          refine r_xald hx dL_chains_157 (n := 12) rfl b33.1 b33.2 ?_
          refine r_icmp_eq (tgt := 231) dL_chains_158 (by decide) (fun (c38 : r36 = (s37 58 (r17 / 100).toNat)) => ?_) (fun (c38 : ¬ (r36 = (s37 58 (r17 / 100).toNat))) => ?_)
          · replace h := h.1 c38
            refine r_iconst dL_chains_231 (by decide) ?_
            refine MWF.sub [3, 4, 5, 6, 7, 9, 1, 0] rfl ?_
            exact h
          · replace h := h.2 c38
            refine r_aload_n 3 dL_chains_161 rfl rfl ?_
            refine r_iload 1 dL_chains_162 rfl ?_
            refine r_iconst dL_chains_164 (by decide) ?_
            refine r_callV [vI (r17 / 100), vI 0] [] dL_chains_165 okX7_request ivX7_request seX7_request lm_L_36 rfl rfl sh_0 rfl ⟨Nat.le_of_ble_eq_true rfl, Nat.le_of_ble_eq_true rfl, Nat.le_of_ble_eq_true rfl, Nat.le_of_ble_eq_true rfl⟩ h ?_
            rintro _ s40 ⟨r39, rfl, h⟩
            refine r_if_lt (tgt := 231) dL_chains_168 (by decide) (fun (c41 : r39 < 0) => ?_) (fun (c41 : ¬ (r39 < 0)) => ?_)
            · replace h := h.1 c41
              refine r_iconst dL_chains_231 (by decide) ?_
              refine MWF.sub [3, 4, 5, 6, 7, 9, 1, 0] rfl ?_
              exact h
            · replace h := h.2 c41
              refine r_goto (tgt := 227) dL_chains_171 (by decide) ?_
              refine r_iconst dL_chains_227 (by decide) ?_
              refine r_goto (tgt := 232) dL_chains_228 (by decide) ?_
              refine MWF.sub [3, 4, 5, 6, 7, 9, 1, 0] rfl ?_
              exact h
        · replace h := h.2 c35
          refine r_aload_n 3 dL_chains_174 rfl rfl ?_
          refine r_iload 1 dL_chains_175 rfl ?_
          refine r_iconst dL_chains_177 (by decide) ?_
          refine r_callV [vI (r17 / 100), vI 0] [] dL_chains_178 okX7_request ivX7_request seX7_request lm_L_36 rfl rfl sh_0 rfl ⟨Nat.le_of_ble_eq_true rfl, Nat.le_of_ble_eq_true rfl, Nat.le_of_ble_eq_true rfl, Nat.le_of_ble_eq_true rfl⟩ h ?_
          rintro _ s43 ⟨r42, rfl, h⟩
          refine r_aload 9 dL_chains_181 rfl ?_
          refine r_iload 0 dL_chains_183 rfl ?_
          obtain ⟨b44, h⟩ := h
          refine r_xald hx dL_chains_185 (n := 12) rfl b44.1 b44.2 ?_
          refine r_icmp_ne (tgt := 231) dL_chains_186 (by decide) (fun (c45 : r42 = (s43 58 (r17 % 100).toNat)) => ?_) (fun (c45 : ¬ (r42 = (s43 58 (r17 % 100).toNat))) => ?_)
          · replace h := h.1 c45
            refine r_aload_n 3 dL_chains_189 rfl rfl ?_
            refine r_iload 0 dL_chains_190 rfl ?_
            refine r_iconst dL_chains_192 (by decide) ?_
            refine r_callV [vI (r17 % 100), vI 0] [] dL_chains_193 okX7_request ivX7_request seX7_request lm_L_36 rfl rfl sh_0 rfl ⟨Nat.le_of_ble_eq_true rfl, Nat.le_of_ble_eq_true rfl, Nat.le_of_ble_eq_true rfl, Nat.le_of_ble_eq_true rfl⟩ h ?_
            rintro _ s47 ⟨r46, rfl, h⟩
            refine r_aload 9 dL_chains_196 rfl ?_
            refine r_iload 0 dL_chains_198 rfl ?_
            refine r_xald hx dL_chains_200 (n := 12) rfl b44.1 b44.2 ?_
            refine r_icmp_eq (tgt := 231) dL_chains_201 (by decide) (fun (c48 : r46 = (s47 58 (r17 % 100).toNat)) => ?_) (fun (c48 : ¬ (r46 = (s47 58 (r17 % 100).toNat))) => ?_)
            · replace h := h.1 c48
              refine r_iconst dL_chains_231 (by decide) ?_
              refine MWF.sub [3, 4, 5, 6, 7, 9, 1, 0] rfl ?_
              exact h
            · replace h := h.2 c48
              refine r_aload_n 3 dL_chains_204 rfl rfl ?_
              refine r_iload 0 dL_chains_205 rfl ?_
              refine r_iconst dL_chains_207 (by decide) ?_
              refine r_callV [vI (r17 % 100), vI 0] [] dL_chains_208 okX7_request ivX7_request seX7_request lm_L_36 rfl rfl sh_0 rfl ⟨Nat.le_of_ble_eq_true rfl, Nat.le_of_ble_eq_true rfl, Nat.le_of_ble_eq_true rfl, Nat.le_of_ble_eq_true rfl⟩ h ?_
              rintro _ s50 ⟨r49, rfl, h⟩
              refine r_if_lt (tgt := 231) dL_chains_211 (by decide) (fun (c51 : r49 < 0) => ?_) (fun (c51 : ¬ (r49 < 0)) => ?_)
              · replace h := h.1 c51
                refine r_iconst dL_chains_231 (by decide) ?_
                refine MWF.sub [3, 4, 5, 6, 7, 9, 1, 0] rfl ?_
                exact h
              · replace h := h.2 c51
                refine r_aload 9 dL_chains_214 rfl ?_
                refine r_iload 1 dL_chains_216 rfl ?_
                refine r_xald hx dL_chains_218 (n := 12) rfl b33.1 b33.2 ?_
                refine r_aload 9 dL_chains_219 rfl ?_
                refine r_iload 0 dL_chains_221 rfl ?_
                refine r_xald hx dL_chains_223 (n := 12) rfl b44.1 b44.2 ?_
                refine r_icmp_eq (tgt := 231) dL_chains_224 (by decide) (fun (c52 : (s50 58 (r17 / 100).toNat) = (s50 58 (r17 % 100).toNat)) => ?_) (fun (c52 : ¬ ((s50 58 (r17 / 100).toNat) = (s50 58 (r17 % 100).toNat))) => ?_)
                · replace h := h.1 c52
                  refine r_iconst dL_chains_231 (by decide) ?_
                  refine MWF.sub [3, 4, 5, 6, 7, 9, 1, 0] rfl ?_
                  exact h
                · replace h := h.2 c52
                  refine r_iconst dL_chains_227 (by decide) ?_
                  refine r_goto (tgt := 232) dL_chains_228 (by decide) ?_
                  refine MWF.sub [3, 4, 5, 6, 7, 9, 1, 0] rfl ?_
                  exact h
          · replace h := h.2 c45
            refine r_iconst dL_chains_231 (by decide) ?_
            refine MWF.sub [3, 4, 5, 6, 7, 9, 1, 0] rfl ?_
            exact h
      · replace h := h.2 c34
        refine r_iconst dL_chains_231 (by decide) ?_
        refine MWF.sub [3, 4, 5, 6, 7, 9, 1, 0] rfl ?_
        exact h
    · replace h := h.2 c29
      refine r_iload 5 dL_chains_79 rfl ?_
      refine r_sipush dL_chains_81 (by decide) (by decide) ?_
      refine r_icmp_ne (tgt := 109) dL_chains_84 (by decide) (fun (c53 : x4 = (-1005)) => ?_) (fun (c53 : ¬ (x4 = (-1005))) => ?_)
      · replace h := h.1 c53
        refine r_iload 0 dL_chains_87 rfl ?_
        refine r_sipush dL_chains_89 (by decide) (by decide) ?_
        refine r_icmp_ne (tgt := 109) dL_chains_92 (by decide) (fun (c54 : r17 = (-1005)) => ?_) (fun (c54 : ¬ (r17 = (-1005))) => ?_)
        · replace h := h.1 c54
          refine r_aload_n 1 dL_chains_95 rfl rfl ?_
          refine r_callS [vR 0] [] dL_chains_96 okL_print ssL_print lm_L_83 rfl rfl ⟨Nat.le_of_ble_eq_true rfl, Nat.le_of_ble_eq_true rfl, Nat.le_of_ble_eq_true rfl, Nat.le_of_ble_eq_true rfl⟩ h ?_
          rintro _ s56 ⟨r55, rfl, h⟩
          refine r_lload 6 dL_chains_99 rfl ?_
          refine r_lcmp dL_chains_101 ?_
          obtain ⟨y58, ey58⟩ : ∃ z : Int, z = (if (lcI r55 x5) = 0 then 1 else 0) := ⟨_, rfl⟩
          replace h := h y58 ey58
          have hj59 : MXi l G0 G mL_chains 12 sz 1 12 110 [] [vI y58] s56 Q := by
            exact r_zretX hg dL_chains_110 rfl (by rw [ey58]; (repeat' split) <;> decide) ⟨_, rfl, h⟩
          refine r_if_ne (tgt := 109) dL_chains_102 (by decide) (fun (c57 : (lcI r55 x5) = 0) => ?_) (fun (c57 : ¬ ((lcI r55 x5) = 0)) => ?_)
          · refine r_iconst dL_chains_105 (by decide) ?_
            refine r_goto (tgt := 110) dL_chains_106 (by decide) ?_
            refine MWF.sub [] rfl ?_
            have q60 : y58 = 1 := by rw [ey58, if_pos c57]
            rw [q60] at hj59
            exact hj59
          · refine r_iconst dL_chains_109 (by decide) ?_
            refine MWF.sub [] rfl ?_
            have q61 : y58 = 0 := by rw [ey58, if_neg c57]
            rw [q61] at hj59
            exact hj59
        · replace h := h.2 c54
          refine r_iconst dL_chains_109 (by decide) ?_
          exact r_zretX hg dL_chains_110 rfl (by decide) ⟨_, rfl, h⟩
      · replace h := h.2 c53
        refine r_iconst dL_chains_109 (by decide) ?_
        exact r_zretX hg dL_chains_110 rfl (by decide) ⟨_, rfl, h⟩
set_option maxRecDepth 100000 in
set_option maxHeartbeats 4000000 in
theorem vcL_chains_232 (l : Launch) (G0 G : GT) (hg : gR G0 G) (hx : G.2.2.2.2 = 58) (sz : Nat) (σ : Sto) (Q : Int → Sto → Prop) (x1 : Int) (x2 : Int) (x3 : Int) (x4 : Int) (x9 : Int) (x10 : Int) (z0 : Int)
    (h : MXi l G0 G mL_chains 12 sz 1 12 237 [(0, vR 0), (1, vI x1), (2, vI x2), (3, vI x3), (4, vI x4), (7, vR 58), (9, vI x9), (10, vI x10), (11, vI z0), (12, vI 0)] [] σ Q) :
    MXi l G0 G mL_chains 12 sz 1 12 232 [(0, vR 0), (1, vI x1), (2, vI x2), (3, vI x3), (4, vI x4), (7, vR 58), (9, vI x9), (10, vI x10)] [vI z0] σ Q := by
  refine r_istore dL_chains_232 (by decide) rfl ?_
  refine r_iconst dL_chains_234 (by decide) ?_
  refine r_istore dL_chains_235 (by decide) rfl ?_
  refine MWF.sub [2, 3, 4, 5, 6, 7, 8, 9, 1, 0] rfl ?_
  exact h
set_option maxRecDepth 100000 in
set_option maxHeartbeats 4000000 in
theorem vcL_chains_237 (l : Launch) (G0 G : GT) (hg : gR G0 G) (hx : G.2.2.2.2 = 58) (sz : Nat) (σ : Sto) (Q : Int → Sto → Prop) (x1 : Int) (x2 : Int) (x3 : Int) (x4 : Int) (x9 : Int) (x10 : Int) (x11 : Int) (x12 : Int)
    (h : CLi l G mX7_count [vR 0, vI 1] σ (fun r62 s63 => (r62 ≤ x12 → MXi l G0 G mL_chains 12 sz 1 12 290 [(0, vR 0), (2, vI x2), (3, vI x3), (4, vI x4), (11, vI x11)] [] s63 Q) ∧ (¬ (r62 ≤ x12) → (x12 = x1 → (-2147483648 ≤ x12 + 1 ∧ x12 + 1 ≤ 2147483647) ∧ MXi l G0 G mL_chains 12 sz 1 12 237 [(0, vR 0), (1, vI x1), (2, vI x2), (3, vI x3), (4, vI x4), (7, vR 58), (9, vI x9), (10, vI x10), (11, vI x11), (12, vI (x12 + 1))] [] s63 Q) ∧ (¬ (x12 = x1) → (x12 = x9 → (-2147483648 ≤ x12 + 1 ∧ x12 + 1 ≤ 2147483647) ∧ MXi l G0 G mL_chains 12 sz 1 12 237 [(0, vR 0), (1, vI x1), (2, vI x2), (3, vI x3), (4, vI x4), (7, vR 58), (9, vI x9), (10, vI x10), (11, vI x11), (12, vI (x12 + 1))] [] s63 Q) ∧ (¬ (x12 = x9) → (x12 = x10 → (-2147483648 ≤ x12 + 1 ∧ x12 + 1 ≤ 2147483647) ∧ MXi l G0 G mL_chains 12 sz 1 12 237 [(0, vR 0), (1, vI x1), (2, vI x2), (3, vI x3), (4, vI x4), (7, vR 58), (9, vI x9), (10, vI x10), (11, vI x11), (12, vI (x12 + 1))] [] s63 Q) ∧ (¬ (x12 = x10) → CLi l G mX7_request [vR 0, vI x12, vI 0] s63 (fun r71 s72 => (0 ≤ x12 ∧ x12 < 12) ∧ (r71 = (s72 58 x12.toNat) → (-2147483648 ≤ x12 + 1 ∧ x12 + 1 ≤ 2147483647) ∧ MXi l G0 G mL_chains 12 sz 1 12 237 [(0, vR 0), (1, vI x1), (2, vI x2), (3, vI x3), (4, vI x4), (7, vR 58), (9, vI x9), (10, vI x10), (11, vI x11), (12, vI (x12 + 1))] [] s72 Q) ∧ (¬ (r71 = (s72 58 x12.toNat)) → Q 0 s72)))))))) :
    MXi l G0 G mL_chains 12 sz 1 12 237 [(0, vR 0), (1, vI x1), (2, vI x2), (3, vI x3), (4, vI x4), (7, vR 58), (9, vI x9), (10, vI x10), (11, vI x11), (12, vI x12)] [] σ Q := by
  refine r_iload 9 dL_chains_237 rfl ?_
  refine r_aload_n 0 dL_chains_239 rfl rfl ?_
  refine r_iconst dL_chains_240 (by decide) ?_
  refine r_callV [vI 1] [vI x12] dL_chains_241 okX7_count ivX7_count seX7_count lm_L_25 rfl rfl sh_0 rfl ⟨Nat.le_of_ble_eq_true rfl, Nat.le_of_ble_eq_true rfl, Nat.le_of_ble_eq_true rfl, Nat.le_of_ble_eq_true rfl⟩ h ?_
  rintro _ s63 ⟨r62, rfl, h⟩
  refine r_icmp_ge (tgt := 290) dL_chains_244 (by decide) (fun (c64 : r62 ≤ x12) => ?_) (fun (c64 : ¬ (r62 ≤ x12)) => ?_)
  · replace h := h.1 c64
    refine MWF.sub [0, 2, 3, 4, 8] rfl ?_
    exact h
  · replace h := h.2 c64
    refine r_iload 9 dL_chains_247 rfl ?_
    refine r_iload_n 1 dL_chains_249 rfl rfl ?_
    refine r_icmp_eq (tgt := 284) dL_chains_250 (by decide) (fun (c65 : x12 = x1) => ?_) (fun (c65 : ¬ (x12 = x1)) => ?_)
    · replace h := h.1 c65
      obtain ⟨b66, h⟩ := h
      refine r_iinc 9 dL_chains_284 rfl (by decide) b66 rfl ?_
      refine r_goto (tgt := 237) dL_chains_287 (by decide) ?_
      refine MWF.sub [1, 2, 3, 4, 5, 6, 7, 8, 9, 0] rfl ?_
      exact h
    · replace h := h.2 c65
      refine r_iload 9 dL_chains_253 rfl ?_
      refine r_iload 6 dL_chains_255 rfl ?_
      refine r_icmp_eq (tgt := 284) dL_chains_257 (by decide) (fun (c67 : x12 = x9) => ?_) (fun (c67 : ¬ (x12 = x9)) => ?_)
      · replace h := h.1 c67
        obtain ⟨b68, h⟩ := h
        refine r_iinc 9 dL_chains_284 rfl (by decide) b68 rfl ?_
        refine r_goto (tgt := 237) dL_chains_287 (by decide) ?_
        refine MWF.sub [1, 2, 3, 4, 5, 6, 7, 8, 9, 0] rfl ?_
        exact h
      · replace h := h.2 c67
        refine r_iload 9 dL_chains_260 rfl ?_
        refine r_iload 7 dL_chains_262 rfl ?_
        refine r_icmp_eq (tgt := 284) dL_chains_264 (by decide) (fun (c69 : x12 = x10) => ?_) (fun (c69 : ¬ (x12 = x10)) => ?_)
        · replace h := h.1 c69
          obtain ⟨b70, h⟩ := h
          refine r_iinc 9 dL_chains_284 rfl (by decide) b70 rfl ?_
          refine r_goto (tgt := 237) dL_chains_287 (by decide) ?_
          refine MWF.sub [1, 2, 3, 4, 5, 6, 7, 8, 9, 0] rfl ?_
          exact h
        · replace h := h.2 c69
          refine r_aload_n 0 dL_chains_267 rfl rfl ?_
          refine r_iload 9 dL_chains_268 rfl ?_
          refine r_iconst dL_chains_270 (by decide) ?_
          refine r_callV [vI x12, vI 0] [] dL_chains_271 okX7_request ivX7_request seX7_request lm_L_36 rfl rfl sh_0 rfl ⟨Nat.le_of_ble_eq_true rfl, Nat.le_of_ble_eq_true rfl, Nat.le_of_ble_eq_true rfl, Nat.le_of_ble_eq_true rfl⟩ h ?_
          rintro _ s72 ⟨r71, rfl, h⟩
          refine r_aload 5 dL_chains_274 rfl ?_
          refine r_iload 9 dL_chains_276 rfl ?_
          obtain ⟨b73, h⟩ := h
          refine r_xald hx dL_chains_278 (n := 12) rfl b73.1 b73.2 ?_
          refine r_icmp_eq (tgt := 284) dL_chains_279 (by decide) (fun (c74 : r71 = (s72 58 x12.toNat)) => ?_) (fun (c74 : ¬ (r71 = (s72 58 x12.toNat))) => ?_)
          · replace h := h.1 c74
            obtain ⟨b75, h⟩ := h
            refine r_iinc 9 dL_chains_284 rfl (by decide) b75 rfl ?_
            refine r_goto (tgt := 237) dL_chains_287 (by decide) ?_
            refine MWF.sub [1, 2, 3, 4, 5, 6, 7, 8, 9, 0] rfl ?_
            exact h
          · replace h := h.2 c74
            refine r_iconst dL_chains_282 (by decide) ?_
            exact r_zretX hg dL_chains_283 rfl (by decide) ⟨_, rfl, h⟩
set_option maxRecDepth 100000 in
set_option maxHeartbeats 4000000 in
theorem vcL_chains_290 (l : Launch) (G0 G : GT) (hg : gR G0 G) (hx : G.2.2.2.2 = 58) (sz : Nat) (σ : Sto) (Q : Int → Sto → Prop) (x2 : Int) (x3 : Int) (x4 : Int) (x11 : Int)
    (h : (x11 = 0 → Q 0 σ) ∧ (¬ (x11 = 0) → CLi l G mX7_count [vR 0, vI 3] σ (fun r77 s78 => (-2147483648 ≤ x2 + x4 ∧ x2 + x4 ≤ 2147483647) ∧ (-2147483648 ≤ (x2 + x4) - 10000 ∧ (x2 + x4) - 10000 ≤ 2147483647) ∧ (r77 = ((x2 + x4) - 10000) → CLi l G mX7_count [vR 0, vI 2] s78 (fun r82 s83 => (-2147483648 ≤ x3 - 1 ∧ x3 - 1 ≤ 2147483647) ∧ ∀ y86 : Int, y86 = (if r82 = (x3 - 1) then 1 else 0) → Q y86 s83)) ∧ (¬ (r77 = ((x2 + x4) - 10000)) → Q 0 s78)))) :
    MXi l G0 G mL_chains 12 sz 1 12 290 [(0, vR 0), (2, vI x2), (3, vI x3), (4, vI x4), (11, vI x11)] [] σ Q := by
  refine r_iload 4 dL_chains_290 rfl ?_
  refine r_if_eq (tgt := 326) dL_chains_292 (by decide) (fun (c76 : x11 = 0) => ?_) (fun (c76 : ¬ (x11 = 0)) => ?_)
  · replace h := h.1 c76
    refine r_iconst dL_chains_326 (by decide) ?_
    exact r_zretX hg dL_chains_327 rfl (by decide) ⟨_, rfl, h⟩
  · replace h := h.2 c76
    refine r_aload_n 0 dL_chains_295 rfl rfl ?_
    refine r_iconst dL_chains_296 (by decide) ?_
    refine r_callV [vI 3] [] dL_chains_297 okX7_count ivX7_count seX7_count lm_L_25 rfl rfl sh_0 rfl ⟨Nat.le_of_ble_eq_true rfl, Nat.le_of_ble_eq_true rfl, Nat.le_of_ble_eq_true rfl, Nat.le_of_ble_eq_true rfl⟩ h ?_
    rintro _ s78 ⟨r77, rfl, h⟩
    refine r_iload_n 1 dL_chains_300 rfl rfl ?_
    refine r_iload 3 dL_chains_301 rfl ?_
    obtain ⟨b79, h⟩ := h
    refine r_iadd dL_chains_303 b79 ?_
    refine r_sipush dL_chains_304 (by decide) (by decide) ?_
    obtain ⟨b80, h⟩ := h
    refine r_isub dL_chains_307 b80 ?_
    refine r_icmp_ne (tgt := 326) dL_chains_308 (by decide) (fun (c81 : r77 = ((x2 + x4) - 10000)) => ?_) (fun (c81 : ¬ (r77 = ((x2 + x4) - 10000))) => ?_)
    · replace h := h.1 c81
      refine r_aload_n 0 dL_chains_311 rfl rfl ?_
      refine r_iconst dL_chains_312 (by decide) ?_
      refine r_callV [vI 2] [] dL_chains_313 okX7_count ivX7_count seX7_count lm_L_25 rfl rfl sh_0 rfl ⟨Nat.le_of_ble_eq_true rfl, Nat.le_of_ble_eq_true rfl, Nat.le_of_ble_eq_true rfl, Nat.le_of_ble_eq_true rfl⟩ h ?_
      rintro _ s83 ⟨r82, rfl, h⟩
      refine r_iload_n 2 dL_chains_316 rfl rfl ?_
      refine r_iconst dL_chains_317 (by decide) ?_
      obtain ⟨b84, h⟩ := h
      refine r_isub dL_chains_318 b84 ?_
      obtain ⟨y86, ey86⟩ : ∃ z : Int, z = (if r82 = (x3 - 1) then 1 else 0) := ⟨_, rfl⟩
      replace h := h y86 ey86
      have hj87 : MXi l G0 G mL_chains 12 sz 1 12 327 [] [vI y86] s83 Q := by
        exact r_zretX hg dL_chains_327 rfl (by rw [ey86]; (repeat' split) <;> decide) ⟨_, rfl, h⟩
      refine r_icmp_ne (tgt := 326) dL_chains_319 (by decide) (fun (c85 : r82 = (x3 - 1)) => ?_) (fun (c85 : ¬ (r82 = (x3 - 1))) => ?_)
      · refine r_iconst dL_chains_322 (by decide) ?_
        refine r_goto (tgt := 327) dL_chains_323 (by decide) ?_
        refine MWF.sub [] rfl ?_
        have q88 : y86 = 1 := by rw [ey86, if_pos c85]
        rw [q88] at hj87
        exact hj87
      · refine r_iconst dL_chains_326 (by decide) ?_
        refine MWF.sub [] rfl ?_
        have q89 : y86 = 0 := by rw [ey86, if_neg c85]
        rw [q89] at hj87
        exact hj87
    · replace h := h.2 c81
      refine r_iconst dL_chains_326 (by decide) ?_
      exact r_zretX hg dL_chains_327 rfl (by decide) ⟨_, rfl, h⟩
set_option maxRecDepth 100000 in
set_option maxHeartbeats 4000000 in
theorem clL_errors (l : Launch) (G : GT) (σ : Sto) (Q : Int → Sto → Prop) 
    (h : CLi l G mX7_count [vR 0, vI 0] σ (fun r1 s2 => CLi l G mX7_count [vR 0, vI 1] s2 (fun r3 s4 => CLi l G mX7_addVehicle [vR 0, vI 100, vI 0, vI 1, vI 0, vI 1] s4 (fun r5 s6 => (r5 = (-1002) → CLi l G mX7_addVehicle [vR 0, vI 0, vI 0, vI 9, vI 0, vI 1] s6 (fun r8 s9 => (r8 = (-1002) → CLi l G mX7_addVehicle [vR 0, vI 0, vI 0, vI 1, vI 5, vI 4] s9 (fun r11 s12 => (r11 = (-1002) → CLi l G mX7_addRequest [vR 0, vI 0, vI (-1), vI 0, vI 0, vI 1, vI 1] s12 (fun r14 s15 => (r14 = (-1002) → CLi l G mX7_addRequest [vR 0, vI 0, vI 0, vI 0, vI 0, vI 0, vI 1] s15 (fun r17 s18 => (r17 = (-1002) → CLi l G mX7_addRequest [vR 0, vI 0, vI 0, vI 0, vI 0, vI 1, vI 1001] s18 (fun r20 s21 => (r20 = (-1002) → CLi l G mX7_setWindow [vR 0, vI r3, vI 0, vI 5, vI 4] s21 (fun r23 s24 => (r23 = (-1001) → CLi l G mX7_setWindow [vR 0, vI 0, vI 1, vI 5, vI 4] s24 (fun r26 s27 => (r26 = (-1002) → CLi l G mX7_setLimit [vR 0, vI r3, vI (-1)] s27 (fun r29 s30 => (r29 = (-1001) → CLi l G mX7_setLimit [vR 0, vI 0, vI 1001] s30 (fun r32 s33 => (r32 = (-1002) → CLi l G mX7_setLoad [vR 0, vI (-1), vI 0] s33 (fun r35 s36 => (r35 = (-1001) → CLi l G mX7_setLoad [vR 0, vI 0, vI 9] s36 (fun r38 s39 => (r38 = (-1002) → CLi l G mX7_setService [vR 0, vI 11] s39 (fun r41 s42 => (r41 = (-1002) → CLi l G mX7_count [vR 0, vI 6] s42 (fun r44 s45 => (r44 = (-1002) → MWi l G mL_errors 209 [(0, vR 0), (1, vI r1), (2, vI r3), (3, vI (-1001)), (4, vI (-1002))] [vI 1] s45 Q) ∧ (¬ (r44 = (-1002)) → MWi l G mL_errors 209 [(0, vR 0), (1, vI r1), (2, vI r3), (3, vI (-1001)), (4, vI (-1002))] [vI 0] s45 Q))) ∧ (¬ (r41 = (-1002)) → MWi l G mL_errors 209 [(0, vR 0), (1, vI r1), (2, vI r3), (3, vI (-1001)), (4, vI (-1002))] [vI 0] s42 Q))) ∧ (¬ (r38 = (-1002)) → MWi l G mL_errors 209 [(0, vR 0), (1, vI r1), (2, vI r3), (3, vI (-1001)), (4, vI (-1002))] [vI 0] s39 Q))) ∧ (¬ (r35 = (-1001)) → MWi l G mL_errors 209 [(0, vR 0), (1, vI r1), (2, vI r3), (3, vI (-1001)), (4, vI (-1002))] [vI 0] s36 Q))) ∧ (¬ (r32 = (-1002)) → MWi l G mL_errors 209 [(0, vR 0), (1, vI r1), (2, vI r3), (3, vI (-1001)), (4, vI (-1002))] [vI 0] s33 Q))) ∧ (¬ (r29 = (-1001)) → MWi l G mL_errors 209 [(0, vR 0), (1, vI r1), (2, vI r3), (3, vI (-1001)), (4, vI (-1002))] [vI 0] s30 Q))) ∧ (¬ (r26 = (-1002)) → MWi l G mL_errors 209 [(0, vR 0), (1, vI r1), (2, vI r3), (3, vI (-1001)), (4, vI (-1002))] [vI 0] s27 Q))) ∧ (¬ (r23 = (-1001)) → MWi l G mL_errors 209 [(0, vR 0), (1, vI r1), (2, vI r3), (3, vI (-1001)), (4, vI (-1002))] [vI 0] s24 Q))) ∧ (¬ (r20 = (-1002)) → MWi l G mL_errors 209 [(0, vR 0), (1, vI r1), (2, vI r3), (3, vI (-1001)), (4, vI (-1002))] [vI 0] s21 Q))) ∧ (¬ (r17 = (-1002)) → MWi l G mL_errors 209 [(0, vR 0), (1, vI r1), (2, vI r3), (3, vI (-1001)), (4, vI (-1002))] [vI 0] s18 Q))) ∧ (¬ (r14 = (-1002)) → MWi l G mL_errors 209 [(0, vR 0), (1, vI r1), (2, vI r3), (3, vI (-1001)), (4, vI (-1002))] [vI 0] s15 Q))) ∧ (¬ (r11 = (-1002)) → MWi l G mL_errors 209 [(0, vR 0), (1, vI r1), (2, vI r3), (3, vI (-1001)), (4, vI (-1002))] [vI 0] s12 Q))) ∧ (¬ (r8 = (-1002)) → MWi l G mL_errors 209 [(0, vR 0), (1, vI r1), (2, vI r3), (3, vI (-1001)), (4, vI (-1002))] [vI 0] s9 Q))) ∧ (¬ (r5 = (-1002)) → MWi l G mL_errors 209 [(0, vR 0), (1, vI r1), (2, vI r3), (3, vI (-1001)), (4, vI (-1002))] [vI 0] s6 Q))))) :
    CLi l G mL_errors [vR 0] σ Q := by
  show MWi l G mL_errors 0 [(0, vR 0)] [] σ Q
  refine r_aload_n 0 dL_errors_0 rfl rfl ?_
  refine r_iconst dL_errors_1 (by decide) ?_
  refine r_callV [vI 0] [] dL_errors_2 okX7_count ivX7_count seX7_count lm_L_25 rfl rfl sh_0 rfl ⟨Nat.le_of_ble_eq_true rfl, Nat.le_of_ble_eq_true rfl, Nat.le_of_ble_eq_true rfl, Nat.le_of_ble_eq_true rfl⟩ h ?_
  rintro _ s2 ⟨r1, rfl, h⟩
  refine r_istore_n dL_errors_5 rfl (by decide) rfl ?_
  refine r_aload_n 1 dL_errors_6 rfl rfl ?_
  refine r_iconst dL_errors_7 (by decide) ?_
  refine r_callV [vI 1] [] dL_errors_8 okX7_count ivX7_count seX7_count lm_L_25 rfl rfl sh_0 rfl ⟨Nat.le_of_ble_eq_true rfl, Nat.le_of_ble_eq_true rfl, Nat.le_of_ble_eq_true rfl, Nat.le_of_ble_eq_true rfl⟩ h ?_
  rintro _ s4 ⟨r3, rfl, h⟩
  refine r_istore_n dL_errors_11 rfl (by decide) rfl ?_
  refine r_sipush dL_errors_12 (by decide) (by decide) ?_
  refine r_istore_n dL_errors_15 rfl (by decide) rfl ?_
  refine r_sipush dL_errors_16 (by decide) (by decide) ?_
  refine r_istore dL_errors_19 (by decide) rfl ?_
  refine r_aload_n 4 dL_errors_21 rfl rfl ?_
  refine r_bipush dL_errors_22 (by decide) (by decide) ?_
  refine r_iconst dL_errors_24 (by decide) ?_
  refine r_iconst dL_errors_25 (by decide) ?_
  refine r_iconst dL_errors_26 (by decide) ?_
  refine r_iconst dL_errors_27 (by decide) ?_
  refine r_callV [vI 100, vI 0, vI 1, vI 0, vI 1] [] dL_errors_28 okX7_addVehicle ivX7_addVehicle seX7_addVehicle lm_L_90 rfl rfl sh_0 rfl ⟨Nat.le_of_ble_eq_true rfl, Nat.le_of_ble_eq_true rfl, Nat.le_of_ble_eq_true rfl, Nat.le_of_ble_eq_true rfl⟩ h ?_
  rintro _ s6 ⟨r5, rfl, h⟩
  refine r_iload 0 dL_errors_31 rfl ?_
  refine r_icmp_ne (tgt := 208) dL_errors_33 (by decide) (fun (c7 : r5 = (-1002)) => ?_) (fun (c7 : ¬ (r5 = (-1002))) => ?_)
  · replace h := h.1 c7
    refine r_aload_n 4 dL_errors_36 rfl rfl ?_
    refine r_iconst dL_errors_37 (by decide) ?_
    refine r_iconst dL_errors_38 (by decide) ?_
    refine r_bipush dL_errors_39 (by decide) (by decide) ?_
    refine r_iconst dL_errors_41 (by decide) ?_
    refine r_iconst dL_errors_42 (by decide) ?_
    refine r_callV [vI 0, vI 0, vI 9, vI 0, vI 1] [] dL_errors_43 okX7_addVehicle ivX7_addVehicle seX7_addVehicle lm_L_90 rfl rfl sh_0 rfl ⟨Nat.le_of_ble_eq_true rfl, Nat.le_of_ble_eq_true rfl, Nat.le_of_ble_eq_true rfl, Nat.le_of_ble_eq_true rfl⟩ h ?_
    rintro _ s9 ⟨r8, rfl, h⟩
    refine r_iload 0 dL_errors_46 rfl ?_
    refine r_icmp_ne (tgt := 208) dL_errors_48 (by decide) (fun (c10 : r8 = (-1002)) => ?_) (fun (c10 : ¬ (r8 = (-1002))) => ?_)
    · replace h := h.1 c10
      refine r_aload_n 4 dL_errors_51 rfl rfl ?_
      refine r_iconst dL_errors_52 (by decide) ?_
      refine r_iconst dL_errors_53 (by decide) ?_
      refine r_iconst dL_errors_54 (by decide) ?_
      refine r_iconst dL_errors_55 (by decide) ?_
      refine r_iconst dL_errors_56 (by decide) ?_
      refine r_callV [vI 0, vI 0, vI 1, vI 5, vI 4] [] dL_errors_57 okX7_addVehicle ivX7_addVehicle seX7_addVehicle lm_L_90 rfl rfl sh_0 rfl ⟨Nat.le_of_ble_eq_true rfl, Nat.le_of_ble_eq_true rfl, Nat.le_of_ble_eq_true rfl, Nat.le_of_ble_eq_true rfl⟩ h ?_
      rintro _ s12 ⟨r11, rfl, h⟩
      refine r_iload 0 dL_errors_60 rfl ?_
      refine r_icmp_ne (tgt := 208) dL_errors_62 (by decide) (fun (c13 : r11 = (-1002)) => ?_) (fun (c13 : ¬ (r11 = (-1002))) => ?_)
      · replace h := h.1 c13
        refine r_aload_n 4 dL_errors_65 rfl rfl ?_
        refine r_iconst dL_errors_66 (by decide) ?_
        refine r_iconst dL_errors_67 (by decide) ?_
        refine r_iconst dL_errors_68 (by decide) ?_
        refine r_iconst dL_errors_69 (by decide) ?_
        refine r_iconst dL_errors_70 (by decide) ?_
        refine r_iconst dL_errors_71 (by decide) ?_
        refine r_callV [vI 0, vI (-1), vI 0, vI 0, vI 1, vI 1] [] dL_errors_72 okX7_addRequest ivX7_addRequest seX7_addRequest lm_L_94 rfl rfl sh_0 rfl ⟨Nat.le_of_ble_eq_true rfl, Nat.le_of_ble_eq_true rfl, Nat.le_of_ble_eq_true rfl, Nat.le_of_ble_eq_true rfl⟩ h ?_
        rintro _ s15 ⟨r14, rfl, h⟩
        refine r_iload 0 dL_errors_75 rfl ?_
        refine r_icmp_ne (tgt := 208) dL_errors_77 (by decide) (fun (c16 : r14 = (-1002)) => ?_) (fun (c16 : ¬ (r14 = (-1002))) => ?_)
        · replace h := h.1 c16
          refine r_aload_n 4 dL_errors_80 rfl rfl ?_
          refine r_iconst dL_errors_81 (by decide) ?_
          refine r_iconst dL_errors_82 (by decide) ?_
          refine r_iconst dL_errors_83 (by decide) ?_
          refine r_iconst dL_errors_84 (by decide) ?_
          refine r_iconst dL_errors_85 (by decide) ?_
          refine r_iconst dL_errors_86 (by decide) ?_
          refine r_callV [vI 0, vI 0, vI 0, vI 0, vI 0, vI 1] [] dL_errors_87 okX7_addRequest ivX7_addRequest seX7_addRequest lm_L_94 rfl rfl sh_0 rfl ⟨Nat.le_of_ble_eq_true rfl, Nat.le_of_ble_eq_true rfl, Nat.le_of_ble_eq_true rfl, Nat.le_of_ble_eq_true rfl⟩ h ?_
          rintro _ s18 ⟨r17, rfl, h⟩
          refine r_iload 0 dL_errors_90 rfl ?_
          refine r_icmp_ne (tgt := 208) dL_errors_92 (by decide) (fun (c19 : r17 = (-1002)) => ?_) (fun (c19 : ¬ (r17 = (-1002))) => ?_)
          · replace h := h.1 c19
            refine r_aload_n 4 dL_errors_95 rfl rfl ?_
            refine r_iconst dL_errors_96 (by decide) ?_
            refine r_iconst dL_errors_97 (by decide) ?_
            refine r_iconst dL_errors_98 (by decide) ?_
            refine r_iconst dL_errors_99 (by decide) ?_
            refine r_iconst dL_errors_100 (by decide) ?_
            refine r_sipush dL_errors_101 (by decide) (by decide) ?_
            refine r_callV [vI 0, vI 0, vI 0, vI 0, vI 1, vI 1001] [] dL_errors_104 okX7_addRequest ivX7_addRequest seX7_addRequest lm_L_94 rfl rfl sh_0 rfl ⟨Nat.le_of_ble_eq_true rfl, Nat.le_of_ble_eq_true rfl, Nat.le_of_ble_eq_true rfl, Nat.le_of_ble_eq_true rfl⟩ h ?_
            rintro _ s21 ⟨r20, rfl, h⟩
            refine r_iload 0 dL_errors_107 rfl ?_
            refine r_icmp_ne (tgt := 208) dL_errors_109 (by decide) (fun (c22 : r20 = (-1002)) => ?_) (fun (c22 : ¬ (r20 = (-1002))) => ?_)
            · replace h := h.1 c22
              refine r_aload_n 4 dL_errors_112 rfl rfl ?_
              refine r_iload_n 2 dL_errors_113 rfl rfl ?_
              refine r_iconst dL_errors_114 (by decide) ?_
              refine r_iconst dL_errors_115 (by decide) ?_
              refine r_iconst dL_errors_116 (by decide) ?_
              refine r_callV [vI r3, vI 0, vI 5, vI 4] [] dL_errors_117 okX7_setWindow ivX7_setWindow seX7_setWindow lm_L_98 rfl rfl sh_0 rfl ⟨Nat.le_of_ble_eq_true rfl, Nat.le_of_ble_eq_true rfl, Nat.le_of_ble_eq_true rfl, Nat.le_of_ble_eq_true rfl⟩ h ?_
              rintro _ s24 ⟨r23, rfl, h⟩
              refine r_iload_n 1 dL_errors_120 rfl rfl ?_
              refine r_icmp_ne (tgt := 208) dL_errors_121 (by decide) (fun (c25 : r23 = (-1001)) => ?_) (fun (c25 : ¬ (r23 = (-1001))) => ?_)
              · replace h := h.1 c25
                refine r_aload_n 4 dL_errors_124 rfl rfl ?_
                refine r_iconst dL_errors_125 (by decide) ?_
                refine r_iconst dL_errors_126 (by decide) ?_
                refine r_iconst dL_errors_127 (by decide) ?_
                refine r_iconst dL_errors_128 (by decide) ?_
                refine r_callV [vI 0, vI 1, vI 5, vI 4] [] dL_errors_129 okX7_setWindow ivX7_setWindow seX7_setWindow lm_L_98 rfl rfl sh_0 rfl ⟨Nat.le_of_ble_eq_true rfl, Nat.le_of_ble_eq_true rfl, Nat.le_of_ble_eq_true rfl, Nat.le_of_ble_eq_true rfl⟩ h ?_
                rintro _ s27 ⟨r26, rfl, h⟩
                refine r_iload 0 dL_errors_132 rfl ?_
                refine r_icmp_ne (tgt := 208) dL_errors_134 (by decide) (fun (c28 : r26 = (-1002)) => ?_) (fun (c28 : ¬ (r26 = (-1002))) => ?_)
                · replace h := h.1 c28
                  refine r_aload_n 4 dL_errors_137 rfl rfl ?_
                  refine r_iload_n 2 dL_errors_138 rfl rfl ?_
                  refine r_iconst dL_errors_139 (by decide) ?_
                  refine r_callV [vI r3, vI (-1)] [] dL_errors_140 okX7_setLimit ivX7_setLimit seX7_setLimit lm_L_102 rfl rfl sh_0 rfl ⟨Nat.le_of_ble_eq_true rfl, Nat.le_of_ble_eq_true rfl, Nat.le_of_ble_eq_true rfl, Nat.le_of_ble_eq_true rfl⟩ h ?_
                  rintro _ s30 ⟨r29, rfl, h⟩
                  refine r_iload_n 1 dL_errors_143 rfl rfl ?_
                  refine r_icmp_ne (tgt := 208) dL_errors_144 (by decide) (fun (c31 : r29 = (-1001)) => ?_) (fun (c31 : ¬ (r29 = (-1001))) => ?_)
                  · replace h := h.1 c31
                    refine r_aload_n 4 dL_errors_147 rfl rfl ?_
                    refine r_iconst dL_errors_148 (by decide) ?_
                    refine r_sipush dL_errors_149 (by decide) (by decide) ?_
                    refine r_callV [vI 0, vI 1001] [] dL_errors_152 okX7_setLimit ivX7_setLimit seX7_setLimit lm_L_102 rfl rfl sh_0 rfl ⟨Nat.le_of_ble_eq_true rfl, Nat.le_of_ble_eq_true rfl, Nat.le_of_ble_eq_true rfl, Nat.le_of_ble_eq_true rfl⟩ h ?_
                    rintro _ s33 ⟨r32, rfl, h⟩
                    refine r_iload 0 dL_errors_155 rfl ?_
                    refine r_icmp_ne (tgt := 208) dL_errors_157 (by decide) (fun (c34 : r32 = (-1002)) => ?_) (fun (c34 : ¬ (r32 = (-1002))) => ?_)
                    · replace h := h.1 c34
                      refine r_aload_n 4 dL_errors_160 rfl rfl ?_
                      refine r_iconst dL_errors_161 (by decide) ?_
                      refine r_iconst dL_errors_162 (by decide) ?_
                      refine r_callV [vI (-1), vI 0] [] dL_errors_163 okX7_setLoad ivX7_setLoad seX7_setLoad lm_L_105 rfl rfl sh_0 rfl ⟨Nat.le_of_ble_eq_true rfl, Nat.le_of_ble_eq_true rfl, Nat.le_of_ble_eq_true rfl, Nat.le_of_ble_eq_true rfl⟩ h ?_
                      rintro _ s36 ⟨r35, rfl, h⟩
                      refine r_iload_n 1 dL_errors_166 rfl rfl ?_
                      refine r_icmp_ne (tgt := 208) dL_errors_167 (by decide) (fun (c37 : r35 = (-1001)) => ?_) (fun (c37 : ¬ (r35 = (-1001))) => ?_)
                      · replace h := h.1 c37
                        refine r_aload_n 4 dL_errors_170 rfl rfl ?_
                        refine r_iconst dL_errors_171 (by decide) ?_
                        refine r_bipush dL_errors_172 (by decide) (by decide) ?_
                        refine r_callV [vI 0, vI 9] [] dL_errors_174 okX7_setLoad ivX7_setLoad seX7_setLoad lm_L_105 rfl rfl sh_0 rfl ⟨Nat.le_of_ble_eq_true rfl, Nat.le_of_ble_eq_true rfl, Nat.le_of_ble_eq_true rfl, Nat.le_of_ble_eq_true rfl⟩ h ?_
                        rintro _ s39 ⟨r38, rfl, h⟩
                        refine r_iload 0 dL_errors_177 rfl ?_
                        refine r_icmp_ne (tgt := 208) dL_errors_179 (by decide) (fun (c40 : r38 = (-1002)) => ?_) (fun (c40 : ¬ (r38 = (-1002))) => ?_)
                        · replace h := h.1 c40
                          refine r_aload_n 4 dL_errors_182 rfl rfl ?_
                          refine r_bipush dL_errors_183 (by decide) (by decide) ?_
                          refine r_callV [vI 11] [] dL_errors_185 okX7_setService ivX7_setService seX7_setService lm_L_108 rfl rfl sh_0 rfl ⟨Nat.le_of_ble_eq_true rfl, Nat.le_of_ble_eq_true rfl, Nat.le_of_ble_eq_true rfl, Nat.le_of_ble_eq_true rfl⟩ h ?_
                          rintro _ s42 ⟨r41, rfl, h⟩
                          refine r_iload 0 dL_errors_188 rfl ?_
                          refine r_icmp_ne (tgt := 208) dL_errors_190 (by decide) (fun (c43 : r41 = (-1002)) => ?_) (fun (c43 : ¬ (r41 = (-1002))) => ?_)
                          · replace h := h.1 c43
                            refine r_aload_n 4 dL_errors_193 rfl rfl ?_
                            refine r_bipush dL_errors_194 (by decide) (by decide) ?_
                            refine r_callV [vI 6] [] dL_errors_196 okX7_count ivX7_count seX7_count lm_L_25 rfl rfl sh_0 rfl ⟨Nat.le_of_ble_eq_true rfl, Nat.le_of_ble_eq_true rfl, Nat.le_of_ble_eq_true rfl, Nat.le_of_ble_eq_true rfl⟩ h ?_
                            rintro _ s45 ⟨r44, rfl, h⟩
                            refine r_iload 0 dL_errors_199 rfl ?_
                            refine r_icmp_ne (tgt := 208) dL_errors_201 (by decide) (fun (c46 : r44 = (-1002)) => ?_) (fun (c46 : ¬ (r44 = (-1002))) => ?_)
                            · replace h := h.1 c46
                              refine r_iconst dL_errors_204 (by decide) ?_
                              refine r_goto (tgt := 209) dL_errors_205 (by decide) ?_
                              refine MWF.sub [4, 3, 2, 1, 0] rfl ?_
                              exact h
                            · replace h := h.2 c46
                              refine r_iconst dL_errors_208 (by decide) ?_
                              refine MWF.sub [4, 3, 2, 1, 0] rfl ?_
                              exact h
                          · replace h := h.2 c43
                            refine r_iconst dL_errors_208 (by decide) ?_
                            refine MWF.sub [4, 3, 2, 1, 0] rfl ?_
                            exact h
                        · replace h := h.2 c40
                          refine r_iconst dL_errors_208 (by decide) ?_
                          refine MWF.sub [4, 3, 2, 1, 0] rfl ?_
                          exact h
                      · replace h := h.2 c37
                        refine r_iconst dL_errors_208 (by decide) ?_
                        refine MWF.sub [4, 3, 2, 1, 0] rfl ?_
                        exact h
                    · replace h := h.2 c34
                      refine r_iconst dL_errors_208 (by decide) ?_
                      refine MWF.sub [4, 3, 2, 1, 0] rfl ?_
                      exact h
                  · replace h := h.2 c31
                    refine r_iconst dL_errors_208 (by decide) ?_
                    refine MWF.sub [4, 3, 2, 1, 0] rfl ?_
                    exact h
                · replace h := h.2 c28
                  refine r_iconst dL_errors_208 (by decide) ?_
                  refine MWF.sub [4, 3, 2, 1, 0] rfl ?_
                  exact h
              · replace h := h.2 c25
                refine r_iconst dL_errors_208 (by decide) ?_
                refine MWF.sub [4, 3, 2, 1, 0] rfl ?_
                exact h
            · replace h := h.2 c22
              refine r_iconst dL_errors_208 (by decide) ?_
              refine MWF.sub [4, 3, 2, 1, 0] rfl ?_
              exact h
          · replace h := h.2 c19
            refine r_iconst dL_errors_208 (by decide) ?_
            refine MWF.sub [4, 3, 2, 1, 0] rfl ?_
            exact h
        · replace h := h.2 c16
          refine r_iconst dL_errors_208 (by decide) ?_
          refine MWF.sub [4, 3, 2, 1, 0] rfl ?_
          exact h
      · replace h := h.2 c13
        refine r_iconst dL_errors_208 (by decide) ?_
        refine MWF.sub [4, 3, 2, 1, 0] rfl ?_
        exact h
    · replace h := h.2 c10
      refine r_iconst dL_errors_208 (by decide) ?_
      refine MWF.sub [4, 3, 2, 1, 0] rfl ?_
      exact h
  · replace h := h.2 c7
    refine r_iconst dL_errors_208 (by decide) ?_
    refine MWF.sub [4, 3, 2, 1, 0] rfl ?_
    exact h
set_option maxRecDepth 100000 in
set_option maxHeartbeats 4000000 in
theorem vcL_errors_209 (l : Launch) (G : GT) (σ : Sto) (Q : Int → Sto → Prop) (x1 : Int) (x2 : Int) (x3 : Int) (x4 : Int) (z0 : Int)
    (h : (z0 = 0 → Q 0 σ) ∧ (¬ (z0 = 0) → CLi l G mX7_request [vR 0, vI x2, vI 9] σ (fun r48 s49 => (r48 = x3 → CLi l G mX7_request [vR 0, vI 0, vI 8] s49 (fun r51 s52 => (r51 = x4 → CLi l G mX7_vehicle [vR 0, vI x1, vI 9] s52 (fun r54 s55 => (r54 = x3 → CLi l G mX7_vehicle [vR 0, vI 0, vI 7] s55 (fun r57 s58 => (r57 = x4 → CLi l G mX7_stop [vR 0, vI x1, vI 0, vI 9] s58 (fun r60 s61 => (r60 = x3 → CLi l G mX7_stop [vR 0, vI 0, vI (-1), vI 0] s61 (fun r63 s64 => (r63 = x3 → CLi l G mX7_rideTime [vR 0, vI x2, vI 1] s64 (fun r66 s67 => (r66 = x3 → CLi l G mX7_depotTime [vR 0, vI (-1), vI 1] s67 (fun r69 s70 => (r69 = x3 → CLi l G mX7_cost [vR 0, vI x2, vI 0, vI (-1), vI 0] s70 (fun r72 s73 => (r72 = x3 → CLi l G mX7_cost [vR 0, vI 0, vI x1, vI (-1), vI 0] s73 (fun r75 s76 => (r75 = x3 → CLi l G mX7_cost [vR 0, vI 0, vI 0, vI (-1), vI 0] s76 (fun r78 s79 => (r78 = x4 → CLi l G mX7_insert [vR 0, vI 0, vI 0, vI 2, vI 2] s79 (fun r81 s82 => (r81 = x4 → CLi l G mX7_best [vR 0, vI 0, vI x1] s82 (fun r84 s85 => (r84 = x3 → CLi l G mX7_assignTo [vR 0, vI x2, vI 0] s85 (fun r87 s88 => (r87 = x3 → CLi l G mX7_assign [vR 0, vI x2] s88 (fun r90 s91 => (r90 = x3 → CLi l G mX7_remove [vR 0, vI (-1)] s91 (fun r93 s94 => (r93 = x3 → CLi l G mX7_chainCost [vR 0, vI x2] s94 (fun r96 s97 => (r96 = x3 → CLi l G mX7_chain [vR 0, vI (-1)] s97 (fun r99 s100 => ∀ y102 : Int, y102 = (if r99 = x3 then 1 else 0) → Q y102 s100)) ∧ (¬ (r96 = x3) → Q 0 s97))) ∧ (¬ (r93 = x3) → Q 0 s94))) ∧ (¬ (r90 = x3) → Q 0 s91))) ∧ (¬ (r87 = x3) → Q 0 s88))) ∧ (¬ (r84 = x3) → Q 0 s85))) ∧ (¬ (r81 = x4) → Q 0 s82))) ∧ (¬ (r78 = x4) → Q 0 s79))) ∧ (¬ (r75 = x3) → Q 0 s76))) ∧ (¬ (r72 = x3) → Q 0 s73))) ∧ (¬ (r69 = x3) → Q 0 s70))) ∧ (¬ (r66 = x3) → Q 0 s67))) ∧ (¬ (r63 = x3) → Q 0 s64))) ∧ (¬ (r60 = x3) → Q 0 s61))) ∧ (¬ (r57 = x4) → Q 0 s58))) ∧ (¬ (r54 = x3) → Q 0 s55))) ∧ (¬ (r51 = x4) → Q 0 s52))) ∧ (¬ (r48 = x3) → Q 0 s49)))) :
    MWi l G mL_errors 209 [(0, vR 0), (1, vI x1), (2, vI x2), (3, vI x3), (4, vI x4)] [vI z0] σ Q := by
  refine r_istore dL_errors_209 (by decide) rfl ?_
  refine r_iload 0 dL_errors_211 rfl ?_
  refine r_if_eq (tgt := 415) dL_errors_213 (by decide) (fun (c47 : z0 = 0) => ?_) (fun (c47 : ¬ (z0 = 0)) => ?_)
  · replace h := h.1 c47
    refine r_iconst dL_errors_415 (by decide) ?_
    exact r_zret dL_errors_416 rfl (by decide) ⟨_, rfl, h⟩
  · replace h := h.2 c47
    refine r_aload_n 1 dL_errors_216 rfl rfl ?_
    refine r_iload_n 3 dL_errors_217 rfl rfl ?_
    refine r_bipush dL_errors_218 (by decide) (by decide) ?_
    refine r_callV [vI x2, vI 9] [] dL_errors_220 okX7_request ivX7_request seX7_request lm_L_36 rfl rfl sh_0 rfl ⟨Nat.le_of_ble_eq_true rfl, Nat.le_of_ble_eq_true rfl, Nat.le_of_ble_eq_true rfl, Nat.le_of_ble_eq_true rfl⟩ h ?_
    rintro _ s49 ⟨r48, rfl, h⟩
    refine r_iload_n 4 dL_errors_223 rfl rfl ?_
    refine r_icmp_ne (tgt := 415) dL_errors_224 (by decide) (fun (c50 : r48 = x3) => ?_) (fun (c50 : ¬ (r48 = x3)) => ?_)
    · replace h := h.1 c50
      refine r_aload_n 1 dL_errors_227 rfl rfl ?_
      refine r_iconst dL_errors_228 (by decide) ?_
      refine r_bipush dL_errors_229 (by decide) (by decide) ?_
      refine r_callV [vI 0, vI 8] [] dL_errors_231 okX7_request ivX7_request seX7_request lm_L_36 rfl rfl sh_0 rfl ⟨Nat.le_of_ble_eq_true rfl, Nat.le_of_ble_eq_true rfl, Nat.le_of_ble_eq_true rfl, Nat.le_of_ble_eq_true rfl⟩ h ?_
      rintro _ s52 ⟨r51, rfl, h⟩
      refine r_iload 5 dL_errors_234 rfl ?_
      refine r_icmp_ne (tgt := 415) dL_errors_236 (by decide) (fun (c53 : r51 = x4) => ?_) (fun (c53 : ¬ (r51 = x4)) => ?_)
      · replace h := h.1 c53
        refine r_aload_n 1 dL_errors_239 rfl rfl ?_
        refine r_iload_n 2 dL_errors_240 rfl rfl ?_
        refine r_bipush dL_errors_241 (by decide) (by decide) ?_
        refine r_callV [vI x1, vI 9] [] dL_errors_243 okX7_vehicle ivX7_vehicle seX7_vehicle lm_L_21 rfl rfl sh_0 rfl ⟨Nat.le_of_ble_eq_true rfl, Nat.le_of_ble_eq_true rfl, Nat.le_of_ble_eq_true rfl, Nat.le_of_ble_eq_true rfl⟩ h ?_
        rintro _ s55 ⟨r54, rfl, h⟩
        refine r_iload_n 4 dL_errors_246 rfl rfl ?_
        refine r_icmp_ne (tgt := 415) dL_errors_247 (by decide) (fun (c56 : r54 = x3) => ?_) (fun (c56 : ¬ (r54 = x3)) => ?_)
        · replace h := h.1 c56
          refine r_aload_n 1 dL_errors_250 rfl rfl ?_
          refine r_iconst dL_errors_251 (by decide) ?_
          refine r_bipush dL_errors_252 (by decide) (by decide) ?_
          refine r_callV [vI 0, vI 7] [] dL_errors_254 okX7_vehicle ivX7_vehicle seX7_vehicle lm_L_21 rfl rfl sh_0 rfl ⟨Nat.le_of_ble_eq_true rfl, Nat.le_of_ble_eq_true rfl, Nat.le_of_ble_eq_true rfl, Nat.le_of_ble_eq_true rfl⟩ h ?_
          rintro _ s58 ⟨r57, rfl, h⟩
          refine r_iload 5 dL_errors_257 rfl ?_
          refine r_icmp_ne (tgt := 415) dL_errors_259 (by decide) (fun (c59 : r57 = x4) => ?_) (fun (c59 : ¬ (r57 = x4)) => ?_)
          · replace h := h.1 c59
            refine r_aload_n 1 dL_errors_262 rfl rfl ?_
            refine r_iload_n 2 dL_errors_263 rfl rfl ?_
            refine r_iconst dL_errors_264 (by decide) ?_
            refine r_bipush dL_errors_265 (by decide) (by decide) ?_
            refine r_callV [vI x1, vI 0, vI 9] [] dL_errors_267 okX7_stop ivX7_stop seX7_stop lm_L_15 rfl rfl sh_0 rfl ⟨Nat.le_of_ble_eq_true rfl, Nat.le_of_ble_eq_true rfl, Nat.le_of_ble_eq_true rfl, Nat.le_of_ble_eq_true rfl⟩ h ?_
            rintro _ s61 ⟨r60, rfl, h⟩
            refine r_iload_n 4 dL_errors_270 rfl rfl ?_
            refine r_icmp_ne (tgt := 415) dL_errors_271 (by decide) (fun (c62 : r60 = x3) => ?_) (fun (c62 : ¬ (r60 = x3)) => ?_)
            · replace h := h.1 c62
              refine r_aload_n 1 dL_errors_274 rfl rfl ?_
              refine r_iconst dL_errors_275 (by decide) ?_
              refine r_iconst dL_errors_276 (by decide) ?_
              refine r_iconst dL_errors_277 (by decide) ?_
              refine r_callV [vI 0, vI (-1), vI 0] [] dL_errors_278 okX7_stop ivX7_stop seX7_stop lm_L_15 rfl rfl sh_0 rfl ⟨Nat.le_of_ble_eq_true rfl, Nat.le_of_ble_eq_true rfl, Nat.le_of_ble_eq_true rfl, Nat.le_of_ble_eq_true rfl⟩ h ?_
              rintro _ s64 ⟨r63, rfl, h⟩
              refine r_iload_n 4 dL_errors_281 rfl rfl ?_
              refine r_icmp_ne (tgt := 415) dL_errors_282 (by decide) (fun (c65 : r63 = x3) => ?_) (fun (c65 : ¬ (r63 = x3)) => ?_)
              · replace h := h.1 c65
                refine r_aload_n 1 dL_errors_285 rfl rfl ?_
                refine r_iload_n 3 dL_errors_286 rfl rfl ?_
                refine r_iconst dL_errors_287 (by decide) ?_
                refine r_callV [vI x2, vI 1] [] dL_errors_288 okX7_rideTime ivX7_rideTime seX7_rideTime lm_L_39 rfl rfl sh_0 rfl ⟨Nat.le_of_ble_eq_true rfl, Nat.le_of_ble_eq_true rfl, Nat.le_of_ble_eq_true rfl, Nat.le_of_ble_eq_true rfl⟩ h ?_
                rintro _ s67 ⟨r66, rfl, h⟩
                refine r_iload_n 4 dL_errors_291 rfl rfl ?_
                refine r_icmp_ne (tgt := 415) dL_errors_292 (by decide) (fun (c68 : r66 = x3) => ?_) (fun (c68 : ¬ (r66 = x3)) => ?_)
                · replace h := h.1 c68
                  refine r_aload_n 1 dL_errors_295 rfl rfl ?_
                  refine r_iconst dL_errors_296 (by decide) ?_
                  refine r_iconst dL_errors_297 (by decide) ?_
                  refine r_callV [vI (-1), vI 1] [] dL_errors_298 okX7_depotTime ivX7_depotTime seX7_depotTime lm_L_43 rfl rfl sh_0 rfl ⟨Nat.le_of_ble_eq_true rfl, Nat.le_of_ble_eq_true rfl, Nat.le_of_ble_eq_true rfl, Nat.le_of_ble_eq_true rfl⟩ h ?_
                  rintro _ s70 ⟨r69, rfl, h⟩
                  refine r_iload_n 4 dL_errors_301 rfl rfl ?_
                  refine r_icmp_ne (tgt := 415) dL_errors_302 (by decide) (fun (c71 : r69 = x3) => ?_) (fun (c71 : ¬ (r69 = x3)) => ?_)
                  · replace h := h.1 c71
                    refine r_aload_n 1 dL_errors_305 rfl rfl ?_
                    refine r_iload_n 3 dL_errors_306 rfl rfl ?_
                    refine r_iconst dL_errors_307 (by decide) ?_
                    refine r_iconst dL_errors_308 (by decide) ?_
                    refine r_iconst dL_errors_309 (by decide) ?_
                    refine r_callV [vI x2, vI 0, vI (-1), vI 0] [] dL_errors_310 okX7_cost ivX7_cost seX7_cost lm_L_51 rfl rfl sh_0 rfl ⟨Nat.le_of_ble_eq_true rfl, Nat.le_of_ble_eq_true rfl, Nat.le_of_ble_eq_true rfl, Nat.le_of_ble_eq_true rfl⟩ h ?_
                    rintro _ s73 ⟨r72, rfl, h⟩
                    refine r_iload_n 4 dL_errors_313 rfl rfl ?_
                    refine r_icmp_ne (tgt := 415) dL_errors_314 (by decide) (fun (c74 : r72 = x3) => ?_) (fun (c74 : ¬ (r72 = x3)) => ?_)
                    · replace h := h.1 c74
                      refine r_aload_n 1 dL_errors_317 rfl rfl ?_
                      refine r_iconst dL_errors_318 (by decide) ?_
                      refine r_iload_n 2 dL_errors_319 rfl rfl ?_
                      refine r_iconst dL_errors_320 (by decide) ?_
                      refine r_iconst dL_errors_321 (by decide) ?_
                      refine r_callV [vI 0, vI x1, vI (-1), vI 0] [] dL_errors_322 okX7_cost ivX7_cost seX7_cost lm_L_51 rfl rfl sh_0 rfl ⟨Nat.le_of_ble_eq_true rfl, Nat.le_of_ble_eq_true rfl, Nat.le_of_ble_eq_true rfl, Nat.le_of_ble_eq_true rfl⟩ h ?_
                      rintro _ s76 ⟨r75, rfl, h⟩
                      refine r_iload_n 4 dL_errors_325 rfl rfl ?_
                      refine r_icmp_ne (tgt := 415) dL_errors_326 (by decide) (fun (c77 : r75 = x3) => ?_) (fun (c77 : ¬ (r75 = x3)) => ?_)
                      · replace h := h.1 c77
                        refine r_aload_n 1 dL_errors_329 rfl rfl ?_
                        refine r_iconst dL_errors_330 (by decide) ?_
                        refine r_iconst dL_errors_331 (by decide) ?_
                        refine r_iconst dL_errors_332 (by decide) ?_
                        refine r_iconst dL_errors_333 (by decide) ?_
                        refine r_callV [vI 0, vI 0, vI (-1), vI 0] [] dL_errors_334 okX7_cost ivX7_cost seX7_cost lm_L_51 rfl rfl sh_0 rfl ⟨Nat.le_of_ble_eq_true rfl, Nat.le_of_ble_eq_true rfl, Nat.le_of_ble_eq_true rfl, Nat.le_of_ble_eq_true rfl⟩ h ?_
                        rintro _ s79 ⟨r78, rfl, h⟩
                        refine r_iload 5 dL_errors_337 rfl ?_
                        refine r_icmp_ne (tgt := 415) dL_errors_339 (by decide) (fun (c80 : r78 = x4) => ?_) (fun (c80 : ¬ (r78 = x4)) => ?_)
                        · replace h := h.1 c80
                          refine r_aload_n 1 dL_errors_342 rfl rfl ?_
                          refine r_iconst dL_errors_343 (by decide) ?_
                          refine r_iconst dL_errors_344 (by decide) ?_
                          refine r_iconst dL_errors_345 (by decide) ?_
                          refine r_iconst dL_errors_346 (by decide) ?_
                          refine r_callV [vI 0, vI 0, vI 2, vI 2] [] dL_errors_347 okX7_insert ivX7_insert seX7_insert lm_L_77 rfl rfl sh_0 rfl ⟨Nat.le_of_ble_eq_true rfl, Nat.le_of_ble_eq_true rfl, Nat.le_of_ble_eq_true rfl, Nat.le_of_ble_eq_true rfl⟩ h ?_
                          rintro _ s82 ⟨r81, rfl, h⟩
                          refine r_iload 5 dL_errors_350 rfl ?_
                          refine r_icmp_ne (tgt := 415) dL_errors_352 (by decide) (fun (c83 : r81 = x4) => ?_) (fun (c83 : ¬ (r81 = x4)) => ?_)
                          · replace h := h.1 c83
                            refine r_aload_n 1 dL_errors_355 rfl rfl ?_
                            refine r_iconst dL_errors_356 (by decide) ?_
                            refine r_iload_n 2 dL_errors_357 rfl rfl ?_
                            refine r_callV [vI 0, vI x1] [] dL_errors_358 okX7_best ivX7_best seX7_best lm_L_55 rfl rfl sh_0 rfl ⟨Nat.le_of_ble_eq_true rfl, Nat.le_of_ble_eq_true rfl, Nat.le_of_ble_eq_true rfl, Nat.le_of_ble_eq_true rfl⟩ h ?_
                            rintro _ s85 ⟨r84, rfl, h⟩
                            refine r_iload_n 4 dL_errors_361 rfl rfl ?_
                            refine r_icmp_ne (tgt := 415) dL_errors_362 (by decide) (fun (c86 : r84 = x3) => ?_) (fun (c86 : ¬ (r84 = x3)) => ?_)
                            · replace h := h.1 c86
                              refine r_aload_n 1 dL_errors_365 rfl rfl ?_
                              refine r_iload_n 3 dL_errors_366 rfl rfl ?_
                              refine r_iconst dL_errors_367 (by decide) ?_
                              refine r_callV [vI x2, vI 0] [] dL_errors_368 okX7_assignTo ivX7_assignTo seX7_assignTo lm_L_74 rfl rfl sh_0 rfl ⟨Nat.le_of_ble_eq_true rfl, Nat.le_of_ble_eq_true rfl, Nat.le_of_ble_eq_true rfl, Nat.le_of_ble_eq_true rfl⟩ h ?_
                              rintro _ s88 ⟨r87, rfl, h⟩
                              refine r_iload_n 4 dL_errors_371 rfl rfl ?_
                              refine r_icmp_ne (tgt := 415) dL_errors_372 (by decide) (fun (c89 : r87 = x3) => ?_) (fun (c89 : ¬ (r87 = x3)) => ?_)
                              · replace h := h.1 c89
                                refine r_aload_n 1 dL_errors_375 rfl rfl ?_
                                refine r_iload_n 3 dL_errors_376 rfl rfl ?_
                                refine r_callV [vI x2] [] dL_errors_377 okX7_assign ivX7_assign seX7_assign lm_L_71 rfl rfl sh_0 rfl ⟨Nat.le_of_ble_eq_true rfl, Nat.le_of_ble_eq_true rfl, Nat.le_of_ble_eq_true rfl, Nat.le_of_ble_eq_true rfl⟩ h ?_
                                rintro _ s91 ⟨r90, rfl, h⟩
                                refine r_iload_n 4 dL_errors_380 rfl rfl ?_
                                refine r_icmp_ne (tgt := 415) dL_errors_381 (by decide) (fun (c92 : r90 = x3) => ?_) (fun (c92 : ¬ (r90 = x3)) => ?_)
                                · replace h := h.1 c92
                                  refine r_aload_n 1 dL_errors_384 rfl rfl ?_
                                  refine r_iconst dL_errors_385 (by decide) ?_
                                  refine r_callV [vI (-1)] [] dL_errors_386 okX7_remove ivX7_remove seX7_remove lm_L_111 rfl rfl sh_0 rfl ⟨Nat.le_of_ble_eq_true rfl, Nat.le_of_ble_eq_true rfl, Nat.le_of_ble_eq_true rfl, Nat.le_of_ble_eq_true rfl⟩ h ?_
                                  rintro _ s94 ⟨r93, rfl, h⟩
                                  refine r_iload_n 4 dL_errors_389 rfl rfl ?_
                                  refine r_icmp_ne (tgt := 415) dL_errors_390 (by decide) (fun (c95 : r93 = x3) => ?_) (fun (c95 : ¬ (r93 = x3)) => ?_)
                                  · replace h := h.1 c95
                                    refine r_aload_n 1 dL_errors_393 rfl rfl ?_
                                    refine r_iload_n 3 dL_errors_394 rfl rfl ?_
                                    refine r_callV [vI x2] [] dL_errors_395 okX7_chainCost ivX7_chainCost seX7_chainCost lm_L_80 rfl rfl sh_0 rfl ⟨Nat.le_of_ble_eq_true rfl, Nat.le_of_ble_eq_true rfl, Nat.le_of_ble_eq_true rfl, Nat.le_of_ble_eq_true rfl⟩ h ?_
                                    rintro _ s97 ⟨r96, rfl, h⟩
                                    refine r_iload_n 4 dL_errors_398 rfl rfl ?_
                                    refine r_icmp_ne (tgt := 415) dL_errors_399 (by decide) (fun (c98 : r96 = x3) => ?_) (fun (c98 : ¬ (r96 = x3)) => ?_)
                                    · replace h := h.1 c98
                                      refine r_aload_n 1 dL_errors_402 rfl rfl ?_
                                      refine r_iconst dL_errors_403 (by decide) ?_
                                      refine r_callV [vI (-1)] [] dL_errors_404 okX7_chain ivX7_chain seX7_chain lm_L_87 rfl rfl sh_0 rfl ⟨Nat.le_of_ble_eq_true rfl, Nat.le_of_ble_eq_true rfl, Nat.le_of_ble_eq_true rfl, Nat.le_of_ble_eq_true rfl⟩ h ?_
                                      rintro _ s100 ⟨r99, rfl, h⟩
                                      refine r_iload_n 4 dL_errors_407 rfl rfl ?_
                                      obtain ⟨y102, ey102⟩ : ∃ z : Int, z = (if r99 = x3 then 1 else 0) := ⟨_, rfl⟩
                                      replace h := h y102 ey102
                                      have hj103 : MWi l G mL_errors 416 [] [vI y102] s100 Q := by
                                        exact r_zret dL_errors_416 rfl (by rw [ey102]; (repeat' split) <;> decide) ⟨_, rfl, h⟩
                                      refine r_icmp_ne (tgt := 415) dL_errors_408 (by decide) (fun (c101 : r99 = x3) => ?_) (fun (c101 : ¬ (r99 = x3)) => ?_)
                                      · refine r_iconst dL_errors_411 (by decide) ?_
                                        refine r_goto (tgt := 416) dL_errors_412 (by decide) ?_
                                        refine MWF.sub [] rfl ?_
                                        have q104 : y102 = 1 := by rw [ey102, if_pos c101]
                                        rw [q104] at hj103
                                        exact hj103
                                      · refine r_iconst dL_errors_415 (by decide) ?_
                                        refine MWF.sub [] rfl ?_
                                        have q105 : y102 = 0 := by rw [ey102, if_neg c101]
                                        rw [q105] at hj103
                                        exact hj103
                                    · replace h := h.2 c98
                                      refine r_iconst dL_errors_415 (by decide) ?_
                                      exact r_zret dL_errors_416 rfl (by decide) ⟨_, rfl, h⟩
                                  · replace h := h.2 c95
                                    refine r_iconst dL_errors_415 (by decide) ?_
                                    exact r_zret dL_errors_416 rfl (by decide) ⟨_, rfl, h⟩
                                · replace h := h.2 c92
                                  refine r_iconst dL_errors_415 (by decide) ?_
                                  exact r_zret dL_errors_416 rfl (by decide) ⟨_, rfl, h⟩
                              · replace h := h.2 c89
                                refine r_iconst dL_errors_415 (by decide) ?_
                                exact r_zret dL_errors_416 rfl (by decide) ⟨_, rfl, h⟩
                            · replace h := h.2 c86
                              refine r_iconst dL_errors_415 (by decide) ?_
                              exact r_zret dL_errors_416 rfl (by decide) ⟨_, rfl, h⟩
                          · replace h := h.2 c83
                            refine r_iconst dL_errors_415 (by decide) ?_
                            exact r_zret dL_errors_416 rfl (by decide) ⟨_, rfl, h⟩
                        · replace h := h.2 c80
                          refine r_iconst dL_errors_415 (by decide) ?_
                          exact r_zret dL_errors_416 rfl (by decide) ⟨_, rfl, h⟩
                      · replace h := h.2 c77
                        refine r_iconst dL_errors_415 (by decide) ?_
                        exact r_zret dL_errors_416 rfl (by decide) ⟨_, rfl, h⟩
                    · replace h := h.2 c74
                      refine r_iconst dL_errors_415 (by decide) ?_
                      exact r_zret dL_errors_416 rfl (by decide) ⟨_, rfl, h⟩
                  · replace h := h.2 c71
                    refine r_iconst dL_errors_415 (by decide) ?_
                    exact r_zret dL_errors_416 rfl (by decide) ⟨_, rfl, h⟩
                · replace h := h.2 c68
                  refine r_iconst dL_errors_415 (by decide) ?_
                  exact r_zret dL_errors_416 rfl (by decide) ⟨_, rfl, h⟩
              · replace h := h.2 c65
                refine r_iconst dL_errors_415 (by decide) ?_
                exact r_zret dL_errors_416 rfl (by decide) ⟨_, rfl, h⟩
            · replace h := h.2 c62
              refine r_iconst dL_errors_415 (by decide) ?_
              exact r_zret dL_errors_416 rfl (by decide) ⟨_, rfl, h⟩
          · replace h := h.2 c59
            refine r_iconst dL_errors_415 (by decide) ?_
            exact r_zret dL_errors_416 rfl (by decide) ⟨_, rfl, h⟩
        · replace h := h.2 c56
          refine r_iconst dL_errors_415 (by decide) ?_
          exact r_zret dL_errors_416 rfl (by decide) ⟨_, rfl, h⟩
      · replace h := h.2 c53
        refine r_iconst dL_errors_415 (by decide) ?_
        exact r_zret dL_errors_416 rfl (by decide) ⟨_, rfl, h⟩
    · replace h := h.2 c50
      refine r_iconst dL_errors_415 (by decide) ?_
      exact r_zret dL_errors_416 rfl (by decide) ⟨_, rfl, h⟩
section LAWVC
variable {b L : Nat} {xs : Nat → Int32} {κ : Nat}
set_option maxRecDepth 100000 in
set_option maxHeartbeats 4000000 in
theorem vcL_law_13 (l : Launch) (G : GT) (hx0 : G.2.2.2.2 = 0) (hb2 : G.2.2.1 228 = b) (hL : L ≤ 260) (hκ : κ ≤ 100) (σ : Sto) 
    (h : CLi l G mX7_count [vR 0, vI 4] σ (fun r1 s2 => (r1 = 1 → CLi l G mX7_undo [vR 0] s2 (fun r4 s5 => (r4 = (-1007) → CLi l G mX7_improve [vR 0] s5 (fun r7 s8 => (r7 = (-1007) → CLi l G mX7_count [vR 0, vI 3] s8 (fun r10 s11 => (r10 = 0 → MWF l G mL (FL b L xs κ) 52 [(0, vR 228), (1, vR 0), (2, vR 56)] [] s11) ∧ (¬ (r10 = 0) → False))) ∧ (¬ (r7 = (-1007)) → False))) ∧ (¬ (r4 = (-1007)) → False))) ∧ (¬ (r1 = 1) → False))) :
    MWF l G mL (FL b L xs κ) 13 [(0, vR 228), (1, vR 0), (2, vR 56)] [] σ := by
  refine r_aload_n 1 dL_law_13 rfl rfl ?_
  refine r_iconst dL_law_14 (by decide) ?_
  refine r_callV [vI 4] [] dL_law_15 okX7_count ivX7_count seX7_count lm_L_25 rfl rfl sh_0 rfl ⟨Nat.le_of_ble_eq_true rfl, Nat.le_of_ble_eq_true rfl, Nat.le_of_ble_eq_true rfl, Nat.le_of_ble_eq_true rfl⟩ h ?_
  rintro _ s2 ⟨r1, rfl, h⟩
  refine r_iconst dL_law_18 (by decide) ?_
  refine r_icmp_ne (tgt := 50) dL_law_19 (by decide) (fun (c3 : r1 = 1) => ?_) (fun (c3 : ¬ (r1 = 1)) => ?_)
  · replace h := h.1 c3
    refine r_aload_n 1 dL_law_22 rfl rfl ?_
    refine r_callV [] [] dL_law_23 okX7_undo ivX7_undo seX7_undo lm_L_115 rfl rfl sh_0 rfl ⟨Nat.le_of_ble_eq_true rfl, Nat.le_of_ble_eq_true rfl, Nat.le_of_ble_eq_true rfl, Nat.le_of_ble_eq_true rfl⟩ h ?_
    rintro _ s5 ⟨r4, rfl, h⟩
    refine r_sipush dL_law_26 (by decide) (by decide) ?_
    refine r_icmp_ne (tgt := 50) dL_law_29 (by decide) (fun (c6 : r4 = (-1007)) => ?_) (fun (c6 : ¬ (r4 = (-1007))) => ?_)
    · replace h := h.1 c6
      refine r_aload_n 1 dL_law_32 rfl rfl ?_
      refine r_callV [] [] dL_law_33 okX7_improve ivX7_improve seX7_improve lm_L_119 rfl rfl sh_0 rfl ⟨Nat.le_of_ble_eq_true rfl, Nat.le_of_ble_eq_true rfl, Nat.le_of_ble_eq_true rfl, Nat.le_of_ble_eq_true rfl⟩ h ?_
      rintro _ s8 ⟨r7, rfl, h⟩
      refine r_sipush dL_law_36 (by decide) (by decide) ?_
      refine r_icmp_ne (tgt := 50) dL_law_39 (by decide) (fun (c9 : r7 = (-1007)) => ?_) (fun (c9 : ¬ (r7 = (-1007))) => ?_)
      · replace h := h.1 c9
        refine r_aload_n 1 dL_law_42 rfl rfl ?_
        refine r_iconst dL_law_43 (by decide) ?_
        refine r_callV [vI 3] [] dL_law_44 okX7_count ivX7_count seX7_count lm_L_25 rfl rfl sh_0 rfl ⟨Nat.le_of_ble_eq_true rfl, Nat.le_of_ble_eq_true rfl, Nat.le_of_ble_eq_true rfl, Nat.le_of_ble_eq_true rfl⟩ h ?_
        rintro _ s11 ⟨r10, rfl, h⟩
        refine r_if_eq (tgt := 52) dL_law_47 (by decide) (fun (c12 : r10 = 0) => ?_) (fun (c12 : ¬ (r10 = 0)) => ?_)
        · replace h := h.1 c12
          refine MWF.sub [0, 1, 2] rfl ?_
          exact h
        · replace h := h.2 c12
          refine r_iconst dL_law_50 (by decide) ?_
          exact h.elim
      · replace h := h.2 c9
        refine r_iconst dL_law_50 (by decide) ?_
        exact h.elim
    · replace h := h.2 c6
      refine r_iconst dL_law_50 (by decide) ?_
      exact h.elim
  · replace h := h.2 c3
    refine r_iconst dL_law_50 (by decide) ?_
    exact h.elim
set_option maxRecDepth 100000 in
set_option maxHeartbeats 4000000 in
theorem vcL_law_52 (l : Launch) (G : GT) (hx0 : G.2.2.2.2 = 0) (hb2 : G.2.2.1 228 = b) (hL : L ≤ 260) (hκ : κ ≤ 100) (σ : Sto) 
    (h : CLi l G mL_low [vI (celF xs L 0), vI 4] σ (fun r13 s14 => (-2147483648 ≤ 1 + r13 ∧ 1 + r13 ≤ 2147483647) ∧ MWF l G mL (FL b L xs κ) 67 [(0, vR 228), (1, vR 0), (2, vR 56), (3, vI (1 + r13)), (4, vI 0)] [] s14)) :
    MWF l G mL (FL b L xs κ) 52 [(0, vR 228), (1, vR 0), (2, vR 56)] [] σ := by
  refine r_iconst dL_law_52 (by decide) ?_
  refine r_aload_n 0 dL_law_53 rfl rfl ?_
  refine r_iconst dL_law_54 (by decide) ?_
  refine r_cell hb2 hL dL_law_55 lm_L_122 (by decide) ?_
  refine r_iconst dL_law_58 (by decide) ?_
  refine r_callS [vI (celF xs L 0), vI 4] [vI 1] dL_law_59 okL_low ssL_low lm_L_66 rfl rfl ⟨Nat.le_of_ble_eq_true rfl, Nat.le_of_ble_eq_true rfl, Nat.le_of_ble_eq_true rfl, Nat.le_of_ble_eq_true rfl⟩ h ?_
  rintro _ s14 ⟨r13, rfl, h⟩
  obtain ⟨b15, h⟩ := h
  refine r_iadd dL_law_62 b15 ?_
  refine r_istore_n dL_law_63 rfl (by decide) rfl ?_
  refine r_iconst dL_law_64 (by decide) ?_
  refine r_istore dL_law_65 (by decide) rfl ?_
  refine MWF.sub [2, 3, 4, 1, 0] rfl ?_
  exact h
set_option maxRecDepth 100000 in
set_option maxHeartbeats 4000000 in
theorem vcL_law_67 (l : Launch) (G : GT) (hx0 : G.2.2.2.2 = 0) (hb2 : G.2.2.1 228 = b) (hL : L ≤ 260) (hκ : κ ≤ 100) (σ : Sto) (x3 : Int) (x4 : Int)
    (h : (x3 ≤ x4 → MWF l G mL (FL b L xs κ) 197 [(0, vR 228), (1, vR 0), (2, vR 56)] [] σ) ∧ (¬ (x3 ≤ x4) → (-2147483648 ≤ 1 + x4 ∧ 1 + x4 ≤ 2147483647) ∧ (0 ≤ (1 + x4) ∧ (1 + x4) ≤ 300) ∧ (-2147483648 ≤ 2 * x4 ∧ 2 * x4 ≤ 2147483647) ∧ (-2147483648 ≤ 48 + (2 * x4) ∧ 48 + (2 * x4) ≤ 2147483647) ∧ CLi l G mL_low [vI (celF xs L (1 + x4)), vI 40] σ (fun r21 s22 => (0 ≤ (48 + (2 * x4)) ∧ (48 + (2 * x4)) < 64) ∧ (-2147483648 ≤ 49 + (2 * x4) ∧ 49 + (2 * x4) ≤ 2147483647) ∧ CLi l G mL_low [vI (shrI (celF xs L (1 + x4)) 6), vI 40] (stS s22 56 (48 + (2 * x4)).toNat r21) (fun r25 s26 => (0 ≤ (49 + (2 * x4)) ∧ (49 + (2 * x4)) < 64) ∧ CLi l G mL_low [vI (shrI (celF xs L (1 + x4)) 12), vI 100] (stS s26 56 (49 + (2 * x4)).toNat r25) (fun r28 s29 => CLi l G mL_low [vI (shrI (celF xs L (1 + x4)) 19), vI 6] s29 (fun r30 s31 => (-2147483648 ≤ 1 + r30 ∧ 1 + r30 ≤ 2147483647) ∧ (-2147483648 ≤ r28 + 200 ∧ r28 + 200 ≤ 2147483647) ∧ CLi l G mL_low [vI (shrI (celF xs L (1 + x4)) 22), vI 400] s31 (fun r34 s35 => (-2147483648 ≤ (r28 + 200) + r34 ∧ (r28 + 200) + r34 ≤ 2147483647) ∧ CLi l G mX7_addVehicle [vR 0, vI (s29 56 (48 + (2 * x4)).toNat), vI (s29 56 (49 + (2 * x4)).toNat), vI (1 + r30), vI r28, vI ((r28 + 200) + r34)] s35 (fun r37 s38 => (r37 = x4 → (-2147483648 ≤ x4 + 1 ∧ x4 + 1 ≤ 2147483647) ∧ MWF l G mL (FL b L xs κ) 67 [(0, vR 228), (1, vR 0), (2, vR 56), (3, vI x3), (4, vI (x4 + 1))] [] s38) ∧ (¬ (r37 = x4) → False))))))))) :
    MWF l G mL (FL b L xs κ) 67 [(0, vR 228), (1, vR 0), (2, vR 56), (3, vI x3), (4, vI x4)] [] σ := by
  refine r_iload 4 dL_law_67 rfl ?_
  refine r_iload_n 3 dL_law_69 rfl rfl ?_
  refine r_icmp_ge (tgt := 197) dL_law_70 (by decide) (fun (c16 : x3 ≤ x4) => ?_) (fun (c16 : ¬ (x3 ≤ x4)) => ?_)
  · replace h := h.1 c16
    refine MWF.sub [0, 1, 2] rfl ?_
    exact h
  · replace h := h.2 c16
    refine r_aload_n 0 dL_law_73 rfl rfl ?_
    refine r_iconst dL_law_74 (by decide) ?_
    refine r_iload 4 dL_law_75 rfl ?_
    obtain ⟨b17, h⟩ := h
    refine r_iadd dL_law_77 b17 ?_
    obtain ⟨b18, h⟩ := h
    refine r_cell hb2 hL dL_law_78 lm_L_122 b18 ?_
    refine r_istore dL_law_81 (by decide) rfl ?_
    refine r_aload_n 3 dL_law_83 rfl rfl ?_
    refine r_bipush dL_law_84 (by decide) (by decide) ?_
    refine r_iconst dL_law_86 (by decide) ?_
    refine r_iload 5 dL_law_87 rfl ?_
    obtain ⟨b19, h⟩ := h
    refine r_imul dL_law_89 b19 ?_
    obtain ⟨b20, h⟩ := h
    refine r_iadd dL_law_90 b20 ?_
    refine r_iload 0 dL_law_91 rfl ?_
    refine r_bipush dL_law_93 (by decide) (by decide) ?_
    refine r_callS [vI (celF xs L (1 + x4)), vI 40] [vI (48 + (2 * x4)), vR 56] dL_law_95 okL_low ssL_low lm_L_66 rfl rfl ⟨Nat.le_of_ble_eq_true rfl, Nat.le_of_ble_eq_true rfl, Nat.le_of_ble_eq_true rfl, Nat.le_of_ble_eq_true rfl⟩ h ?_
    rintro _ s22 ⟨r21, rfl, h⟩
    obtain ⟨b23, h⟩ := h
    refine r_iast dL_law_98 sh_56 b23.1 b23.2 ?_
    refine r_aload_n 3 dL_law_99 rfl rfl ?_
    refine r_bipush dL_law_100 (by decide) (by decide) ?_
    refine r_iconst dL_law_102 (by decide) ?_
    refine r_iload 5 dL_law_103 rfl ?_
    refine r_imul dL_law_105 b19 ?_
    obtain ⟨b24, h⟩ := h
    refine r_iadd dL_law_106 b24 ?_
    refine r_iload 0 dL_law_107 rfl ?_
    refine r_bipush dL_law_109 (by decide) (by decide) ?_
    refine r_ishr dL_law_111 ?_
    refine r_bipush dL_law_112 (by decide) (by decide) ?_
    refine r_callS [vI (shrI (celF xs L (1 + x4)) 6), vI 40] [vI (49 + (2 * x4)), vR 56] dL_law_114 okL_low ssL_low lm_L_66 rfl rfl ⟨Nat.le_of_ble_eq_true rfl, Nat.le_of_ble_eq_true rfl, Nat.le_of_ble_eq_true rfl, Nat.le_of_ble_eq_true rfl⟩ h ?_
    rintro _ s26 ⟨r25, rfl, h⟩
    obtain ⟨b27, h⟩ := h
    refine r_iast dL_law_117 sh_56 b27.1 b27.2 ?_
    refine r_iload 0 dL_law_118 rfl ?_
    refine r_bipush dL_law_120 (by decide) (by decide) ?_
    refine r_ishr dL_law_122 ?_
    refine r_bipush dL_law_123 (by decide) (by decide) ?_
    refine r_callS [vI (shrI (celF xs L (1 + x4)) 12), vI 100] [] dL_law_125 okL_low ssL_low lm_L_66 rfl rfl ⟨Nat.le_of_ble_eq_true rfl, Nat.le_of_ble_eq_true rfl, Nat.le_of_ble_eq_true rfl, Nat.le_of_ble_eq_true rfl⟩ h ?_
    rintro _ s29 ⟨r28, rfl, h⟩
    refine r_istore dL_law_128 (by decide) rfl ?_
    refine r_aload_n 3 dL_law_130 rfl rfl ?_
    refine r_aload_n 4 dL_law_131 rfl rfl ?_
    refine r_bipush dL_law_132 (by decide) (by decide) ?_
    refine r_iconst dL_law_134 (by decide) ?_
    refine r_iload 6 dL_law_135 rfl ?_
    refine r_imul dL_law_137 b19 ?_
    refine r_iadd dL_law_138 b20 ?_
    refine r_iald dL_law_139 sh_56 b23.1 b23.2 ?_
    refine r_aload_n 4 dL_law_140 rfl rfl ?_
    refine r_bipush dL_law_141 (by decide) (by decide) ?_
    refine r_iconst dL_law_143 (by decide) ?_
    refine r_iload 6 dL_law_144 rfl ?_
    refine r_imul dL_law_146 b19 ?_
    refine r_iadd dL_law_147 b24 ?_
    refine r_iald dL_law_148 sh_56 b27.1 b27.2 ?_
    refine r_iconst dL_law_149 (by decide) ?_
    refine r_iload 1 dL_law_150 rfl ?_
    refine r_bipush dL_law_152 (by decide) (by decide) ?_
    refine r_ishr dL_law_154 ?_
    refine r_bipush dL_law_155 (by decide) (by decide) ?_
    refine r_callS [vI (shrI (celF xs L (1 + x4)) 19), vI 6] [vI 1, vI (s29 56 (49 + (2 * x4)).toNat), vI (s29 56 (48 + (2 * x4)).toNat), vR 0] dL_law_157 okL_low ssL_low lm_L_66 rfl rfl ⟨Nat.le_of_ble_eq_true rfl, Nat.le_of_ble_eq_true rfl, Nat.le_of_ble_eq_true rfl, Nat.le_of_ble_eq_true rfl⟩ h ?_
    rintro _ s31 ⟨r30, rfl, h⟩
    obtain ⟨b32, h⟩ := h
    refine r_iadd dL_law_160 b32 ?_
    refine r_iload 0 dL_law_161 rfl ?_
    refine r_iload 0 dL_law_163 rfl ?_
    refine r_sipush dL_law_165 (by decide) (by decide) ?_
    obtain ⟨b33, h⟩ := h
    refine r_iadd dL_law_168 b33 ?_
    refine r_iload 1 dL_law_169 rfl ?_
    refine r_bipush dL_law_171 (by decide) (by decide) ?_
    refine r_ishr dL_law_173 ?_
    refine r_sipush dL_law_174 (by decide) (by decide) ?_
    refine r_callS [vI (shrI (celF xs L (1 + x4)) 22), vI 400] [vI (r28 + 200), vI r28, vI (1 + r30), vI (s29 56 (49 + (2 * x4)).toNat), vI (s29 56 (48 + (2 * x4)).toNat), vR 0] dL_law_177 okL_low ssL_low lm_L_66 rfl rfl ⟨Nat.le_of_ble_eq_true rfl, Nat.le_of_ble_eq_true rfl, Nat.le_of_ble_eq_true rfl, Nat.le_of_ble_eq_true rfl⟩ h ?_
    rintro _ s35 ⟨r34, rfl, h⟩
    obtain ⟨b36, h⟩ := h
    refine r_iadd dL_law_180 b36 ?_
    refine r_callV [vI (s29 56 (48 + (2 * x4)).toNat), vI (s29 56 (49 + (2 * x4)).toNat), vI (1 + r30), vI r28, vI ((r28 + 200) + r34)] [] dL_law_181 okX7_addVehicle ivX7_addVehicle seX7_addVehicle lm_L_90 rfl rfl sh_0 rfl ⟨Nat.le_of_ble_eq_true rfl, Nat.le_of_ble_eq_true rfl, Nat.le_of_ble_eq_true rfl, Nat.le_of_ble_eq_true rfl⟩ h ?_
    rintro _ s38 ⟨r37, rfl, h⟩
    refine r_iload 6 dL_law_184 rfl ?_
    refine r_icmp_eq (tgt := 191) dL_law_186 (by decide) (fun (c39 : r37 = x4) => ?_) (fun (c39 : ¬ (r37 = x4)) => ?_)
    · replace h := h.1 c39
      obtain ⟨b40, h⟩ := h
      refine r_iinc 6 dL_law_191 rfl (by decide) b40 rfl ?_
      refine r_goto (tgt := 67) dL_law_194 (by decide) ?_
      refine MWF.sub [3, 4, 5, 6, 0] rfl ?_
      exact h
    · replace h := h.2 c39
      refine r_iconst dL_law_189 (by decide) ?_
      exact h.elim
set_option maxRecDepth 100000 in
set_option maxHeartbeats 4000000 in
theorem vcL_law_197 (l : Launch) (G : GT) (hx0 : G.2.2.2.2 = 0) (hb2 : G.2.2.1 228 = b) (hL : L ≤ 260) (hκ : κ ≤ 100) (σ : Sto) 
    (h : CLi l G mL_low [vI (celF xs L 5), vI 7] σ (fun r41 s42 => (-2147483648 ≤ 2 + r41 ∧ 2 + r41 ≤ 2147483647) ∧ MWF l G mL (FL b L xs κ) 214 [(0, vR 228), (1, vR 0), (2, vR 56), (4, vI (2 + r41)), (5, vI 0)] [] s42)) :
    MWF l G mL (FL b L xs κ) 197 [(0, vR 228), (1, vR 0), (2, vR 56)] [] σ := by
  refine r_iconst dL_law_197 (by decide) ?_
  refine r_aload_n 0 dL_law_198 rfl rfl ?_
  refine r_iconst dL_law_199 (by decide) ?_
  refine r_cell hb2 hL dL_law_200 lm_L_122 (by decide) ?_
  refine r_bipush dL_law_203 (by decide) (by decide) ?_
  refine r_callS [vI (celF xs L 5), vI 7] [vI 2] dL_law_205 okL_low ssL_low lm_L_66 rfl rfl ⟨Nat.le_of_ble_eq_true rfl, Nat.le_of_ble_eq_true rfl, Nat.le_of_ble_eq_true rfl, Nat.le_of_ble_eq_true rfl⟩ h ?_
  rintro _ s42 ⟨r41, rfl, h⟩
  obtain ⟨b43, h⟩ := h
  refine r_iadd dL_law_208 b43 ?_
  refine r_istore dL_law_209 (by decide) rfl ?_
  refine r_iconst dL_law_211 (by decide) ?_
  refine r_istore dL_law_212 (by decide) rfl ?_
  refine MWF.sub [2, 3, 4, 1, 0] rfl ?_
  exact h
set_option maxRecDepth 100000 in
set_option maxHeartbeats 4000000 in
theorem vcL_law_214 (l : Launch) (G : GT) (hx0 : G.2.2.2.2 = 0) (hb2 : G.2.2.1 228 = b) (hL : L ≤ 260) (hκ : κ ≤ 100) (σ : Sto) (x4 : Int) (x5 : Int)
    (h : (x4 ≤ x5 → MWF l G mL (FL b L xs κ) 405 [(0, vR 228), (1, vR 0), (2, vR 56), (4, vI x4)] [] σ) ∧ (¬ (x4 ≤ x5) → (-2147483648 ≤ 6 + x5 ∧ 6 + x5 ≤ 2147483647) ∧ (0 ≤ (6 + x5) ∧ (6 + x5) ≤ 300) ∧ (-2147483648 ≤ 14 + x5 ∧ 14 + x5 ≤ 2147483647) ∧ (0 ≤ (14 + x5) ∧ (14 + x5) ≤ 300) ∧ MWF l G mL (FL b L xs κ) 246 [(0, vR 228), (1, vR 0), (2, vR 56), (4, vI x4), (5, vI x5), (6, vI (celF xs L (6 + x5))), (7, vI (celF xs L (14 + x5))), (8, vI 0)] [] σ)) :
    MWF l G mL (FL b L xs κ) 214 [(0, vR 228), (1, vR 0), (2, vR 56), (4, vI x4), (5, vI x5)] [] σ := by
  refine r_iload 4 dL_law_214 rfl ?_
  refine r_iload 3 dL_law_216 rfl ?_
  refine r_icmp_ge (tgt := 405) dL_law_218 (by decide) (fun (c44 : x4 ≤ x5) => ?_) (fun (c44 : ¬ (x4 ≤ x5)) => ?_)
  · replace h := h.1 c44
    refine MWF.sub [0, 1, 2, 3] rfl ?_
    exact h
  · replace h := h.2 c44
    refine r_aload_n 0 dL_law_221 rfl rfl ?_
    refine r_bipush dL_law_222 (by decide) (by decide) ?_
    refine r_iload 4 dL_law_224 rfl ?_
    obtain ⟨b45, h⟩ := h
    refine r_iadd dL_law_226 b45 ?_
    obtain ⟨b46, h⟩ := h
    refine r_cell hb2 hL dL_law_227 lm_L_122 b46 ?_
    refine r_istore dL_law_230 (by decide) rfl ?_
    refine r_aload_n 1 dL_law_232 rfl rfl ?_
    refine r_bipush dL_law_233 (by decide) (by decide) ?_
    refine r_iload 5 dL_law_235 rfl ?_
    obtain ⟨b47, h⟩ := h
    refine r_iadd dL_law_237 b47 ?_
    obtain ⟨b48, h⟩ := h
    refine r_cell hb2 hL dL_law_238 lm_L_122 b48 ?_
    refine r_istore dL_law_241 (by decide) rfl ?_
    refine r_iconst dL_law_243 (by decide) ?_
    refine r_istore dL_law_244 (by decide) rfl ?_
    refine MWF.sub [3, 4, 5, 6, 7, 2, 1, 0] rfl ?_
    exact h
set_option maxRecDepth 100000 in
set_option maxHeartbeats 4000000 in
theorem vcL_law_405 (l : Launch) (G : GT) (hx0 : G.2.2.2.2 = 0) (hb2 : G.2.2.1 228 = b) (hL : L ≤ 260) (hκ : κ ≤ 100) (σ : Sto) (x4 : Int)
    (h : MWF l G mL (FL b L xs κ) 411 [(0, vR 228), (1, vR 0), (2, vR 56), (4, vI x4), (5, vI 0), (6, vI 0)] [] σ) :
    MWF l G mL (FL b L xs κ) 405 [(0, vR 228), (1, vR 0), (2, vR 56), (4, vI x4)] [] σ := by
  refine r_iconst dL_law_405 (by decide) ?_
  refine r_istore dL_law_406 (by decide) rfl ?_
  refine r_iconst dL_law_408 (by decide) ?_
  refine r_istore dL_law_409 (by decide) rfl ?_
  refine MWF.sub [2, 3, 4, 5, 1, 0] rfl ?_
  exact h
set_option maxRecDepth 100000 in
set_option maxHeartbeats 4000000 in
theorem vcL_law_246 (l : Launch) (G : GT) (hx0 : G.2.2.2.2 = 0) (hb2 : G.2.2.1 228 = b) (hL : L ≤ 260) (hκ : κ ≤ 100) (σ : Sto) (x4 : Int) (x5 : Int) (x6 : Int) (x7 : Int) (x8 : Int)
    (h : (4 ≤ x8 → MWF l G mL (FL b L xs κ) 280 [(0, vR 228), (1, vR 0), (2, vR 56), (4, vI x4), (5, vI x5), (7, vI x7)] [] σ) ∧ (¬ (4 ≤ x8) → (-2147483648 ≤ 4 * x5 ∧ 4 * x5 ≤ 2147483647) ∧ (-2147483648 ≤ (4 * x5) + x8 ∧ (4 * x5) + x8 ≤ 2147483647) ∧ (-2147483648 ≤ 7 * x8 ∧ 7 * x8 ≤ 2147483647) ∧ CLi l G mL_low [vI (shrI x6 (7 * x8)), vI 40] σ (fun r53 s54 => (0 ≤ ((4 * x5) + x8) ∧ ((4 * x5) + x8) < 64) ∧ (-2147483648 ≤ x8 + 1 ∧ x8 + 1 ≤ 2147483647) ∧ MWF l G mL (FL b L xs κ) 246 [(0, vR 228), (1, vR 0), (2, vR 56), (4, vI x4), (5, vI x5), (6, vI x6), (7, vI x7), (8, vI (x8 + 1))] [] (stS s54 56 ((4 * x5) + x8).toNat r53)))) :
    MWF l G mL (FL b L xs κ) 246 [(0, vR 228), (1, vR 0), (2, vR 56), (4, vI x4), (5, vI x5), (6, vI x6), (7, vI x7), (8, vI x8)] [] σ := by
  refine r_iload 7 dL_law_246 rfl ?_
  refine r_iconst dL_law_248 (by decide) ?_
  refine r_icmp_ge (tgt := 280) dL_law_249 (by decide) (fun (c49 : 4 ≤ x8) => ?_) (fun (c49 : ¬ (4 ≤ x8)) => ?_)
  · replace h := h.1 c49
    refine MWF.sub [0, 1, 2, 3, 4, 6] rfl ?_
    exact h
  · replace h := h.2 c49
    refine r_aload_n 2 dL_law_252 rfl rfl ?_
    refine r_iconst dL_law_253 (by decide) ?_
    refine r_iload 4 dL_law_254 rfl ?_
    obtain ⟨b50, h⟩ := h
    refine r_imul dL_law_256 b50 ?_
    refine r_iload 7 dL_law_257 rfl ?_
    obtain ⟨b51, h⟩ := h
    refine r_iadd dL_law_259 b51 ?_
    refine r_iload 5 dL_law_260 rfl ?_
    refine r_bipush dL_law_262 (by decide) (by decide) ?_
    refine r_iload 7 dL_law_264 rfl ?_
    obtain ⟨b52, h⟩ := h
    refine r_imul dL_law_266 b52 ?_
    refine r_ishr dL_law_267 ?_
    refine r_bipush dL_law_268 (by decide) (by decide) ?_
    refine r_callS [vI (shrI x6 (7 * x8)), vI 40] [vI ((4 * x5) + x8), vR 56] dL_law_270 okL_low ssL_low lm_L_66 rfl rfl ⟨Nat.le_of_ble_eq_true rfl, Nat.le_of_ble_eq_true rfl, Nat.le_of_ble_eq_true rfl, Nat.le_of_ble_eq_true rfl⟩ h ?_
    rintro _ s54 ⟨r53, rfl, h⟩
    obtain ⟨b55, h⟩ := h
    refine r_iast dL_law_273 sh_56 b55.1 b55.2 ?_
    obtain ⟨b56, h⟩ := h
    refine r_iinc 7 dL_law_274 rfl (by decide) b56 rfl ?_
    refine r_goto (tgt := 246) dL_law_277 (by decide) ?_
    refine MWF.sub [1, 2, 3, 4, 5, 6, 7, 0] rfl ?_
    exact h
set_option maxRecDepth 100000 in
set_option maxHeartbeats 4000000 in
theorem vcL_law_411 (l : Launch) (G : GT) (hx0 : G.2.2.2.2 = 0) (hb2 : G.2.2.1 228 = b) (hL : L ≤ 260) (hκ : κ ≤ 100) (σ : Sto) (x4 : Int) (x5 : Int) (x6 : Int)
    (h : (26 ≤ x6 → CLi l G mL_errors [vR 0] σ (fun r58 s59 => r58 = 1)) ∧ (¬ (26 ≤ x6) → (-2147483648 ≤ 22 + x6 ∧ 22 + x6 ≤ 2147483647) ∧ (0 ≤ (22 + x6) ∧ (22 + x6) ≤ 300) ∧ CLi l G mL_low [vI (celF xs L (22 + x6)), vI 14] σ (fun r62 s63 => CLi l G mL_low [vI (shrI (celF xs L (22 + x6)) 4), vI x4] s63 (fun r64 s65 => CLi l G mX7_request [vR 0, vI r64, vI 0] s65 (fun r66 s67 => (r66 = (-1007) → MWF l G mL (FL b L xs κ) 467 [(0, vR 228), (1, vR 0), (2, vR 56), (4, vI x4), (5, vI x5), (6, vI x6), (7, vI (celF xs L (22 + x6))), (8, vI r62), (9, vI r64)] [vI 1] s67) ∧ (¬ (r66 = (-1007)) → MWF l G mL (FL b L xs κ) 467 [(0, vR 228), (1, vR 0), (2, vR 56), (4, vI x4), (5, vI x5), (6, vI x6), (7, vI (celF xs L (22 + x6))), (8, vI r62), (9, vI r64)] [vI 0] s67)))))) :
    MWF l G mL (FL b L xs κ) 411 [(0, vR 228), (1, vR 0), (2, vR 56), (4, vI x4), (5, vI x5), (6, vI x6)] [] σ := by
  refine r_iload 5 dL_law_411 rfl ?_
  refine r_bipush dL_law_413 (by decide) (by decide) ?_
  refine r_icmp_ge (tgt := 1272) dL_law_415 (by decide) (fun (c57 : 26 ≤ x6) => ?_) (fun (c57 : ¬ (26 ≤ x6)) => ?_)
  · replace h := h.1 c57
    refine r_aload_n 1 dL_law_1272 rfl rfl ?_
    refine r_callS [vR 0] [] dL_law_1273 okL_errors ssL_errors lm_L_138 rfl rfl ⟨Nat.le_of_ble_eq_true rfl, Nat.le_of_ble_eq_true rfl, Nat.le_of_ble_eq_true rfl, Nat.le_of_ble_eq_true rfl⟩ h ?_
    rintro _ s59 ⟨r58, rfl, h⟩
    rw [h]
    exact r_lret dL_law_1276
  · replace h := h.2 c57
    refine r_aload_n 0 dL_law_418 rfl rfl ?_
    refine r_bipush dL_law_419 (by decide) (by decide) ?_
    refine r_iload 5 dL_law_421 rfl ?_
    obtain ⟨b60, h⟩ := h
    refine r_iadd dL_law_423 b60 ?_
    obtain ⟨b61, h⟩ := h
    refine r_cell hb2 hL dL_law_424 lm_L_122 b61 ?_
    refine r_istore dL_law_427 (by decide) rfl ?_
    refine r_iload 0 dL_law_429 rfl ?_
    refine r_bipush dL_law_431 (by decide) (by decide) ?_
    refine r_callS [vI (celF xs L (22 + x6)), vI 14] [] dL_law_433 okL_low ssL_low lm_L_66 rfl rfl ⟨Nat.le_of_ble_eq_true rfl, Nat.le_of_ble_eq_true rfl, Nat.le_of_ble_eq_true rfl, Nat.le_of_ble_eq_true rfl⟩ h ?_
    rintro _ s63 ⟨r62, rfl, h⟩
    refine r_istore dL_law_436 (by decide) rfl ?_
    refine r_iload 1 dL_law_438 rfl ?_
    refine r_iconst dL_law_440 (by decide) ?_
    refine r_ishr dL_law_441 ?_
    refine r_iload 5 dL_law_442 rfl ?_
    refine r_callS [vI (shrI (celF xs L (22 + x6)) 4), vI x4] [] dL_law_444 okL_low ssL_low lm_L_66 rfl rfl ⟨Nat.le_of_ble_eq_true rfl, Nat.le_of_ble_eq_true rfl, Nat.le_of_ble_eq_true rfl, Nat.le_of_ble_eq_true rfl⟩ h ?_
    rintro _ s65 ⟨r64, rfl, h⟩
    refine r_istore dL_law_447 (by decide) rfl ?_
    refine r_aload_n 4 dL_law_449 rfl rfl ?_
    refine r_iload 0 dL_law_450 rfl ?_
    refine r_iconst dL_law_452 (by decide) ?_
    refine r_callV [vI r64, vI 0] [] dL_law_453 okX7_request ivX7_request seX7_request lm_L_36 rfl rfl sh_0 rfl ⟨Nat.le_of_ble_eq_true rfl, Nat.le_of_ble_eq_true rfl, Nat.le_of_ble_eq_true rfl, Nat.le_of_ble_eq_true rfl⟩ h ?_
    rintro _ s67 ⟨r66, rfl, h⟩
    refine r_sipush dL_law_456 (by decide) (by decide) ?_
    refine r_icmp_ne (tgt := 466) dL_law_459 (by decide) (fun (c68 : r66 = (-1007)) => ?_) (fun (c68 : ¬ (r66 = (-1007))) => ?_)
    · replace h := h.1 c68
      refine r_iconst dL_law_462 (by decide) ?_
      refine r_goto (tgt := 467) dL_law_463 (by decide) ?_
      refine MWF.sub [3, 4, 5, 6, 7, 8, 2, 1, 0] rfl ?_
      exact h
    · replace h := h.2 c68
      refine r_iconst dL_law_466 (by decide) ?_
      refine MWF.sub [3, 4, 5, 6, 7, 8, 2, 1, 0] rfl ?_
      exact h
set_option maxRecDepth 100000 in
set_option maxHeartbeats 4000000 in
theorem vcL_law_280 (l : Launch) (G : GT) (hx0 : G.2.2.2.2 = 0) (hb2 : G.2.2.1 228 = b) (hL : L ≤ 260) (hκ : κ ≤ 100) (σ : Sto) (x4 : Int) (x5 : Int) (x7 : Int)
    (h : (-2147483648 ≤ 4 * x5 ∧ 4 * x5 ≤ 2147483647) ∧ (0 ≤ (4 * x5) ∧ (4 * x5) < 64) ∧ (-2147483648 ≤ (4 * x5) + 1 ∧ (4 * x5) + 1 ≤ 2147483647) ∧ (0 ≤ ((4 * x5) + 1) ∧ ((4 * x5) + 1) < 64) ∧ (-2147483648 ≤ (4 * x5) + 2 ∧ (4 * x5) + 2 ≤ 2147483647) ∧ (0 ≤ ((4 * x5) + 2) ∧ ((4 * x5) + 2) < 64) ∧ (-2147483648 ≤ (4 * x5) + 3 ∧ (4 * x5) + 3 ≤ 2147483647) ∧ (0 ≤ ((4 * x5) + 3) ∧ ((4 * x5) + 3) < 64) ∧ CLi l G mL_low [vI x7, vI 3] σ (fun r77 s78 => (-2147483648 ≤ 1 + r77 ∧ 1 + r77 ≤ 2147483647) ∧ CLi l G mL_low [vI (shrI x7 2), vI 150] s78 (fun r80 s81 => (-2147483648 ≤ 20 + r80 ∧ 20 + r80 ≤ 2147483647) ∧ CLi l G mX7_addRequest [vR 0, vI (σ 56 (4 * x5).toNat), vI (σ 56 ((4 * x5) + 1).toNat), vI (σ 56 ((4 * x5) + 2).toNat), vI (σ 56 ((4 * x5) + 3).toNat), vI (1 + r77), vI (20 + r80)] s81 (fun r83 s84 => (r83 = x5 → CLi l G mL_low [vI (shrI x7 10), vI 200] s84 (fun r86 s87 => ∀ y89 : Int, y89 = (if (andI x7 1) = 1 then 1 else 0) → (-2147483648 ≤ r86 + 30 ∧ r86 + 30 ≤ 2147483647) ∧ CLi l G mL_low [vI (shrI x7 18), vI 300] s87 (fun r94 s95 => (-2147483648 ≤ (r86 + 30) + r94 ∧ (r86 + 30) + r94 ≤ 2147483647) ∧ CLi l G mX7_setWindow [vR 0, vI x5, vI y89, vI r86, vI ((r86 + 30) + r94)] s95 (fun r97 s98 => (r97 = 1 → (-2147483648 ≤ x5 + 1 ∧ x5 + 1 ≤ 2147483647) ∧ MWF l G mL (FL b L xs κ) 214 [(0, vR 228), (1, vR 0), (2, vR 56), (4, vI x4), (5, vI (x5 + 1))] [] s98) ∧ (¬ (r97 = 1) → False))))) ∧ (¬ (r83 = x5) → False))))) :
    MWF l G mL (FL b L xs κ) 280 [(0, vR 228), (1, vR 0), (2, vR 56), (4, vI x4), (5, vI x5), (7, vI x7)] [] σ := by
  refine r_aload_n 1 dL_law_280 rfl rfl ?_
  refine r_aload_n 2 dL_law_281 rfl rfl ?_
  refine r_iconst dL_law_282 (by decide) ?_
  refine r_iload 4 dL_law_283 rfl ?_
  obtain ⟨b69, h⟩ := h
  refine r_imul dL_law_285 b69 ?_
  obtain ⟨b70, h⟩ := h
  refine r_iald dL_law_286 sh_56 b70.1 b70.2 ?_
  refine r_aload_n 2 dL_law_287 rfl rfl ?_
  refine r_iconst dL_law_288 (by decide) ?_
  refine r_iload 4 dL_law_289 rfl ?_
  refine r_imul dL_law_291 b69 ?_
  refine r_iconst dL_law_292 (by decide) ?_
  obtain ⟨b71, h⟩ := h
  refine r_iadd dL_law_293 b71 ?_
  obtain ⟨b72, h⟩ := h
  refine r_iald dL_law_294 sh_56 b72.1 b72.2 ?_
  refine r_aload_n 2 dL_law_295 rfl rfl ?_
  refine r_iconst dL_law_296 (by decide) ?_
  refine r_iload 4 dL_law_297 rfl ?_
  refine r_imul dL_law_299 b69 ?_
  refine r_iconst dL_law_300 (by decide) ?_
  obtain ⟨b73, h⟩ := h
  refine r_iadd dL_law_301 b73 ?_
  obtain ⟨b74, h⟩ := h
  refine r_iald dL_law_302 sh_56 b74.1 b74.2 ?_
  refine r_aload_n 2 dL_law_303 rfl rfl ?_
  refine r_iconst dL_law_304 (by decide) ?_
  refine r_iload 4 dL_law_305 rfl ?_
  refine r_imul dL_law_307 b69 ?_
  refine r_iconst dL_law_308 (by decide) ?_
  obtain ⟨b75, h⟩ := h
  refine r_iadd dL_law_309 b75 ?_
  obtain ⟨b76, h⟩ := h
  refine r_iald dL_law_310 sh_56 b76.1 b76.2 ?_
  refine r_iconst dL_law_311 (by decide) ?_
  refine r_iload 5 dL_law_312 rfl ?_
  refine r_iconst dL_law_314 (by decide) ?_
  refine r_callS [vI x7, vI 3] [vI 1, vI (σ 56 ((4 * x5) + 3).toNat), vI (σ 56 ((4 * x5) + 2).toNat), vI (σ 56 ((4 * x5) + 1).toNat), vI (σ 56 (4 * x5).toNat), vR 0] dL_law_315 okL_low ssL_low lm_L_66 rfl rfl ⟨Nat.le_of_ble_eq_true rfl, Nat.le_of_ble_eq_true rfl, Nat.le_of_ble_eq_true rfl, Nat.le_of_ble_eq_true rfl⟩ h ?_
  rintro _ s78 ⟨r77, rfl, h⟩
  obtain ⟨b79, h⟩ := h
  refine r_iadd dL_law_318 b79 ?_
  refine r_bipush dL_law_319 (by decide) (by decide) ?_
  refine r_iload 5 dL_law_321 rfl ?_
  refine r_iconst dL_law_323 (by decide) ?_
  refine r_ishr dL_law_324 ?_
  refine r_sipush dL_law_325 (by decide) (by decide) ?_
  refine r_callS [vI (shrI x7 2), vI 150] [vI 20, vI (1 + r77), vI (σ 56 ((4 * x5) + 3).toNat), vI (σ 56 ((4 * x5) + 2).toNat), vI (σ 56 ((4 * x5) + 1).toNat), vI (σ 56 (4 * x5).toNat), vR 0] dL_law_328 okL_low ssL_low lm_L_66 rfl rfl ⟨Nat.le_of_ble_eq_true rfl, Nat.le_of_ble_eq_true rfl, Nat.le_of_ble_eq_true rfl, Nat.le_of_ble_eq_true rfl⟩ h ?_
  rintro _ s81 ⟨r80, rfl, h⟩
  obtain ⟨b82, h⟩ := h
  refine r_iadd dL_law_331 b82 ?_
  refine r_callV [vI (σ 56 (4 * x5).toNat), vI (σ 56 ((4 * x5) + 1).toNat), vI (σ 56 ((4 * x5) + 2).toNat), vI (σ 56 ((4 * x5) + 3).toNat), vI (1 + r77), vI (20 + r80)] [] dL_law_332 okX7_addRequest ivX7_addRequest seX7_addRequest lm_L_94 rfl rfl sh_0 rfl ⟨Nat.le_of_ble_eq_true rfl, Nat.le_of_ble_eq_true rfl, Nat.le_of_ble_eq_true rfl, Nat.le_of_ble_eq_true rfl⟩ h ?_
  rintro _ s84 ⟨r83, rfl, h⟩
  refine r_iload 4 dL_law_335 rfl ?_
  refine r_icmp_eq (tgt := 342) dL_law_337 (by decide) (fun (c85 : r83 = x5) => ?_) (fun (c85 : ¬ (r83 = x5)) => ?_)
  · replace h := h.1 c85
    refine r_iload 5 dL_law_342 rfl ?_
    refine r_bipush dL_law_344 (by decide) (by decide) ?_
    refine r_ishr dL_law_346 ?_
    refine r_sipush dL_law_347 (by decide) (by decide) ?_
    refine r_callS [vI (shrI x7 10), vI 200] [] dL_law_350 okL_low ssL_low lm_L_66 rfl rfl ⟨Nat.le_of_ble_eq_true rfl, Nat.le_of_ble_eq_true rfl, Nat.le_of_ble_eq_true rfl, Nat.le_of_ble_eq_true rfl⟩ h ?_
    rintro _ s87 ⟨r86, rfl, h⟩
    refine r_istore dL_law_353 (by decide) rfl ?_
    refine r_aload_n 2 dL_law_355 rfl rfl ?_
    refine r_iload 5 dL_law_356 rfl ?_
    refine r_iload 6 dL_law_358 rfl ?_
    refine r_iconst dL_law_360 (by decide) ?_
    refine r_iand dL_law_361 ?_
    refine r_iconst dL_law_362 (by decide) ?_
    obtain ⟨y89, ey89⟩ : ∃ z : Int, z = (if (andI x7 1) = 1 then 1 else 0) := ⟨_, rfl⟩
    replace h := h y89 ey89
    have hj90 : MWF l G mL (FL b L xs κ) 371 [(0, vR 228), (1, vR 0), (2, vR 56), (4, vI x4), (5, vI x5), (7, vI x7), (8, vI r86)] [vI y89, vI x5, vR 0] s87 := by
      refine r_iload 6 dL_law_371 rfl ?_
      refine r_iload 6 dL_law_373 rfl ?_
      refine r_bipush dL_law_375 (by decide) (by decide) ?_
      obtain ⟨b93, h⟩ := h
      refine r_iadd dL_law_377 b93 ?_
      refine r_iload 5 dL_law_378 rfl ?_
      refine r_bipush dL_law_380 (by decide) (by decide) ?_
      refine r_ishr dL_law_382 ?_
      refine r_sipush dL_law_383 (by decide) (by decide) ?_
      refine r_callS [vI (shrI x7 18), vI 300] [vI (r86 + 30), vI r86, vI y89, vI x5, vR 0] dL_law_386 okL_low ssL_low lm_L_66 rfl rfl ⟨Nat.le_of_ble_eq_true rfl, Nat.le_of_ble_eq_true rfl, Nat.le_of_ble_eq_true rfl, Nat.le_of_ble_eq_true rfl⟩ h ?_
      rintro _ s95 ⟨r94, rfl, h⟩
      obtain ⟨b96, h⟩ := h
      refine r_iadd dL_law_389 b96 ?_
      refine r_callV [vI x5, vI y89, vI r86, vI ((r86 + 30) + r94)] [] dL_law_390 okX7_setWindow ivX7_setWindow seX7_setWindow lm_L_98 rfl rfl sh_0 rfl ⟨Nat.le_of_ble_eq_true rfl, Nat.le_of_ble_eq_true rfl, Nat.le_of_ble_eq_true rfl, Nat.le_of_ble_eq_true rfl⟩ h ?_
      rintro _ s98 ⟨r97, rfl, h⟩
      refine r_iconst dL_law_393 (by decide) ?_
      refine r_icmp_eq (tgt := 399) dL_law_394 (by decide) (fun (c99 : r97 = 1) => ?_) (fun (c99 : ¬ (r97 = 1)) => ?_)
      · replace h := h.1 c99
        obtain ⟨b100, h⟩ := h
        refine r_iinc 4 dL_law_399 rfl (by decide) b100 rfl ?_
        refine r_goto (tgt := 214) dL_law_402 (by decide) ?_
        refine MWF.sub [1, 2, 3, 4, 0] rfl ?_
        exact h
      · replace h := h.2 c99
        refine r_iconst dL_law_397 (by decide) ?_
        exact h.elim
    refine r_icmp_ne (tgt := 370) dL_law_363 (by decide) (fun (c88 : (andI x7 1) = 1) => ?_) (fun (c88 : ¬ ((andI x7 1) = 1)) => ?_)
    · refine r_iconst dL_law_366 (by decide) ?_
      refine r_goto (tgt := 371) dL_law_367 (by decide) ?_
      refine MWF.sub [1, 2, 3, 4, 5, 6, 0] rfl ?_
      have q91 : y89 = 1 := by rw [ey89, if_pos c88]
      rw [q91] at hj90
      exact hj90
    · refine r_iconst dL_law_370 (by decide) ?_
      refine MWF.sub [1, 2, 3, 4, 5, 6, 0] rfl ?_
      have q92 : y89 = 0 := by rw [ey89, if_neg c88]
      rw [q92] at hj90
      exact hj90
  · replace h := h.2 c85
    refine r_iconst dL_law_340 (by decide) ?_
    exact h.elim
set_option maxRecDepth 100000 in
set_option maxHeartbeats 4000000 in
theorem vcL_law_467 (l : Launch) (G : GT) (hx0 : G.2.2.2.2 = 0) (hb2 : G.2.2.1 228 = b) (hL : L ≤ 260) (hκ : κ ≤ 100) (σ : Sto) (x4 : Int) (x5 : Int) (x6 : Int) (x7 : Int) (x8 : Int) (x9 : Int) (z0 : Int)
    (h : CLj l G mL_print [vR 0] σ (fun r101 s102 => CLi l G mX7_count [vR 0, vI 5] s102 (fun r103 s104 => (r103 = x5 → MWF l G mL (FL b L xs κ) 491 [(0, vR 228), (1, vR 0), (2, vR 56), (4, vI x4), (5, vI x5), (6, vI x6), (7, vI x7), (8, vI x8), (9, vI x9), (10, vI z0), (11, vJ r101), (13, vI r103)] [] s104) ∧ (¬ (r103 = x5) → False)))) :
    MWF l G mL (FL b L xs κ) 467 [(0, vR 228), (1, vR 0), (2, vR 56), (4, vI x4), (5, vI x5), (6, vI x6), (7, vI x7), (8, vI x8), (9, vI x9)] [vI z0] σ := by
  refine r_istore dL_law_467 (by decide) rfl ?_
  refine r_aload_n 2 dL_law_469 rfl rfl ?_
  refine r_callS [vR 0] [] dL_law_470 okL_print ssL_print lm_L_83 rfl rfl ⟨Nat.le_of_ble_eq_true rfl, Nat.le_of_ble_eq_true rfl, Nat.le_of_ble_eq_true rfl, Nat.le_of_ble_eq_true rfl⟩ h ?_
  rintro _ s102 ⟨r101, rfl, h⟩
  refine r_lstore dL_law_473 (by decide) rfl ?_
  refine r_aload_n 3 dL_law_475 rfl rfl ?_
  refine r_iconst dL_law_476 (by decide) ?_
  refine r_callV [vI 5] [] dL_law_477 okX7_count ivX7_count seX7_count lm_L_25 rfl rfl sh_0 rfl ⟨Nat.le_of_ble_eq_true rfl, Nat.le_of_ble_eq_true rfl, Nat.le_of_ble_eq_true rfl, Nat.le_of_ble_eq_true rfl⟩ h ?_
  rintro _ s104 ⟨r103, rfl, h⟩
  refine r_istore dL_law_480 (by decide) rfl ?_
  refine r_iload 0 dL_law_482 rfl ?_
  refine r_iload 7 dL_law_484 rfl ?_
  refine r_icmp_eq (tgt := 491) dL_law_486 (by decide) (fun (c105 : r103 = x5) => ?_) (fun (c105 : ¬ (r103 = x5)) => ?_)
  · replace h := h.1 c105
    refine MWF.sub [3, 4, 5, 6, 7, 8, 9, 10, 11, 2, 1, 0] rfl ?_
    exact h
  · replace h := h.2 c105
    refine r_iconst dL_law_489 (by decide) ?_
    exact h.elim
set_option maxRecDepth 100000 in
set_option maxHeartbeats 4000000 in
theorem vcL_law_491 (l : Launch) (G : GT) (hx0 : G.2.2.2.2 = 0) (hb2 : G.2.2.1 228 = b) (hL : L ≤ 260) (hκ : κ ≤ 100) (σ : Sto) (x4 : Int) (x5 : Int) (x6 : Int) (x7 : Int) (x8 : Int) (x9 : Int) (x10 : Int) (x11 : Int64) (x13 : Int)
    (h : (6 ≤ x8 → MWF l G mL (FL b L xs κ) 574 [(0, vR 228), (1, vR 0), (2, vR 56), (4, vI x4), (5, vI x5), (6, vI x6), (7, vI x7), (8, vI x8), (9, vI x9), (10, vI x10), (11, vJ x11), (13, vI x13)] [] σ) ∧ (¬ (6 ≤ x8) → (x10 = 0 → CLi l G mX7_assign [vR 0, vI x9] σ (fun r108 s109 => (r108 = (-1003) → CLi l G mX7_cost [vR 0, vI x9, vI 0, vI 0, vI 1] s109 (fun r111 s112 => (r111 = (-1003) → CLi l G mX7_best [vR 0, vI x9, vI 0] s112 (fun r114 s115 => (r114 = (-1003) → CLi l G mX7_chain [vR 0, vI x9] s115 (fun r117 s118 => (r117 = (-1003) → MWF l G mL (FL b L xs κ) 1150 [(0, vR 228), (1, vR 0), (2, vR 56), (4, vI x4), (5, vI x5), (6, vI x6), (7, vI x7), (11, vJ x11), (13, vI x13)] [] s118) ∧ (¬ (r117 = (-1003)) → False))) ∧ (¬ (r114 = (-1003)) → False))) ∧ (¬ (r111 = (-1003)) → False))) ∧ (¬ (r108 = (-1003)) → False))) ∧ (¬ (x10 = 0) → CLX l G mL_puts 4 [vR 0, vI x9, vI (shrI x7 8)] σ (fun r120 s121 => (r120 = 0 → False) ∧ (¬ (r120 = 0) → MWF l G mL (FL b L xs (κ + 1)) 1150 [(0, vR 228), (1, vR 0), (2, vR 56), (4, vI x4), (5, vI x5), (6, vI x6), (7, vI x7), (11, vJ x11), (13, vI x13)] [] s121))))) :
    MWF l G mL (FL b L xs κ) 491 [(0, vR 228), (1, vR 0), (2, vR 56), (4, vI x4), (5, vI x5), (6, vI x6), (7, vI x7), (8, vI x8), (9, vI x9), (10, vI x10), (11, vJ x11), (13, vI x13)] [] σ := by
  refine r_iload 7 dL_law_491 rfl ?_
  refine r_bipush dL_law_493 (by decide) (by decide) ?_
  refine r_icmp_ge (tgt := 574) dL_law_495 (by decide) (fun (c106 : 6 ≤ x8) => ?_) (fun (c106 : ¬ (6 ≤ x8)) => ?_)
  · replace h := h.1 c106
    refine MWF.sub [0, 1, 2, 3, 4, 5, 6, 7, 8, 9, 10, 11] rfl ?_
    exact h
  · replace h := h.2 c106
    refine r_iload 9 dL_law_498 rfl ?_
    refine r_if_eq (tgt := 520) dL_law_500 (by decide) (fun (c107 : x10 = 0) => ?_) (fun (c107 : ¬ (x10 = 0)) => ?_)
    · replace h := h.1 c107
      refine r_aload_n 1 dL_law_520 rfl rfl ?_
      refine r_iload 8 dL_law_521 rfl ?_
      refine r_callV [vI x9] [] dL_law_523 okX7_assign ivX7_assign seX7_assign lm_L_71 rfl rfl sh_0 rfl ⟨Nat.le_of_ble_eq_true rfl, Nat.le_of_ble_eq_true rfl, Nat.le_of_ble_eq_true rfl, Nat.le_of_ble_eq_true rfl⟩ h ?_
      rintro _ s109 ⟨r108, rfl, h⟩
      refine r_sipush dL_law_526 (by decide) (by decide) ?_
      refine r_icmp_ne (tgt := 572) dL_law_529 (by decide) (fun (c110 : r108 = (-1003)) => ?_) (fun (c110 : ¬ (r108 = (-1003))) => ?_)
      · replace h := h.1 c110
        refine r_aload_n 1 dL_law_532 rfl rfl ?_
        refine r_iload 8 dL_law_533 rfl ?_
        refine r_iconst dL_law_535 (by decide) ?_
        refine r_iconst dL_law_536 (by decide) ?_
        refine r_iconst dL_law_537 (by decide) ?_
        refine r_callV [vI x9, vI 0, vI 0, vI 1] [] dL_law_538 okX7_cost ivX7_cost seX7_cost lm_L_51 rfl rfl sh_0 rfl ⟨Nat.le_of_ble_eq_true rfl, Nat.le_of_ble_eq_true rfl, Nat.le_of_ble_eq_true rfl, Nat.le_of_ble_eq_true rfl⟩ h ?_
        rintro _ s112 ⟨r111, rfl, h⟩
        refine r_sipush dL_law_541 (by decide) (by decide) ?_
        refine r_icmp_ne (tgt := 572) dL_law_544 (by decide) (fun (c113 : r111 = (-1003)) => ?_) (fun (c113 : ¬ (r111 = (-1003))) => ?_)
        · replace h := h.1 c113
          refine r_aload_n 1 dL_law_547 rfl rfl ?_
          refine r_iload 8 dL_law_548 rfl ?_
          refine r_iconst dL_law_550 (by decide) ?_
          refine r_callV [vI x9, vI 0] [] dL_law_551 okX7_best ivX7_best seX7_best lm_L_55 rfl rfl sh_0 rfl ⟨Nat.le_of_ble_eq_true rfl, Nat.le_of_ble_eq_true rfl, Nat.le_of_ble_eq_true rfl, Nat.le_of_ble_eq_true rfl⟩ h ?_
          rintro _ s115 ⟨r114, rfl, h⟩
          refine r_sipush dL_law_554 (by decide) (by decide) ?_
          refine r_icmp_ne (tgt := 572) dL_law_557 (by decide) (fun (c116 : r114 = (-1003)) => ?_) (fun (c116 : ¬ (r114 = (-1003))) => ?_)
          · replace h := h.1 c116
            refine r_aload_n 1 dL_law_560 rfl rfl ?_
            refine r_iload 8 dL_law_561 rfl ?_
            refine r_callV [vI x9] [] dL_law_563 okX7_chain ivX7_chain seX7_chain lm_L_87 rfl rfl sh_0 rfl ⟨Nat.le_of_ble_eq_true rfl, Nat.le_of_ble_eq_true rfl, Nat.le_of_ble_eq_true rfl, Nat.le_of_ble_eq_true rfl⟩ h ?_
            rintro _ s118 ⟨r117, rfl, h⟩
            refine r_sipush dL_law_566 (by decide) (by decide) ?_
            refine r_icmp_eq (tgt := 1150) dL_law_569 (by decide) (fun (c119 : r117 = (-1003)) => ?_) (fun (c119 : ¬ (r117 = (-1003))) => ?_)
            · replace h := h.1 c119
              refine MWF.sub [0, 1, 2, 3, 4, 5, 6, 10, 11] rfl ?_
              exact h
            · replace h := h.2 c119
              refine r_iconst dL_law_572 (by decide) ?_
              exact h.elim
          · replace h := h.2 c116
            refine r_iconst dL_law_572 (by decide) ?_
            exact h.elim
        · replace h := h.2 c113
          refine r_iconst dL_law_572 (by decide) ?_
          exact h.elim
      · replace h := h.2 c110
        refine r_iconst dL_law_572 (by decide) ?_
        exact h.elim
    · replace h := h.2 c107
      refine r_aload_n 1 dL_law_503 rfl rfl ?_
      refine r_iload 8 dL_law_504 rfl ?_
      refine r_iload 6 dL_law_506 rfl ?_
      refine r_bipush dL_law_508 (by decide) (by decide) ?_
      refine r_ishr dL_law_510 ?_
      refine r_callX [vR 0, vI x9, vI (shrI x7 8)] [] dL_law_511 okL_puts ssL_puts lm_L_126 rfl rfl ⟨Nat.le_of_ble_eq_true rfl, Nat.le_of_ble_eq_true rfl, Nat.le_of_ble_eq_true rfl, Nat.le_of_ble_eq_true rfl⟩ hx0 hκ (by decide) h ?_
      rintro _ s121 ⟨r120, rfl, h⟩
      refine r_if_ne (tgt := 1150) dL_law_514 (by decide) (fun (c122 : r120 = 0) => ?_) (fun (c122 : ¬ (r120 = 0)) => ?_)
      · replace h := h.1 c122
        refine r_goto (tgt := 572) dL_law_517 (by decide) ?_
        refine r_iconst dL_law_572 (by decide) ?_
        exact h.elim
      · replace h := h.2 c122
        refine MWF.sub [0, 1, 2, 3, 4, 5, 6, 10, 11] rfl ?_
        exact h
set_option maxRecDepth 100000 in
set_option maxHeartbeats 4000000 in
theorem vcL_law_574 (l : Launch) (G : GT) (hx0 : G.2.2.2.2 = 0) (hb2 : G.2.2.1 228 = b) (hL : L ≤ 260) (hκ : κ ≤ 100) (σ : Sto) (x4 : Int) (x5 : Int) (x6 : Int) (x7 : Int) (x8 : Int) (x9 : Int) (x10 : Int) (x11 : Int64) (x13 : Int)
    (h : (x8 = 6 → CLi l G mX7_request [vR 0, vI x9, vI 0] σ (fun r124 s125 => (x10 = 0 → CLi l G mX7_vehicle [vR 0, vI r124, vI 4] s125 (fun r127 s128 => MWF l G mL (FL b L xs κ) 606 [(0, vR 228), (1, vR 0), (2, vR 56), (4, vI x4), (5, vI x5), (6, vI x6), (7, vI x7), (9, vI x9), (10, vI x10), (11, vJ x11), (13, vI x13), (14, vI r124)] [vI r127] s128)) ∧ (¬ (x10 = 0) → MWF l G mL (FL b L xs κ) 606 [(0, vR 228), (1, vR 0), (2, vR 56), (4, vI x4), (5, vI x5), (6, vI x6), (7, vI x7), (9, vI x9), (10, vI x10), (11, vJ x11), (13, vI x13), (14, vI r124)] [vI 0] s125))) ∧ (¬ (x8 = 6) → MWF l G mL (FL b L xs κ) 670 [(0, vR 228), (1, vR 0), (2, vR 56), (4, vI x4), (5, vI x5), (6, vI x6), (7, vI x7), (8, vI x8), (9, vI x9), (10, vI x10), (11, vJ x11), (13, vI x13)] [] σ)) :
    MWF l G mL (FL b L xs κ) 574 [(0, vR 228), (1, vR 0), (2, vR 56), (4, vI x4), (5, vI x5), (6, vI x6), (7, vI x7), (8, vI x8), (9, vI x9), (10, vI x10), (11, vJ x11), (13, vI x13)] [] σ := by
  refine r_iload 7 dL_law_574 rfl ?_
  refine r_bipush dL_law_576 (by decide) (by decide) ?_
  refine r_icmp_ne (tgt := 670) dL_law_578 (by decide) (fun (c123 : x8 = 6) => ?_) (fun (c123 : ¬ (x8 = 6)) => ?_)
  · replace h := h.1 c123
    refine r_aload_n 1 dL_law_581 rfl rfl ?_
    refine r_iload 8 dL_law_582 rfl ?_
    refine r_iconst dL_law_584 (by decide) ?_
    refine r_callV [vI x9, vI 0] [] dL_law_585 okX7_request ivX7_request seX7_request lm_L_36 rfl rfl sh_0 rfl ⟨Nat.le_of_ble_eq_true rfl, Nat.le_of_ble_eq_true rfl, Nat.le_of_ble_eq_true rfl, Nat.le_of_ble_eq_true rfl⟩ h ?_
    rintro _ s125 ⟨r124, rfl, h⟩
    refine r_istore dL_law_588 (by decide) rfl ?_
    refine r_iload 10 dL_law_590 rfl ?_
    refine r_if_eq (tgt := 599) dL_law_592 (by decide) (fun (c126 : x10 = 0) => ?_) (fun (c126 : ¬ (x10 = 0)) => ?_)
    · replace h := h.1 c126
      refine r_aload_n 2 dL_law_599 rfl rfl ?_
      refine r_iload 0 dL_law_600 rfl ?_
      refine r_iconst dL_law_602 (by decide) ?_
      refine r_callV [vI r124, vI 4] [] dL_law_603 okX7_vehicle ivX7_vehicle seX7_vehicle lm_L_21 rfl rfl sh_0 rfl ⟨Nat.le_of_ble_eq_true rfl, Nat.le_of_ble_eq_true rfl, Nat.le_of_ble_eq_true rfl, Nat.le_of_ble_eq_true rfl⟩ h ?_
      rintro _ s128 ⟨r127, rfl, h⟩
      refine MWF.sub [1, 2, 3, 4, 5, 6, 7, 9, 10, 11, 12, 0] rfl ?_
      exact h
    · replace h := h.2 c126
      refine r_iconst dL_law_595 (by decide) ?_
      refine r_goto (tgt := 606) dL_law_596 (by decide) ?_
      refine MWF.sub [1, 2, 3, 4, 5, 6, 7, 9, 10, 11, 12, 0] rfl ?_
      exact h
  · replace h := h.2 c123
    refine MWF.sub [0, 1, 2, 3, 4, 5, 6, 7, 8, 9, 10, 11] rfl ?_
    exact h
set_option maxRecDepth 100000 in
set_option maxHeartbeats 4000000 in
theorem vcL_law_1150 (l : Launch) (G : GT) (hx0 : G.2.2.2.2 = 0) (hb2 : G.2.2.1 228 = b) (hL : L ≤ 260) (hκ : κ ≤ 100) (σ : Sto) (x4 : Int) (x5 : Int) (x6 : Int) (x7 : Int) (x11 : Int64) (x13 : Int)
    (h : CLj l G mL_print [vR 0] σ (fun r129 s130 => ((lcI r129 x11) = 0 → MWF l G mL (FL b L xs κ) 1216 [(0, vR 228), (1, vR 0), (2, vR 56), (4, vI x4), (5, vI x5), (6, vI x6), (13, vI x13)] [] s130) ∧ (¬ ((lcI r129 x11) = 0) → ((¬ (10 ≤ x13) → (-2147483648 ≤ x13 + 1 ∧ x13 + 1 ≤ 2147483647) ∧ True)) ∧ ∀ y135 : Int, y135 = (if 10 ≤ x13 then 10 else (x13 + 1)) → ((andI (shrI x7 20) 3) = 0 → (-2147483648 ≤ y135 + (-1) ∧ y135 + (-1) ≤ 2147483647) ∧ CLi l G mX7_undo [vR 0] s130 (fun r141 s142 => (r141 = (y135 + (-1)) → CLj l G mL_print [vR 0] s142 (fun r144 s145 => ((lcI r144 x11) = 0 → MWF l G mL (FL b L xs κ) 1256 [(0, vR 228), (1, vR 0), (2, vR 56), (4, vI x4), (5, vI (y135 + (-1))), (6, vI x6)] [] s145) ∧ (¬ ((lcI r144 x11) = 0) → False))) ∧ (¬ (r141 = (y135 + (-1))) → False))) ∧ (¬ ((andI (shrI x7 20) 3) = 0) → MWF l G mL (FL b L xs κ) 1256 [(0, vR 228), (1, vR 0), (2, vR 56), (4, vI x4), (5, vI y135), (6, vI x6)] [] s130)))) :
    MWF l G mL (FL b L xs κ) 1150 [(0, vR 228), (1, vR 0), (2, vR 56), (4, vI x4), (5, vI x5), (6, vI x6), (7, vI x7), (11, vJ x11), (13, vI x13)] [] σ := by
  refine r_aload_n 1 dL_law_1150 rfl rfl ?_
  refine r_callS [vR 0] [] dL_law_1151 okL_print ssL_print lm_L_83 rfl rfl ⟨Nat.le_of_ble_eq_true rfl, Nat.le_of_ble_eq_true rfl, Nat.le_of_ble_eq_true rfl, Nat.le_of_ble_eq_true rfl⟩ h ?_
  rintro _ s130 ⟨r129, rfl, h⟩
  refine r_lstore dL_law_1154 (by decide) rfl ?_
  refine r_lload 0 dL_law_1156 rfl ?_
  refine r_lload 8 dL_law_1158 rfl ?_
  refine r_lcmp dL_law_1160 ?_
  refine r_if_eq (tgt := 1216) dL_law_1161 (by decide) (fun (c131 : (lcI r129 x11) = 0) => ?_) (fun (c131 : ¬ ((lcI r129 x11) = 0)) => ?_)
  · replace h := h.1 c131
    refine MWF.sub [1, 2, 3, 4, 5, 6, 9] rfl ?_
    exact h
  · replace h := h.2 c131
    refine r_iload 9 dL_law_1164 rfl ?_
    refine r_bipush dL_law_1166 (by decide) (by decide) ?_
    obtain ⟨q134, h⟩ := h
    obtain ⟨y135, ey135⟩ : ∃ z : Int, z = (if 10 ≤ x13 then 10 else (x13 + 1)) := ⟨_, rfl⟩
    replace h := h y135 ey135
    have hj136 : MWF l G mL (FL b L xs κ) 1180 [(0, vR 228), (1, vR 0), (2, vR 56), (4, vI x4), (6, vI x6), (7, vI x7), (11, vJ x11)] [vI y135] s130 := by
      refine r_istore dL_law_1180 (by decide) rfl ?_
      refine r_iload 6 dL_law_1182 rfl ?_
      refine r_bipush dL_law_1184 (by decide) (by decide) ?_
      refine r_ishr dL_law_1186 ?_
      refine r_iconst dL_law_1187 (by decide) ?_
      refine r_iand dL_law_1188 ?_
      refine r_if_ne (tgt := 1256) dL_law_1189 (by decide) (fun (c139 : (andI (shrI x7 20) 3) = 0) => ?_) (fun (c139 : ¬ ((andI (shrI x7 20) 3) = 0)) => ?_)
      · replace h := h.1 c139
        obtain ⟨b140, h⟩ := h
        refine r_iinc 0 dL_law_1192 rfl (by decide) b140 rfl ?_
        refine r_aload_n 2 dL_law_1195 rfl rfl ?_
        refine r_callV [] [] dL_law_1196 okX7_undo ivX7_undo seX7_undo lm_L_115 rfl rfl sh_0 rfl ⟨Nat.le_of_ble_eq_true rfl, Nat.le_of_ble_eq_true rfl, Nat.le_of_ble_eq_true rfl, Nat.le_of_ble_eq_true rfl⟩ h ?_
        rintro _ s142 ⟨r141, rfl, h⟩
        refine r_iload 0 dL_law_1199 rfl ?_
        refine r_icmp_ne (tgt := 1214) dL_law_1201 (by decide) (fun (c143 : r141 = (y135 + (-1))) => ?_) (fun (c143 : ¬ (r141 = (y135 + (-1)))) => ?_)
        · replace h := h.1 c143
          refine r_aload_n 2 dL_law_1204 rfl rfl ?_
          refine r_callS [vR 0] [] dL_law_1205 okL_print ssL_print lm_L_83 rfl rfl ⟨Nat.le_of_ble_eq_true rfl, Nat.le_of_ble_eq_true rfl, Nat.le_of_ble_eq_true rfl, Nat.le_of_ble_eq_true rfl⟩ h ?_
          rintro _ s145 ⟨r144, rfl, h⟩
          refine r_lload 7 dL_law_1208 rfl ?_
          refine r_lcmp dL_law_1210 ?_
          refine r_if_eq (tgt := 1256) dL_law_1211 (by decide) (fun (c146 : (lcI r144 x11) = 0) => ?_) (fun (c146 : ¬ ((lcI r144 x11) = 0)) => ?_)
          · replace h := h.1 c146
            refine MWF.sub [1, 2, 3, 4, 0, 5] rfl ?_
            exact h
          · replace h := h.2 c146
            refine r_iconst dL_law_1214 (by decide) ?_
            exact h.elim
        · replace h := h.2 c143
          refine r_iconst dL_law_1214 (by decide) ?_
          exact h.elim
      · replace h := h.2 c139
        refine MWF.sub [1, 2, 3, 4, 0, 5] rfl ?_
        exact h
    replace h := q134
    refine r_icmp_ge (tgt := 1178) dL_law_1168 (by decide) (fun (c132 : 10 ≤ x13) => ?_) (fun (c132 : ¬ (10 ≤ x13)) => ?_)
    · refine r_bipush dL_law_1178 (by decide) (by decide) ?_
      refine MWF.sub [1, 2, 3, 4, 6, 7, 8] rfl ?_
      have q137 : y135 = 10 := by rw [ey135, if_pos c132]
      rw [q137] at hj136
      exact hj136
    · replace h := h c132
      refine r_iload 9 dL_law_1171 rfl ?_
      refine r_iconst dL_law_1173 (by decide) ?_
      obtain ⟨b133, h⟩ := h
      refine r_iadd dL_law_1174 b133 ?_
      refine r_goto (tgt := 1180) dL_law_1175 (by decide) ?_
      refine MWF.sub [1, 2, 3, 4, 6, 7, 8] rfl ?_
      have q138 : y135 = (x13 + 1) := by rw [ey135, if_neg c132]
      rw [q138] at hj136
      exact hj136
set_option maxRecDepth 100000 in
set_option maxHeartbeats 4000000 in
theorem vcL_law_606 (l : Launch) (G : GT) (hx0 : G.2.2.2.2 = 0) (hb2 : G.2.2.1 228 = b) (hL : L ≤ 260) (hκ : κ ≤ 100) (σ : Sto) (x4 : Int) (x5 : Int) (x6 : Int) (x7 : Int) (x9 : Int) (x10 : Int) (x11 : Int64) (x13 : Int) (x14 : Int) (z0 : Int)
    (h : CLi l G mX7_remove [vR 0, vI x9] σ (fun r147 s148 => (x10 = 0 → CLi l G mX7_vehicle [vR 0, vI x14, vI 4] s148 (fun r150 s151 => (-2147483648 ≤ z0 - r150 ∧ z0 - r150 ≤ 2147483647) ∧ (r147 = (z0 - r150) → (r147 < 0 → False) ∧ (¬ (r147 < 0) → CLi l G mX7_request [vR 0, vI x9, vI 0] s151 (fun r155 s156 => (r155 = (-1007) → MWF l G mL (FL b L xs κ) 667 [(0, vR 228), (1, vR 0), (2, vR 56), (4, vI x4), (5, vI x5), (6, vI x6), (7, vI x7), (11, vJ x11), (13, vI x13)] [] s156) ∧ (¬ (r155 = (-1007)) → False)))) ∧ (¬ (r147 = (z0 - r150)) → False))) ∧ (¬ (x10 = 0) → (r147 = (-1004) → MWF l G mL (FL b L xs κ) 667 [(0, vR 228), (1, vR 0), (2, vR 56), (4, vI x4), (5, vI x5), (6, vI x6), (7, vI x7), (11, vJ x11), (13, vI x13)] [] s148) ∧ (¬ (r147 = (-1004)) → False)))) :
    MWF l G mL (FL b L xs κ) 606 [(0, vR 228), (1, vR 0), (2, vR 56), (4, vI x4), (5, vI x5), (6, vI x6), (7, vI x7), (9, vI x9), (10, vI x10), (11, vJ x11), (13, vI x13), (14, vI x14)] [vI z0] σ := by
  refine r_istore dL_law_606 (by decide) rfl ?_
  refine r_aload_n 2 dL_law_608 rfl rfl ?_
  refine r_iload 8 dL_law_609 rfl ?_
  refine r_callV [vI x9] [] dL_law_611 okX7_remove ivX7_remove seX7_remove lm_L_111 rfl rfl sh_0 rfl ⟨Nat.le_of_ble_eq_true rfl, Nat.le_of_ble_eq_true rfl, Nat.le_of_ble_eq_true rfl, Nat.le_of_ble_eq_true rfl⟩ h ?_
  rintro _ s148 ⟨r147, rfl, h⟩
  refine r_istore dL_law_614 (by decide) rfl ?_
  refine r_iload 10 dL_law_616 rfl ?_
  refine r_if_eq (tgt := 632) dL_law_618 (by decide) (fun (c149 : x10 = 0) => ?_) (fun (c149 : ¬ (x10 = 0)) => ?_)
  · replace h := h.1 c149
    refine r_iload 0 dL_law_632 rfl ?_
    refine r_iload 1 dL_law_634 rfl ?_
    refine r_aload_n 3 dL_law_636 rfl rfl ?_
    refine r_iload 13 dL_law_637 rfl ?_
    refine r_iconst dL_law_639 (by decide) ?_
    refine r_callV [vI x14, vI 4] [vI z0, vI r147] dL_law_640 okX7_vehicle ivX7_vehicle seX7_vehicle lm_L_21 rfl rfl sh_0 rfl ⟨Nat.le_of_ble_eq_true rfl, Nat.le_of_ble_eq_true rfl, Nat.le_of_ble_eq_true rfl, Nat.le_of_ble_eq_true rfl⟩ h ?_
    rintro _ s151 ⟨r150, rfl, h⟩
    obtain ⟨b152, h⟩ := h
    refine r_isub dL_law_643 b152 ?_
    refine r_icmp_ne (tgt := 665) dL_law_644 (by decide) (fun (c153 : r147 = (z0 - r150)) => ?_) (fun (c153 : ¬ (r147 = (z0 - r150))) => ?_)
    · replace h := h.1 c153
      refine r_iload 0 dL_law_647 rfl ?_
      refine r_if_lt (tgt := 665) dL_law_649 (by decide) (fun (c154 : r147 < 0) => ?_) (fun (c154 : ¬ (r147 < 0)) => ?_)
      · replace h := h.1 c154
        refine r_iconst dL_law_665 (by decide) ?_
        exact h.elim
      · replace h := h.2 c154
        refine r_aload_n 3 dL_law_652 rfl rfl ?_
        refine r_iload 9 dL_law_653 rfl ?_
        refine r_iconst dL_law_655 (by decide) ?_
        refine r_callV [vI x9, vI 0] [] dL_law_656 okX7_request ivX7_request seX7_request lm_L_36 rfl rfl sh_0 rfl ⟨Nat.le_of_ble_eq_true rfl, Nat.le_of_ble_eq_true rfl, Nat.le_of_ble_eq_true rfl, Nat.le_of_ble_eq_true rfl⟩ h ?_
        rintro _ s156 ⟨r155, rfl, h⟩
        refine r_sipush dL_law_659 (by decide) (by decide) ?_
        refine r_icmp_eq (tgt := 667) dL_law_662 (by decide) (fun (c157 : r155 = (-1007)) => ?_) (fun (c157 : ¬ (r155 = (-1007))) => ?_)
        · replace h := h.1 c157
          refine MWF.sub [2, 3, 4, 5, 6, 7, 8, 11, 12] rfl ?_
          exact h
        · replace h := h.2 c157
          refine r_iconst dL_law_665 (by decide) ?_
          exact h.elim
    · replace h := h.2 c153
      refine r_iconst dL_law_665 (by decide) ?_
      exact h.elim
  · replace h := h.2 c149
    refine r_iload 0 dL_law_621 rfl ?_
    refine r_sipush dL_law_623 (by decide) (by decide) ?_
    refine r_icmp_eq (tgt := 667) dL_law_626 (by decide) (fun (c158 : r147 = (-1004)) => ?_) (fun (c158 : ¬ (r147 = (-1004))) => ?_)
    · replace h := h.1 c158
      refine MWF.sub [2, 3, 4, 5, 6, 7, 8, 11, 12] rfl ?_
      exact h
    · replace h := h.2 c158
      refine r_goto (tgt := 665) dL_law_629 (by decide) ?_
      refine r_iconst dL_law_665 (by decide) ?_
      exact h.elim
set_option maxRecDepth 100000 in
set_option maxHeartbeats 4000000 in
theorem vcL_law_670 (l : Launch) (G : GT) (hx0 : G.2.2.2.2 = 0) (hb2 : G.2.2.1 228 = b) (hL : L ≤ 260) (hκ : κ ≤ 100) (σ : Sto) (x4 : Int) (x5 : Int) (x6 : Int) (x7 : Int) (x8 : Int) (x9 : Int) (x10 : Int) (x11 : Int64) (x13 : Int)
    (h : (9 ≤ x8 → MWF l G mL (FL b L xs κ) 693 [(0, vR 228), (1, vR 0), (2, vR 56), (4, vI x4), (5, vI x5), (6, vI x6), (7, vI x7), (8, vI x8), (9, vI x9), (10, vI x10), (11, vJ x11), (13, vI x13)] [] σ) ∧ (¬ (9 ≤ x8) → (x10 = 0 → MWF l G mL (FL b L xs κ) 1150 [(0, vR 228), (1, vR 0), (2, vR 56), (4, vI x4), (5, vI x5), (6, vI x6), (7, vI x7), (11, vJ x11), (13, vI x13)] [] σ) ∧ (¬ (x10 = 0) → CLX l G mL_chains 12 [vR 0, vI x9] σ (fun r161 s162 => (r161 = 0 → False) ∧ (¬ (r161 = 0) → MWF l G mL (FL b L xs (κ + 1)) 1150 [(0, vR 228), (1, vR 0), (2, vR 56), (4, vI x4), (5, vI x5), (6, vI x6), (7, vI x7), (11, vJ x11), (13, vI x13)] [] s162))))) :
    MWF l G mL (FL b L xs κ) 670 [(0, vR 228), (1, vR 0), (2, vR 56), (4, vI x4), (5, vI x5), (6, vI x6), (7, vI x7), (8, vI x8), (9, vI x9), (10, vI x10), (11, vJ x11), (13, vI x13)] [] σ := by
  refine r_iload 7 dL_law_670 rfl ?_
  refine r_bipush dL_law_672 (by decide) (by decide) ?_
  refine r_icmp_ge (tgt := 693) dL_law_674 (by decide) (fun (c159 : 9 ≤ x8) => ?_) (fun (c159 : ¬ (9 ≤ x8)) => ?_)
  · replace h := h.1 c159
    refine MWF.sub [0, 1, 2, 3, 4, 5, 6, 7, 8, 9, 10, 11] rfl ?_
    exact h
  · replace h := h.2 c159
    refine r_iload 9 dL_law_677 rfl ?_
    refine r_if_eq (tgt := 1150) dL_law_679 (by decide) (fun (c160 : x10 = 0) => ?_) (fun (c160 : ¬ (x10 = 0)) => ?_)
    · replace h := h.1 c160
      refine MWF.sub [0, 1, 2, 3, 4, 5, 6, 10, 11] rfl ?_
      exact h
    · replace h := h.2 c160
      refine r_aload_n 1 dL_law_682 rfl rfl ?_
      refine r_iload 8 dL_law_683 rfl ?_
      refine r_callX [vR 0, vI x9] [] dL_law_685 okL_chains ssL_chains lm_L_130 rfl rfl ⟨Nat.le_of_ble_eq_true rfl, Nat.le_of_ble_eq_true rfl, Nat.le_of_ble_eq_true rfl, Nat.le_of_ble_eq_true rfl⟩ hx0 hκ (by decide) h ?_
      rintro _ s162 ⟨r161, rfl, h⟩
      refine r_if_ne (tgt := 1150) dL_law_688 (by decide) (fun (c163 : r161 = 0) => ?_) (fun (c163 : ¬ (r161 = 0)) => ?_)
      · replace h := h.1 c163
        refine r_iconst dL_law_691 (by decide) ?_
        exact h.elim
      · replace h := h.2 c163
        refine MWF.sub [0, 1, 2, 3, 4, 5, 6, 10, 11] rfl ?_
        exact h
set_option maxRecDepth 100000 in
set_option maxHeartbeats 4000000 in
theorem vcL_law_1216 (l : Launch) (G : GT) (hx0 : G.2.2.2.2 = 0) (hb2 : G.2.2.1 228 = b) (hL : L ≤ 260) (hκ : κ ≤ 100) (σ : Sto) (x4 : Int) (x5 : Int) (x6 : Int) (x13 : Int)
    (h : CLi l G mX7_count [vR 0, vI 5] σ (fun r164 s165 => (r164 = x13 → MWF l G mL (FL b L xs κ) 1256 [(0, vR 228), (1, vR 0), (2, vR 56), (4, vI x4), (5, vI x5), (6, vI x6)] [] s165) ∧ (¬ (r164 = x13) → CLi l G mX7_count [vR 0, vI 5] s165 (fun r167 s168 => ((¬ (10 ≤ x13) → (-2147483648 ≤ x13 + 1 ∧ x13 + 1 ≤ 2147483647) ∧ True)) ∧ ∀ y172 : Int, y172 = (if 10 ≤ x13 then 10 else (x13 + 1)) → (r167 = y172 → MWF l G mL (FL b L xs κ) 1256 [(0, vR 228), (1, vR 0), (2, vR 56), (4, vI x4), (5, vI r167), (6, vI x6)] [] s168) ∧ (¬ (r167 = y172) → False))))) :
    MWF l G mL (FL b L xs κ) 1216 [(0, vR 228), (1, vR 0), (2, vR 56), (4, vI x4), (5, vI x5), (6, vI x6), (13, vI x13)] [] σ := by
  refine r_aload_n 1 dL_law_1216 rfl rfl ?_
  refine r_iconst dL_law_1217 (by decide) ?_
  refine r_callV [vI 5] [] dL_law_1218 okX7_count ivX7_count seX7_count lm_L_25 rfl rfl sh_0 rfl ⟨Nat.le_of_ble_eq_true rfl, Nat.le_of_ble_eq_true rfl, Nat.le_of_ble_eq_true rfl, Nat.le_of_ble_eq_true rfl⟩ h ?_
  rintro _ s165 ⟨r164, rfl, h⟩
  refine r_iload 6 dL_law_1221 rfl ?_
  refine r_icmp_eq (tgt := 1256) dL_law_1223 (by decide) (fun (c166 : r164 = x13) => ?_) (fun (c166 : ¬ (r164 = x13)) => ?_)
  · replace h := h.1 c166
    refine MWF.sub [0, 1, 2, 3, 4, 5] rfl ?_
    exact h
  · replace h := h.2 c166
    refine r_aload_n 1 dL_law_1226 rfl rfl ?_
    refine r_iconst dL_law_1227 (by decide) ?_
    refine r_callV [vI 5] [] dL_law_1228 okX7_count ivX7_count seX7_count lm_L_25 rfl rfl sh_0 rfl ⟨Nat.le_of_ble_eq_true rfl, Nat.le_of_ble_eq_true rfl, Nat.le_of_ble_eq_true rfl, Nat.le_of_ble_eq_true rfl⟩ h ?_
    rintro _ s168 ⟨r167, rfl, h⟩
    refine r_istore dL_law_1231 (by decide) rfl ?_
    refine r_iload 0 dL_law_1233 rfl ?_
    refine r_iload 6 dL_law_1235 rfl ?_
    refine r_bipush dL_law_1237 (by decide) (by decide) ?_
    obtain ⟨q171, h⟩ := h
    obtain ⟨y172, ey172⟩ : ∃ z : Int, z = (if 10 ≤ x13 then 10 else (x13 + 1)) := ⟨_, rfl⟩
    replace h := h y172 ey172
    have hj173 : MWF l G mL (FL b L xs κ) 1251 [(0, vR 228), (1, vR 0), (2, vR 56), (4, vI x4), (5, vI r167), (6, vI x6)] [vI y172, vI r167] s168 := by
      refine r_icmp_eq (tgt := 1256) dL_law_1251 (by decide) (fun (c176 : r167 = y172) => ?_) (fun (c176 : ¬ (r167 = y172)) => ?_)
      · replace h := h.1 c176
        refine MWF.sub [0, 1, 2, 3, 4, 5] rfl ?_
        exact h
      · replace h := h.2 c176
        refine r_iconst dL_law_1254 (by decide) ?_
        exact h.elim
    replace h := q171
    refine r_icmp_ge (tgt := 1249) dL_law_1239 (by decide) (fun (c169 : 10 ≤ x13) => ?_) (fun (c169 : ¬ (10 ≤ x13)) => ?_)
    · refine r_bipush dL_law_1249 (by decide) (by decide) ?_
      refine MWF.sub [1, 2, 3, 4, 0, 5] rfl ?_
      have q174 : y172 = 10 := by rw [ey172, if_pos c169]
      rw [q174] at hj173
      exact hj173
    · replace h := h c169
      refine r_iload 6 dL_law_1242 rfl ?_
      refine r_iconst dL_law_1244 (by decide) ?_
      obtain ⟨b170, h⟩ := h
      refine r_iadd dL_law_1245 b170 ?_
      refine r_goto (tgt := 1251) dL_law_1246 (by decide) ?_
      refine MWF.sub [1, 2, 3, 4, 0, 5] rfl ?_
      have q175 : y172 = (x13 + 1) := by rw [ey172, if_neg c169]
      rw [q175] at hj173
      exact hj173
set_option maxRecDepth 100000 in
set_option maxHeartbeats 4000000 in
theorem vcL_law_1256 (l : Launch) (G : GT) (hx0 : G.2.2.2.2 = 0) (hb2 : G.2.2.1 228 = b) (hL : L ≤ 260) (hκ : κ ≤ 100) (σ : Sto) (x4 : Int) (x5 : Int) (x6 : Int)
    (h : CLi l G mL_plan [vR 0, vR 56] σ (fun r177 s178 => (r177 = 0 → False) ∧ (¬ (r177 = 0) → (-2147483648 ≤ x6 + 1 ∧ x6 + 1 ≤ 2147483647) ∧ MWF l G mL (FL b L xs κ) 411 [(0, vR 228), (1, vR 0), (2, vR 56), (4, vI x4), (5, vI x5), (6, vI (x6 + 1))] [] s178))) :
    MWF l G mL (FL b L xs κ) 1256 [(0, vR 228), (1, vR 0), (2, vR 56), (4, vI x4), (5, vI x5), (6, vI x6)] [] σ := by
  refine r_aload_n 1 dL_law_1256 rfl rfl ?_
  refine r_aload_n 2 dL_law_1257 rfl rfl ?_
  refine r_callS [vR 0, vR 56] [] dL_law_1258 okL_plan ssL_plan lm_L_134 rfl rfl ⟨Nat.le_of_ble_eq_true rfl, Nat.le_of_ble_eq_true rfl, Nat.le_of_ble_eq_true rfl, Nat.le_of_ble_eq_true rfl⟩ h ?_
  rintro _ s178 ⟨r177, rfl, h⟩
  refine r_if_ne (tgt := 1266) dL_law_1261 (by decide) (fun (c179 : r177 = 0) => ?_) (fun (c179 : ¬ (r177 = 0)) => ?_)
  · replace h := h.1 c179
    refine r_iconst dL_law_1264 (by decide) ?_
    exact h.elim
  · replace h := h.2 c179
    obtain ⟨b180, h⟩ := h
    refine r_iinc 5 dL_law_1266 rfl (by decide) b180 rfl ?_
    refine r_goto (tgt := 411) dL_law_1269 (by decide) ?_
    refine MWF.sub [1, 2, 3, 4, 5, 0] rfl ?_
    exact h
set_option maxRecDepth 100000 in
set_option maxHeartbeats 4000000 in
theorem vcL_law_667 (l : Launch) (G : GT) (hx0 : G.2.2.2.2 = 0) (hb2 : G.2.2.1 228 = b) (hL : L ≤ 260) (hκ : κ ≤ 100) (σ : Sto) (x4 : Int) (x5 : Int) (x6 : Int) (x7 : Int) (x11 : Int64) (x13 : Int)
    (h : MWF l G mL (FL b L xs κ) 1150 [(0, vR 228), (1, vR 0), (2, vR 56), (4, vI x4), (5, vI x5), (6, vI x6), (7, vI x7), (11, vJ x11), (13, vI x13)] [] σ) :
    MWF l G mL (FL b L xs κ) 667 [(0, vR 228), (1, vR 0), (2, vR 56), (4, vI x4), (5, vI x5), (6, vI x6), (7, vI x7), (11, vJ x11), (13, vI x13)] [] σ := by
  refine r_goto (tgt := 1150) dL_law_667 (by decide) ?_
  refine MWF.sub [0, 1, 2, 3, 4, 5, 6, 7, 8] rfl ?_
  exact h
set_option maxRecDepth 100000 in
set_option maxHeartbeats 4000000 in
theorem vcL_law_693 (l : Launch) (G : GT) (hx0 : G.2.2.2.2 = 0) (hb2 : G.2.2.1 228 = b) (hL : L ≤ 260) (hκ : κ ≤ 100) (σ : Sto) (x4 : Int) (x5 : Int) (x6 : Int) (x7 : Int) (x8 : Int) (x9 : Int) (x10 : Int) (x11 : Int64) (x13 : Int)
    (h : (x8 = 9 → CLi l G mX7_count [vR 0, vI 3] σ (fun r182 s183 => CLi l G mX7_improve [vR 0] s183 (fun r184 s185 => (r184 = 0 → False) ∧ (¬ (r184 = 0) → (0 ≤ r184 → (r184 ≤ 0 → MWF l G mL (FL b L xs κ) 1150 [(0, vR 228), (1, vR 0), (2, vR 56), (4, vI x4), (5, vI x5), (6, vI x6), (7, vI x7), (11, vJ x11), (13, vI x13)] [] s185) ∧ (¬ (r184 ≤ 0) → CLi l G mX7_count [vR 0, vI 3] s185 (fun r189 s190 => (-2147483648 ≤ r182 - r184 ∧ r182 - r184 ≤ 2147483647) ∧ (r189 = (r182 - r184) → MWF l G mL (FL b L xs κ) 1150 [(0, vR 228), (1, vR 0), (2, vR 56), (4, vI x4), (5, vI x5), (6, vI x6), (7, vI x7), (11, vJ x11), (13, vI x13)] [] s190) ∧ (¬ (r189 = (r182 - r184)) → False)))) ∧ (¬ (0 ≤ r184) → (r184 = (-1007) → (r184 ≤ 0 → MWF l G mL (FL b L xs κ) 1150 [(0, vR 228), (1, vR 0), (2, vR 56), (4, vI x4), (5, vI x5), (6, vI x6), (7, vI x7), (11, vJ x11), (13, vI x13)] [] s185) ∧ (¬ (r184 ≤ 0) → CLi l G mX7_count [vR 0, vI 3] s185 (fun r195 s196 => (-2147483648 ≤ r182 - r184 ∧ r182 - r184 ≤ 2147483647) ∧ (r195 = (r182 - r184) → MWF l G mL (FL b L xs κ) 1150 [(0, vR 228), (1, vR 0), (2, vR 56), (4, vI x4), (5, vI x5), (6, vI x6), (7, vI x7), (11, vJ x11), (13, vI x13)] [] s196) ∧ (¬ (r195 = (r182 - r184)) → False)))) ∧ (¬ (r184 = (-1007)) → False)))))) ∧ (¬ (x8 = 9) → MWF l G mL (FL b L xs κ) 754 [(0, vR 228), (1, vR 0), (2, vR 56), (4, vI x4), (5, vI x5), (6, vI x6), (7, vI x7), (8, vI x8), (9, vI x9), (10, vI x10), (11, vJ x11)] [] σ)) :
    MWF l G mL (FL b L xs κ) 693 [(0, vR 228), (1, vR 0), (2, vR 56), (4, vI x4), (5, vI x5), (6, vI x6), (7, vI x7), (8, vI x8), (9, vI x9), (10, vI x10), (11, vJ x11), (13, vI x13)] [] σ := by
  refine r_iload 7 dL_law_693 rfl ?_
  refine r_bipush dL_law_695 (by decide) (by decide) ?_
  refine r_icmp_ne (tgt := 754) dL_law_697 (by decide) (fun (c181 : x8 = 9) => ?_) (fun (c181 : ¬ (x8 = 9)) => ?_)
  · replace h := h.1 c181
    refine r_aload_n 1 dL_law_700 rfl rfl ?_
    refine r_iconst dL_law_701 (by decide) ?_
    refine r_callV [vI 3] [] dL_law_702 okX7_count ivX7_count seX7_count lm_L_25 rfl rfl sh_0 rfl ⟨Nat.le_of_ble_eq_true rfl, Nat.le_of_ble_eq_true rfl, Nat.le_of_ble_eq_true rfl, Nat.le_of_ble_eq_true rfl⟩ h ?_
    rintro _ s183 ⟨r182, rfl, h⟩
    refine r_istore dL_law_705 (by decide) rfl ?_
    refine r_aload_n 2 dL_law_707 rfl rfl ?_
    refine r_callV [] [] dL_law_708 okX7_improve ivX7_improve seX7_improve lm_L_119 rfl rfl sh_0 rfl ⟨Nat.le_of_ble_eq_true rfl, Nat.le_of_ble_eq_true rfl, Nat.le_of_ble_eq_true rfl, Nat.le_of_ble_eq_true rfl⟩ h ?_
    rintro _ s185 ⟨r184, rfl, h⟩
    refine r_istore dL_law_711 (by decide) rfl ?_
    refine r_iload 0 dL_law_713 rfl ?_
    refine r_if_eq (tgt := 749) dL_law_715 (by decide) (fun (c186 : r184 = 0) => ?_) (fun (c186 : ¬ (r184 = 0)) => ?_)
    · replace h := h.1 c186
      refine r_iconst dL_law_749 (by decide) ?_
      exact h.elim
    · replace h := h.2 c186
      refine r_iload 0 dL_law_718 rfl ?_
      refine r_if_ge (tgt := 731) dL_law_720 (by decide) (fun (c187 : 0 ≤ r184) => ?_) (fun (c187 : ¬ (0 ≤ r184)) => ?_)
      · replace h := h.1 c187
        refine r_iload 0 dL_law_731 rfl ?_
        refine r_if_le (tgt := 751) dL_law_733 (by decide) (fun (c188 : r184 ≤ 0) => ?_) (fun (c188 : ¬ (r184 ≤ 0)) => ?_)
        · replace h := h.1 c188
          refine r_goto (tgt := 1150) dL_law_751 (by decide) ?_
          refine MWF.sub [2, 3, 4, 5, 6, 7, 8, 12, 13] rfl ?_
          exact h
        · replace h := h.2 c188
          refine r_aload_n 3 dL_law_736 rfl rfl ?_
          refine r_iconst dL_law_737 (by decide) ?_
          refine r_callV [vI 3] [] dL_law_738 okX7_count ivX7_count seX7_count lm_L_25 rfl rfl sh_0 rfl ⟨Nat.le_of_ble_eq_true rfl, Nat.le_of_ble_eq_true rfl, Nat.le_of_ble_eq_true rfl, Nat.le_of_ble_eq_true rfl⟩ h ?_
          rintro _ s190 ⟨r189, rfl, h⟩
          refine r_iload 1 dL_law_741 rfl ?_
          refine r_iload 0 dL_law_743 rfl ?_
          obtain ⟨b191, h⟩ := h
          refine r_isub dL_law_745 b191 ?_
          refine r_icmp_eq (tgt := 751) dL_law_746 (by decide) (fun (c192 : r189 = (r182 - r184)) => ?_) (fun (c192 : ¬ (r189 = (r182 - r184))) => ?_)
          · replace h := h.1 c192
            refine r_goto (tgt := 1150) dL_law_751 (by decide) ?_
            refine MWF.sub [2, 3, 4, 5, 6, 7, 8, 12, 13] rfl ?_
            exact h
          · replace h := h.2 c192
            refine r_iconst dL_law_749 (by decide) ?_
            exact h.elim
      · replace h := h.2 c187
        refine r_iload 0 dL_law_723 rfl ?_
        refine r_sipush dL_law_725 (by decide) (by decide) ?_
        refine r_icmp_ne (tgt := 749) dL_law_728 (by decide) (fun (c193 : r184 = (-1007)) => ?_) (fun (c193 : ¬ (r184 = (-1007))) => ?_)
        · replace h := h.1 c193
          refine r_iload 0 dL_law_731 rfl ?_
          refine r_if_le (tgt := 751) dL_law_733 (by decide) (fun (c194 : r184 ≤ 0) => ?_) (fun (c194 : ¬ (r184 ≤ 0)) => ?_)
          · replace h := h.1 c194
            refine r_goto (tgt := 1150) dL_law_751 (by decide) ?_
            refine MWF.sub [2, 3, 4, 5, 6, 7, 8, 12, 13] rfl ?_
            exact h
          · replace h := h.2 c194
            refine r_aload_n 3 dL_law_736 rfl rfl ?_
            refine r_iconst dL_law_737 (by decide) ?_
            refine r_callV [vI 3] [] dL_law_738 okX7_count ivX7_count seX7_count lm_L_25 rfl rfl sh_0 rfl ⟨Nat.le_of_ble_eq_true rfl, Nat.le_of_ble_eq_true rfl, Nat.le_of_ble_eq_true rfl, Nat.le_of_ble_eq_true rfl⟩ h ?_
            rintro _ s196 ⟨r195, rfl, h⟩
            refine r_iload 1 dL_law_741 rfl ?_
            refine r_iload 0 dL_law_743 rfl ?_
            obtain ⟨b197, h⟩ := h
            refine r_isub dL_law_745 b197 ?_
            refine r_icmp_eq (tgt := 751) dL_law_746 (by decide) (fun (c198 : r195 = (r182 - r184)) => ?_) (fun (c198 : ¬ (r195 = (r182 - r184))) => ?_)
            · replace h := h.1 c198
              refine r_goto (tgt := 1150) dL_law_751 (by decide) ?_
              refine MWF.sub [2, 3, 4, 5, 6, 7, 8, 12, 13] rfl ?_
              exact h
            · replace h := h.2 c198
              refine r_iconst dL_law_749 (by decide) ?_
              exact h.elim
        · replace h := h.2 c193
          refine r_iconst dL_law_749 (by decide) ?_
          exact h.elim
  · replace h := h.2 c181
    refine MWF.sub [0, 1, 2, 3, 4, 5, 6, 7, 8, 9, 10] rfl ?_
    exact h
set_option maxRecDepth 100000 in
set_option maxHeartbeats 4000000 in
theorem vcL_law_754 (l : Launch) (G : GT) (hx0 : G.2.2.2.2 = 0) (hb2 : G.2.2.1 228 = b) (hL : L ≤ 260) (hκ : κ ≤ 100) (σ : Sto) (x4 : Int) (x5 : Int) (x6 : Int) (x7 : Int) (x8 : Int) (x9 : Int) (x10 : Int) (x11 : Int64)
    (h : (x8 = 10 → CLi l G mX7_undo [vR 0] σ (fun r200 s201 => ((¬ (x5 = 0) → (-2147483648 ≤ x5 - 1 ∧ x5 - 1 ≤ 2147483647) ∧ True)) ∧ ∀ y205 : Int, y205 = (if x5 = 0 then (-1007) else (x5 - 1)) → (r200 = y205 → ((¬ (x5 = 0) → (-2147483648 ≤ x5 - 1 ∧ x5 - 1 ≤ 2147483647) ∧ True)) ∧ ∀ y213 : Int, y213 = (if x5 = 0 then 0 else (x5 - 1)) → CLj l G mL_print [vR 0] s201 (fun r217 s218 => MWF l G mL (FL b L xs κ) 1150 [(0, vR 228), (1, vR 0), (2, vR 56), (4, vI x4), (5, vI y213), (6, vI x6), (7, vI x7), (11, vJ r217), (13, vI y213)] [] s218)) ∧ (¬ (r200 = y205) → False))) ∧ (¬ (x8 = 10) → MWF l G mL (FL b L xs κ) 817 [(0, vR 228), (1, vR 0), (2, vR 56), (4, vI x4), (5, vI x5), (6, vI x6), (7, vI x7), (8, vI x8), (9, vI x9), (10, vI x10), (11, vJ x11)] [] σ)) :
    MWF l G mL (FL b L xs κ) 754 [(0, vR 228), (1, vR 0), (2, vR 56), (4, vI x4), (5, vI x5), (6, vI x6), (7, vI x7), (8, vI x8), (9, vI x9), (10, vI x10), (11, vJ x11)] [] σ := by
  refine r_iload 7 dL_law_754 rfl ?_
  refine r_bipush dL_law_756 (by decide) (by decide) ?_
  refine r_icmp_ne (tgt := 817) dL_law_758 (by decide) (fun (c199 : x8 = 10) => ?_) (fun (c199 : ¬ (x8 = 10)) => ?_)
  · replace h := h.1 c199
    refine r_aload_n 1 dL_law_761 rfl rfl ?_
    refine r_callV [] [] dL_law_762 okX7_undo ivX7_undo seX7_undo lm_L_115 rfl rfl sh_0 rfl ⟨Nat.le_of_ble_eq_true rfl, Nat.le_of_ble_eq_true rfl, Nat.le_of_ble_eq_true rfl, Nat.le_of_ble_eq_true rfl⟩ h ?_
    rintro _ s201 ⟨r200, rfl, h⟩
    refine r_istore dL_law_765 (by decide) rfl ?_
    refine r_iload 0 dL_law_767 rfl ?_
    refine r_iload 5 dL_law_769 rfl ?_
    obtain ⟨q204, h⟩ := h
    obtain ⟨y205, ey205⟩ : ∃ z : Int, z = (if x5 = 0 then (-1007) else (x5 - 1)) := ⟨_, rfl⟩
    replace h := h y205 ey205
    have hj206 : MWF l G mL (FL b L xs κ) 784 [(0, vR 228), (1, vR 0), (2, vR 56), (4, vI x4), (5, vI x5), (6, vI x6), (7, vI x7)] [vI y205, vI r200] s201 := by
      refine r_icmp_eq (tgt := 789) dL_law_784 (by decide) (fun (c209 : r200 = y205) => ?_) (fun (c209 : ¬ (r200 = y205)) => ?_)
      · replace h := h.1 c209
        refine r_iload 4 dL_law_789 rfl ?_
        obtain ⟨q212, h⟩ := h
        obtain ⟨y213, ey213⟩ : ∃ z : Int, z = (if x5 = 0 then 0 else (x5 - 1)) := ⟨_, rfl⟩
        replace h := h y213 ey213
        have hj214 : MWF l G mL (FL b L xs κ) 802 [(0, vR 228), (1, vR 0), (2, vR 56), (4, vI x4), (6, vI x6), (7, vI x7)] [vI y213] s201 := by
          refine r_istore dL_law_802 (by decide) rfl ?_
          refine r_aload_n 2 dL_law_804 rfl rfl ?_
          refine r_callS [vR 0] [] dL_law_805 okL_print ssL_print lm_L_83 rfl rfl ⟨Nat.le_of_ble_eq_true rfl, Nat.le_of_ble_eq_true rfl, Nat.le_of_ble_eq_true rfl, Nat.le_of_ble_eq_true rfl⟩ h ?_
          rintro _ s218 ⟨r217, rfl, h⟩
          refine r_lstore dL_law_808 (by decide) rfl ?_
          refine r_iload 1 dL_law_810 rfl ?_
          refine r_istore dL_law_812 (by decide) rfl ?_
          refine r_goto (tgt := 1150) dL_law_814 (by decide) ?_
          refine MWF.sub [3, 4, 5, 6, 2, 7, 8, 1, 0] rfl ?_
          exact h
        replace h := q212
        refine r_if_ne (tgt := 798) dL_law_791 (by decide) (fun (c210 : x5 = 0) => ?_) (fun (c210 : ¬ (x5 = 0)) => ?_)
        · refine r_iconst dL_law_794 (by decide) ?_
          refine r_goto (tgt := 802) dL_law_795 (by decide) ?_
          refine MWF.sub [0, 1, 2, 3, 5, 6] rfl ?_
          have q215 : y213 = 0 := by rw [ey213, if_pos c210]
          rw [q215] at hj214
          exact hj214
        · replace h := h c210
          refine r_iload 4 dL_law_798 rfl ?_
          refine r_iconst dL_law_800 (by decide) ?_
          obtain ⟨b211, h⟩ := h
          refine r_isub dL_law_801 b211 ?_
          refine MWF.sub [0, 1, 2, 3, 5, 6] rfl ?_
          have q216 : y213 = (x5 - 1) := by rw [ey213, if_neg c210]
          rw [q216] at hj214
          exact hj214
      · replace h := h.2 c209
        refine r_iconst dL_law_787 (by decide) ?_
        exact h.elim
    replace h := q204
    refine r_if_ne (tgt := 780) dL_law_771 (by decide) (fun (c202 : x5 = 0) => ?_) (fun (c202 : ¬ (x5 = 0)) => ?_)
    · refine r_sipush dL_law_774 (by decide) (by decide) ?_
      refine r_goto (tgt := 784) dL_law_777 (by decide) ?_
      refine MWF.sub [1, 2, 3, 4, 5, 6, 7] rfl ?_
      have q207 : y205 = (-1007) := by rw [ey205, if_pos c202]
      rw [q207] at hj206
      exact hj206
    · replace h := h c202
      refine r_iload 5 dL_law_780 rfl ?_
      refine r_iconst dL_law_782 (by decide) ?_
      obtain ⟨b203, h⟩ := h
      refine r_isub dL_law_783 b203 ?_
      refine MWF.sub [1, 2, 3, 4, 5, 6, 7] rfl ?_
      have q208 : y205 = (x5 - 1) := by rw [ey205, if_neg c202]
      rw [q208] at hj206
      exact hj206
  · replace h := h.2 c199
    refine MWF.sub [0, 1, 2, 3, 4, 5, 6, 7, 8, 9, 10] rfl ?_
    exact h
set_option maxRecDepth 100000 in
set_option maxHeartbeats 4000000 in
theorem vcL_law_817 (l : Launch) (G : GT) (hx0 : G.2.2.2.2 = 0) (hb2 : G.2.2.1 228 = b) (hL : L ≤ 260) (hκ : κ ≤ 100) (σ : Sto) (x4 : Int) (x5 : Int) (x6 : Int) (x7 : Int) (x8 : Int) (x9 : Int) (x10 : Int) (x11 : Int64)
    (h : (x8 = 11 → CLi l G mX7_request [vR 0, vI x9, vI 2] σ (fun r220 s221 => (-2147483648 ≤ r220 + 1 ∧ r220 + 1 ≤ 2147483647) ∧ CLi l G mL_low [vI (shrI x7 8), vI 30] s221 (fun r223 s224 => (-2147483648 ≤ (r220 + 1) - r223 ∧ (r220 + 1) - r223 ≤ 2147483647) ∧ (0 ≤ ((r220 + 1) - r223) → CLi l G mL_low [vI (shrI x7 8), vI 30] s224 (fun r227 s228 => (-2147483648 ≤ (r220 + 1) - r227 ∧ (r220 + 1) - r227 ≤ 2147483647) ∧ MWF l G mL (FL b L xs κ) 870 [(0, vR 228), (1, vR 0), (2, vR 56), (4, vI x4), (5, vI x5), (6, vI x6), (7, vI x7), (9, vI x9), (10, vI x10), (11, vJ x11), (14, vI r220)] [vI ((r220 + 1) - r227)] s228)) ∧ (¬ (0 ≤ ((r220 + 1) - r223)) → MWF l G mL (FL b L xs κ) 870 [(0, vR 228), (1, vR 0), (2, vR 56), (4, vI x4), (5, vI x5), (6, vI x6), (7, vI x7), (9, vI x9), (10, vI x10), (11, vJ x11), (14, vI r220)] [vI 5] s224)))) ∧ (¬ (x8 = 11) → MWF l G mL (FL b L xs κ) 970 [(0, vR 228), (1, vR 0), (2, vR 56), (4, vI x4), (5, vI x5), (6, vI x6), (7, vI x7), (8, vI x8), (9, vI x9), (10, vI x10), (11, vJ x11)] [] σ)) :
    MWF l G mL (FL b L xs κ) 817 [(0, vR 228), (1, vR 0), (2, vR 56), (4, vI x4), (5, vI x5), (6, vI x6), (7, vI x7), (8, vI x8), (9, vI x9), (10, vI x10), (11, vJ x11)] [] σ := by
  refine r_iload 7 dL_law_817 rfl ?_
  refine r_bipush dL_law_819 (by decide) (by decide) ?_
  refine r_icmp_ne (tgt := 970) dL_law_821 (by decide) (fun (c219 : x8 = 11) => ?_) (fun (c219 : ¬ (x8 = 11)) => ?_)
  · replace h := h.1 c219
    refine r_aload_n 1 dL_law_824 rfl rfl ?_
    refine r_iload 8 dL_law_825 rfl ?_
    refine r_iconst dL_law_827 (by decide) ?_
    refine r_callV [vI x9, vI 2] [] dL_law_828 okX7_request ivX7_request seX7_request lm_L_36 rfl rfl sh_0 rfl ⟨Nat.le_of_ble_eq_true rfl, Nat.le_of_ble_eq_true rfl, Nat.le_of_ble_eq_true rfl, Nat.le_of_ble_eq_true rfl⟩ h ?_
    rintro _ s221 ⟨r220, rfl, h⟩
    refine r_istore dL_law_831 (by decide) rfl ?_
    refine r_iload 0 dL_law_833 rfl ?_
    refine r_iconst dL_law_835 (by decide) ?_
    obtain ⟨b222, h⟩ := h
    refine r_iadd dL_law_836 b222 ?_
    refine r_iload 7 dL_law_837 rfl ?_
    refine r_bipush dL_law_839 (by decide) (by decide) ?_
    refine r_ishr dL_law_841 ?_
    refine r_bipush dL_law_842 (by decide) (by decide) ?_
    refine r_callS [vI (shrI x7 8), vI 30] [vI (r220 + 1)] dL_law_844 okL_low ssL_low lm_L_66 rfl rfl ⟨Nat.le_of_ble_eq_true rfl, Nat.le_of_ble_eq_true rfl, Nat.le_of_ble_eq_true rfl, Nat.le_of_ble_eq_true rfl⟩ h ?_
    rintro _ s224 ⟨r223, rfl, h⟩
    obtain ⟨b225, h⟩ := h
    refine r_isub dL_law_847 b225 ?_
    refine r_if_ge (tgt := 855) dL_law_848 (by decide) (fun (c226 : 0 ≤ ((r220 + 1) - r223)) => ?_) (fun (c226 : ¬ (0 ≤ ((r220 + 1) - r223))) => ?_)
    · replace h := h.1 c226
      refine r_iload 0 dL_law_855 rfl ?_
      refine r_iconst dL_law_857 (by decide) ?_
      refine r_iadd dL_law_858 b222 ?_
      refine r_iload 7 dL_law_859 rfl ?_
      refine r_bipush dL_law_861 (by decide) (by decide) ?_
      refine r_ishr dL_law_863 ?_
      refine r_bipush dL_law_864 (by decide) (by decide) ?_
      refine r_callS [vI (shrI x7 8), vI 30] [vI (r220 + 1)] dL_law_866 okL_low ssL_low lm_L_66 rfl rfl ⟨Nat.le_of_ble_eq_true rfl, Nat.le_of_ble_eq_true rfl, Nat.le_of_ble_eq_true rfl, Nat.le_of_ble_eq_true rfl⟩ h ?_
      rintro _ s228 ⟨r227, rfl, h⟩
      obtain ⟨b229, h⟩ := h
      refine r_isub dL_law_869 b229 ?_
      refine MWF.sub [1, 2, 3, 4, 5, 6, 7, 9, 10, 11, 0] rfl ?_
      exact h
    · replace h := h.2 c226
      refine r_iconst dL_law_851 (by decide) ?_
      refine r_goto (tgt := 870) dL_law_852 (by decide) ?_
      refine MWF.sub [1, 2, 3, 4, 5, 6, 7, 9, 10, 11, 0] rfl ?_
      exact h
  · replace h := h.2 c219
    refine MWF.sub [0, 1, 2, 3, 4, 5, 6, 7, 8, 9, 10] rfl ?_
    exact h
set_option maxRecDepth 100000 in
set_option maxHeartbeats 4000000 in
theorem vcL_law_870 (l : Launch) (G : GT) (hx0 : G.2.2.2.2 = 0) (hb2 : G.2.2.1 228 = b) (hL : L ≤ 260) (hκ : κ ≤ 100) (σ : Sto) (x4 : Int) (x5 : Int) (x6 : Int) (x7 : Int) (x9 : Int) (x10 : Int) (x11 : Int64) (x14 : Int) (z0 : Int)
    (h : CLi l G mX7_setLimit [vR 0, vI x9, vI z0] σ (fun r230 s231 => ∀ y234 : Int, y234 = (if r230 < 0 then 0 else (if z0 = x14 then 0 else 1)) → (r230 = x14 → MWF l G mL (FL b L xs κ) 916 [(0, vR 228), (1, vR 0), (2, vR 56), (4, vI x4), (5, vI x5), (6, vI x6), (7, vI x7), (9, vI x9), (10, vI x10), (11, vJ x11), (14, vI x14), (15, vI z0), (16, vI r230), (17, vI y234)] [] s231) ∧ (¬ (r230 = x14) → (r230 = (-1005) → MWF l G mL (FL b L xs κ) 916 [(0, vR 228), (1, vR 0), (2, vR 56), (4, vI x4), (5, vI x5), (6, vI x6), (7, vI x7), (9, vI x9), (10, vI x10), (11, vJ x11), (14, vI x14), (15, vI z0), (16, vI r230), (17, vI y234)] [] s231) ∧ (¬ (r230 = (-1005)) → False)))) :
    MWF l G mL (FL b L xs κ) 870 [(0, vR 228), (1, vR 0), (2, vR 56), (4, vI x4), (5, vI x5), (6, vI x6), (7, vI x7), (9, vI x9), (10, vI x10), (11, vJ x11), (14, vI x14)] [vI z0] σ := by
  refine r_istore dL_law_870 (by decide) rfl ?_
  refine r_aload_n 2 dL_law_872 rfl rfl ?_
  refine r_iload 8 dL_law_873 rfl ?_
  refine r_iload 0 dL_law_875 rfl ?_
  refine r_callV [vI x9, vI z0] [] dL_law_877 okX7_setLimit ivX7_setLimit seX7_setLimit lm_L_102 rfl rfl sh_0 rfl ⟨Nat.le_of_ble_eq_true rfl, Nat.le_of_ble_eq_true rfl, Nat.le_of_ble_eq_true rfl, Nat.le_of_ble_eq_true rfl⟩ h ?_
  rintro _ s231 ⟨r230, rfl, h⟩
  refine r_istore dL_law_880 (by decide) rfl ?_
  refine r_iload 0 dL_law_882 rfl ?_
  obtain ⟨y234, ey234⟩ : ∃ z : Int, z = (if r230 < 0 then 0 else (if z0 = x14 then 0 else 1)) := ⟨_, rfl⟩
  replace h := h y234 ey234
  have hj235 : MWF l G mL (FL b L xs κ) 899 [(0, vR 228), (1, vR 0), (2, vR 56), (4, vI x4), (5, vI x5), (6, vI x6), (7, vI x7), (9, vI x9), (10, vI x10), (11, vJ x11), (14, vI x14), (15, vI z0), (16, vI r230)] [vI y234] s231 := by
    refine r_istore dL_law_899 (by decide) rfl ?_
    refine r_iload 13 dL_law_901 rfl ?_
    refine r_iload 11 dL_law_903 rfl ?_
    refine r_icmp_eq (tgt := 916) dL_law_905 (by decide) (fun (c239 : r230 = x14) => ?_) (fun (c239 : ¬ (r230 = x14)) => ?_)
    · replace h := h.1 c239
      refine MWF.sub [1, 2, 3, 4, 5, 6, 7, 8, 9, 10, 11, 12, 13, 0] rfl ?_
      exact h
    · replace h := h.2 c239
      refine r_iload 13 dL_law_908 rfl ?_
      refine r_sipush dL_law_910 (by decide) (by decide) ?_
      refine r_icmp_ne (tgt := 948) dL_law_913 (by decide) (fun (c240 : r230 = (-1005)) => ?_) (fun (c240 : ¬ (r230 = (-1005))) => ?_)
      · replace h := h.1 c240
        refine MWF.sub [1, 2, 3, 4, 5, 6, 7, 8, 9, 10, 11, 12, 13, 0] rfl ?_
        exact h
      · replace h := h.2 c240
        refine r_iconst dL_law_948 (by decide) ?_
        exact h.elim
  refine r_if_lt (tgt := 898) dL_law_884 (by decide) (fun (c232 : r230 < 0) => ?_) (fun (c232 : ¬ (r230 < 0)) => ?_)
  · refine r_iconst dL_law_898 (by decide) ?_
    refine MWF.sub [2, 3, 4, 5, 6, 7, 8, 9, 10, 11, 12, 1, 0] rfl ?_
    have q236 : y234 = 0 := by rw [ey234, if_pos c232]
    rw [q236] at hj235
    exact hj235
  · refine r_iload 1 dL_law_887 rfl ?_
    refine r_iload 12 dL_law_889 rfl ?_
    refine r_icmp_eq (tgt := 898) dL_law_891 (by decide) (fun (c233 : z0 = x14) => ?_) (fun (c233 : ¬ (z0 = x14)) => ?_)
    · refine r_iconst dL_law_898 (by decide) ?_
      refine MWF.sub [2, 3, 4, 5, 6, 7, 8, 9, 10, 11, 12, 1, 0] rfl ?_
      have q237 : y234 = 0 := by rw [ey234, if_neg c232, if_pos c233]
      rw [q237] at hj235
      exact hj235
    · refine r_iconst dL_law_894 (by decide) ?_
      refine r_goto (tgt := 899) dL_law_895 (by decide) ?_
      refine MWF.sub [2, 3, 4, 5, 6, 7, 8, 9, 10, 11, 12, 1, 0] rfl ?_
      have q238 : y234 = 1 := by rw [ey234, if_neg c232, if_neg c233]
      rw [q238] at hj235
      exact hj235
set_option maxRecDepth 100000 in
set_option maxHeartbeats 4000000 in
theorem vcL_law_970 (l : Launch) (G : GT) (hx0 : G.2.2.2.2 = 0) (hb2 : G.2.2.1 228 = b) (hL : L ≤ 260) (hκ : κ ≤ 100) (σ : Sto) (x4 : Int) (x5 : Int) (x6 : Int) (x7 : Int) (x8 : Int) (x9 : Int) (x10 : Int) (x11 : Int64)
    (h : (x8 = 12 → CLi l G mX7_count [vR 0, vI 4] σ (fun r242 s243 => CLi l G mL_low [vI (shrI x7 8), vI 4] s243 (fun r244 s245 => CLi l G mX7_setService [vR 0, vI r244] s245 (fun r246 s247 => (r246 = r242 → MWF l G mL (FL b L xs κ) 1018 [(0, vR 228), (1, vR 0), (2, vR 56), (4, vI x4), (5, vI x5), (6, vI x6), (7, vI x7), (11, vJ x11), (14, vI r242), (15, vI r244), (16, vI r246)] [] s247) ∧ (¬ (r246 = r242) → (r246 = (-1005) → MWF l G mL (FL b L xs κ) 1018 [(0, vR 228), (1, vR 0), (2, vR 56), (4, vI x4), (5, vI x5), (6, vI x6), (7, vI x7), (11, vJ x11), (14, vI r242), (15, vI r244), (16, vI r246)] [] s247) ∧ (¬ (r246 = (-1005)) → False)))))) ∧ (¬ (x8 = 12) → MWF l G mL (FL b L xs κ) 1067 [(0, vR 228), (1, vR 0), (2, vR 56), (4, vI x4), (5, vI x5), (6, vI x6), (7, vI x7), (9, vI x9), (10, vI x10), (11, vJ x11)] [] σ)) :
    MWF l G mL (FL b L xs κ) 970 [(0, vR 228), (1, vR 0), (2, vR 56), (4, vI x4), (5, vI x5), (6, vI x6), (7, vI x7), (8, vI x8), (9, vI x9), (10, vI x10), (11, vJ x11)] [] σ := by
  refine r_iload 7 dL_law_970 rfl ?_
  refine r_bipush dL_law_972 (by decide) (by decide) ?_
  refine r_icmp_ne (tgt := 1067) dL_law_974 (by decide) (fun (c241 : x8 = 12) => ?_) (fun (c241 : ¬ (x8 = 12)) => ?_)
  · replace h := h.1 c241
    refine r_aload_n 1 dL_law_977 rfl rfl ?_
    refine r_iconst dL_law_978 (by decide) ?_
    refine r_callV [vI 4] [] dL_law_979 okX7_count ivX7_count seX7_count lm_L_25 rfl rfl sh_0 rfl ⟨Nat.le_of_ble_eq_true rfl, Nat.le_of_ble_eq_true rfl, Nat.le_of_ble_eq_true rfl, Nat.le_of_ble_eq_true rfl⟩ h ?_
    rintro _ s243 ⟨r242, rfl, h⟩
    refine r_istore dL_law_982 (by decide) rfl ?_
    refine r_iload 7 dL_law_984 rfl ?_
    refine r_bipush dL_law_986 (by decide) (by decide) ?_
    refine r_ishr dL_law_988 ?_
    refine r_iconst dL_law_989 (by decide) ?_
    refine r_callS [vI (shrI x7 8), vI 4] [] dL_law_990 okL_low ssL_low lm_L_66 rfl rfl ⟨Nat.le_of_ble_eq_true rfl, Nat.le_of_ble_eq_true rfl, Nat.le_of_ble_eq_true rfl, Nat.le_of_ble_eq_true rfl⟩ h ?_
    rintro _ s245 ⟨r244, rfl, h⟩
    refine r_istore dL_law_993 (by decide) rfl ?_
    refine r_aload_n 3 dL_law_995 rfl rfl ?_
    refine r_iload 0 dL_law_996 rfl ?_
    refine r_callV [vI r244] [] dL_law_998 okX7_setService ivX7_setService seX7_setService lm_L_108 rfl rfl sh_0 rfl ⟨Nat.le_of_ble_eq_true rfl, Nat.le_of_ble_eq_true rfl, Nat.le_of_ble_eq_true rfl, Nat.le_of_ble_eq_true rfl⟩ h ?_
    rintro _ s247 ⟨r246, rfl, h⟩
    refine r_istore dL_law_1001 (by decide) rfl ?_
    refine r_iload 0 dL_law_1003 rfl ?_
    refine r_iload 2 dL_law_1005 rfl ?_
    refine r_icmp_eq (tgt := 1018) dL_law_1007 (by decide) (fun (c248 : r246 = r242) => ?_) (fun (c248 : ¬ (r246 = r242)) => ?_)
    · replace h := h.1 c248
      refine MWF.sub [3, 4, 5, 6, 7, 8, 9, 13, 2, 1, 0] rfl ?_
      exact h
    · replace h := h.2 c248
      refine r_iload 0 dL_law_1010 rfl ?_
      refine r_sipush dL_law_1012 (by decide) (by decide) ?_
      refine r_icmp_ne (tgt := 1038) dL_law_1015 (by decide) (fun (c249 : r246 = (-1005)) => ?_) (fun (c249 : ¬ (r246 = (-1005))) => ?_)
      · replace h := h.1 c249
        refine MWF.sub [3, 4, 5, 6, 7, 8, 9, 13, 2, 1, 0] rfl ?_
        exact h
      · replace h := h.2 c249
        refine r_iconst dL_law_1038 (by decide) ?_
        exact h.elim
  · replace h := h.2 c241
    refine MWF.sub [0, 1, 2, 3, 4, 5, 6, 8, 9, 10] rfl ?_
    exact h
set_option maxRecDepth 100000 in
set_option maxHeartbeats 4000000 in
theorem vcL_law_916 (l : Launch) (G : GT) (hx0 : G.2.2.2.2 = 0) (hb2 : G.2.2.1 228 = b) (hL : L ≤ 260) (hκ : κ ≤ 100) (σ : Sto) (x4 : Int) (x5 : Int) (x6 : Int) (x7 : Int) (x9 : Int) (x10 : Int) (x11 : Int64) (x14 : Int) (x15 : Int) (x16 : Int) (x17 : Int)
    (h : (x10 = 0 → MWF l G mL (FL b L xs κ) 926 [(0, vR 228), (1, vR 0), (2, vR 56), (4, vI x4), (5, vI x5), (6, vI x6), (7, vI x7), (9, vI x9), (11, vJ x11), (14, vI x14), (15, vI x15), (16, vI x16), (17, vI x17)] [] σ) ∧ (¬ (x10 = 0) → (x16 < 0 → False) ∧ (¬ (x16 < 0) → MWF l G mL (FL b L xs κ) 926 [(0, vR 228), (1, vR 0), (2, vR 56), (4, vI x4), (5, vI x5), (6, vI x6), (7, vI x7), (9, vI x9), (11, vJ x11), (14, vI x14), (15, vI x15), (16, vI x16), (17, vI x17)] [] σ))) :
    MWF l G mL (FL b L xs κ) 916 [(0, vR 228), (1, vR 0), (2, vR 56), (4, vI x4), (5, vI x5), (6, vI x6), (7, vI x7), (9, vI x9), (10, vI x10), (11, vJ x11), (14, vI x14), (15, vI x15), (16, vI x16), (17, vI x17)] [] σ := by
  refine r_iload 8 dL_law_916 rfl ?_
  refine r_if_eq (tgt := 926) dL_law_918 (by decide) (fun (c250 : x10 = 0) => ?_) (fun (c250 : ¬ (x10 = 0)) => ?_)
  · replace h := h.1 c250
    refine MWF.sub [0, 1, 2, 3, 4, 5, 6, 7, 9, 10, 11, 12, 13] rfl ?_
    exact h
  · replace h := h.2 c250
    refine r_iload 12 dL_law_921 rfl ?_
    refine r_if_lt (tgt := 948) dL_law_923 (by decide) (fun (c251 : x16 < 0) => ?_) (fun (c251 : ¬ (x16 < 0)) => ?_)
    · replace h := h.1 c251
      refine r_iconst dL_law_948 (by decide) ?_
      exact h.elim
    · replace h := h.2 c251
      refine MWF.sub [0, 1, 2, 3, 4, 5, 6, 7, 9, 10, 11, 12, 13] rfl ?_
      exact h
set_option maxRecDepth 100000 in
set_option maxHeartbeats 4000000 in
theorem vcL_law_1018 (l : Launch) (G : GT) (hx0 : G.2.2.2.2 = 0) (hb2 : G.2.2.1 228 = b) (hL : L ≤ 260) (hκ : κ ≤ 100) (σ : Sto) (x4 : Int) (x5 : Int) (x6 : Int) (x7 : Int) (x11 : Int64) (x14 : Int) (x15 : Int) (x16 : Int)
    (h : CLi l G mX7_count [vR 0, vI 4] σ (fun r252 s253 => ∀ y255 : Int, y255 = (if 0 ≤ x16 then x15 else x14) → (r252 = y255 → MWF l G mL (FL b L xs κ) 1040 [(0, vR 228), (1, vR 0), (2, vR 56), (4, vI x4), (5, vI x5), (6, vI x6), (7, vI x7), (11, vJ x11), (14, vI x14), (15, vI x15), (16, vI x16)] [] s253) ∧ (¬ (r252 = y255) → False))) :
    MWF l G mL (FL b L xs κ) 1018 [(0, vR 228), (1, vR 0), (2, vR 56), (4, vI x4), (5, vI x5), (6, vI x6), (7, vI x7), (11, vJ x11), (14, vI x14), (15, vI x15), (16, vI x16)] [] σ := by
  refine r_aload_n 1 dL_law_1018 rfl rfl ?_
  refine r_iconst dL_law_1019 (by decide) ?_
  refine r_callV [vI 4] [] dL_law_1020 okX7_count ivX7_count seX7_count lm_L_25 rfl rfl sh_0 rfl ⟨Nat.le_of_ble_eq_true rfl, Nat.le_of_ble_eq_true rfl, Nat.le_of_ble_eq_true rfl, Nat.le_of_ble_eq_true rfl⟩ h ?_
  rintro _ s253 ⟨r252, rfl, h⟩
  refine r_iload 10 dL_law_1023 rfl ?_
  obtain ⟨y255, ey255⟩ : ∃ z : Int, z = (if 0 ≤ x16 then x15 else x14) := ⟨_, rfl⟩
  replace h := h y255 ey255
  have hj256 : MWF l G mL (FL b L xs κ) 1035 [(0, vR 228), (1, vR 0), (2, vR 56), (4, vI x4), (5, vI x5), (6, vI x6), (7, vI x7), (11, vJ x11), (14, vI x14), (15, vI x15), (16, vI x16)] [vI y255, vI r252] s253 := by
    refine r_icmp_eq (tgt := 1040) dL_law_1035 (by decide) (fun (c259 : r252 = y255) => ?_) (fun (c259 : ¬ (r252 = y255)) => ?_)
    · replace h := h.1 c259
      refine MWF.sub [0, 1, 2, 3, 4, 5, 6, 7, 8, 9, 10] rfl ?_
      exact h
    · replace h := h.2 c259
      refine r_iconst dL_law_1038 (by decide) ?_
      exact h.elim
  refine r_if_ge (tgt := 1033) dL_law_1025 (by decide) (fun (c254 : 0 ≤ x16) => ?_) (fun (c254 : ¬ (0 ≤ x16)) => ?_)
  · refine r_iload 9 dL_law_1033 rfl ?_
    refine MWF.sub [0, 1, 2, 3, 4, 5, 6, 7, 8, 9, 10] rfl ?_
    have q257 : y255 = x15 := by rw [ey255, if_pos c254]
    rw [q257] at hj256
    exact hj256
  · refine r_iload 8 dL_law_1028 rfl ?_
    refine r_goto (tgt := 1035) dL_law_1030 (by decide) ?_
    refine MWF.sub [0, 1, 2, 3, 4, 5, 6, 7, 8, 9, 10] rfl ?_
    have q258 : y255 = x14 := by rw [ey255, if_neg c254]
    rw [q258] at hj256
    exact hj256
set_option maxRecDepth 100000 in
set_option maxHeartbeats 4000000 in
theorem vcL_law_1067 (l : Launch) (G : GT) (hx0 : G.2.2.2.2 = 0) (hb2 : G.2.2.1 228 = b) (hL : L ≤ 260) (hκ : κ ≤ 100) (σ : Sto) (x4 : Int) (x5 : Int) (x6 : Int) (x7 : Int) (x9 : Int) (x10 : Int) (x11 : Int64)
    (h : CLi l G mX7_request [vR 0, vI x9, vI 1] σ (fun r260 s261 => CLi l G mL_low [vI (shrI x7 8), vI 4] s261 (fun r262 s263 => (-2147483648 ≤ 1 + r262 ∧ 1 + r262 ≤ 2147483647) ∧ CLi l G mX7_setLoad [vR 0, vI x9, vI (1 + r262)] s263 (fun r265 s266 => (r265 = r260 → MWF l G mL (FL b L xs κ) 1114 [(0, vR 228), (1, vR 0), (2, vR 56), (4, vI x4), (5, vI x5), (6, vI x6), (7, vI x7), (10, vI x10), (11, vJ x11), (14, vI r260), (15, vI (1 + r262)), (16, vI r265)] [] s266) ∧ (¬ (r265 = r260) → (r265 = (-1005) → MWF l G mL (FL b L xs κ) 1114 [(0, vR 228), (1, vR 0), (2, vR 56), (4, vI x4), (5, vI x5), (6, vI x6), (7, vI x7), (10, vI x10), (11, vJ x11), (14, vI r260), (15, vI (1 + r262)), (16, vI r265)] [] s266) ∧ (¬ (r265 = (-1005)) → False)))))) :
    MWF l G mL (FL b L xs κ) 1067 [(0, vR 228), (1, vR 0), (2, vR 56), (4, vI x4), (5, vI x5), (6, vI x6), (7, vI x7), (9, vI x9), (10, vI x10), (11, vJ x11)] [] σ := by
  refine r_aload_n 1 dL_law_1067 rfl rfl ?_
  refine r_iload 7 dL_law_1068 rfl ?_
  refine r_iconst dL_law_1070 (by decide) ?_
  refine r_callV [vI x9, vI 1] [] dL_law_1071 okX7_request ivX7_request seX7_request lm_L_36 rfl rfl sh_0 rfl ⟨Nat.le_of_ble_eq_true rfl, Nat.le_of_ble_eq_true rfl, Nat.le_of_ble_eq_true rfl, Nat.le_of_ble_eq_true rfl⟩ h ?_
  rintro _ s261 ⟨r260, rfl, h⟩
  refine r_istore dL_law_1074 (by decide) rfl ?_
  refine r_iconst dL_law_1076 (by decide) ?_
  refine r_iload 7 dL_law_1077 rfl ?_
  refine r_bipush dL_law_1079 (by decide) (by decide) ?_
  refine r_ishr dL_law_1081 ?_
  refine r_iconst dL_law_1082 (by decide) ?_
  refine r_callS [vI (shrI x7 8), vI 4] [vI 1] dL_law_1083 okL_low ssL_low lm_L_66 rfl rfl ⟨Nat.le_of_ble_eq_true rfl, Nat.le_of_ble_eq_true rfl, Nat.le_of_ble_eq_true rfl, Nat.le_of_ble_eq_true rfl⟩ h ?_
  rintro _ s263 ⟨r262, rfl, h⟩
  obtain ⟨b264, h⟩ := h
  refine r_iadd dL_law_1086 b264 ?_
  refine r_istore dL_law_1087 (by decide) rfl ?_
  refine r_aload_n 3 dL_law_1089 rfl rfl ?_
  refine r_iload 9 dL_law_1090 rfl ?_
  refine r_iload 0 dL_law_1092 rfl ?_
  refine r_callV [vI x9, vI (1 + r262)] [] dL_law_1094 okX7_setLoad ivX7_setLoad seX7_setLoad lm_L_105 rfl rfl sh_0 rfl ⟨Nat.le_of_ble_eq_true rfl, Nat.le_of_ble_eq_true rfl, Nat.le_of_ble_eq_true rfl, Nat.le_of_ble_eq_true rfl⟩ h ?_
  rintro _ s266 ⟨r265, rfl, h⟩
  refine r_istore dL_law_1097 (by decide) rfl ?_
  refine r_iload 0 dL_law_1099 rfl ?_
  refine r_iload 2 dL_law_1101 rfl ?_
  refine r_icmp_eq (tgt := 1114) dL_law_1103 (by decide) (fun (c267 : r265 = r260) => ?_) (fun (c267 : ¬ (r265 = r260)) => ?_)
  · replace h := h.1 c267
    refine MWF.sub [3, 4, 5, 6, 7, 8, 9, 11, 12, 2, 1, 0] rfl ?_
    exact h
  · replace h := h.2 c267
    refine r_iload 0 dL_law_1106 rfl ?_
    refine r_sipush dL_law_1108 (by decide) (by decide) ?_
    refine r_icmp_ne (tgt := 1124) dL_law_1111 (by decide) (fun (c268 : r265 = (-1005)) => ?_) (fun (c268 : ¬ (r265 = (-1005))) => ?_)
    · replace h := h.1 c268
      refine MWF.sub [3, 4, 5, 6, 7, 8, 9, 11, 12, 2, 1, 0] rfl ?_
      exact h
    · replace h := h.2 c268
      refine r_iconst dL_law_1124 (by decide) ?_
      exact h.elim
set_option maxRecDepth 100000 in
set_option maxHeartbeats 4000000 in
theorem vcL_law_926 (l : Launch) (G : GT) (hx0 : G.2.2.2.2 = 0) (hb2 : G.2.2.1 228 = b) (hL : L ≤ 260) (hκ : κ ≤ 100) (σ : Sto) (x4 : Int) (x5 : Int) (x6 : Int) (x7 : Int) (x9 : Int) (x11 : Int64) (x14 : Int) (x15 : Int) (x16 : Int) (x17 : Int)
    (h : CLi l G mX7_request [vR 0, vI x9, vI 2] σ (fun r269 s270 => ∀ y272 : Int, y272 = (if 0 ≤ x16 then x15 else x14) → (r269 = y272 → MWF l G mL (FL b L xs κ) 950 [(0, vR 228), (1, vR 0), (2, vR 56), (4, vI x4), (5, vI x5), (6, vI x6), (7, vI x7), (11, vJ x11), (17, vI x17)] [] s270) ∧ (¬ (r269 = y272) → False))) :
    MWF l G mL (FL b L xs κ) 926 [(0, vR 228), (1, vR 0), (2, vR 56), (4, vI x4), (5, vI x5), (6, vI x6), (7, vI x7), (9, vI x9), (11, vJ x11), (14, vI x14), (15, vI x15), (16, vI x16), (17, vI x17)] [] σ := by
  refine r_aload_n 1 dL_law_926 rfl rfl ?_
  refine r_iload 7 dL_law_927 rfl ?_
  refine r_iconst dL_law_929 (by decide) ?_
  refine r_callV [vI x9, vI 2] [] dL_law_930 okX7_request ivX7_request seX7_request lm_L_36 rfl rfl sh_0 rfl ⟨Nat.le_of_ble_eq_true rfl, Nat.le_of_ble_eq_true rfl, Nat.le_of_ble_eq_true rfl, Nat.le_of_ble_eq_true rfl⟩ h ?_
  rintro _ s270 ⟨r269, rfl, h⟩
  refine r_iload 11 dL_law_933 rfl ?_
  obtain ⟨y272, ey272⟩ : ∃ z : Int, z = (if 0 ≤ x16 then x15 else x14) := ⟨_, rfl⟩
  replace h := h y272 ey272
  have hj273 : MWF l G mL (FL b L xs κ) 945 [(0, vR 228), (1, vR 0), (2, vR 56), (4, vI x4), (5, vI x5), (6, vI x6), (7, vI x7), (11, vJ x11), (17, vI x17)] [vI y272, vI r269] s270 := by
    refine r_icmp_eq (tgt := 950) dL_law_945 (by decide) (fun (c276 : r269 = y272) => ?_) (fun (c276 : ¬ (r269 = y272)) => ?_)
    · replace h := h.1 c276
      refine MWF.sub [0, 1, 2, 3, 4, 5, 6, 7, 8] rfl ?_
      exact h
    · replace h := h.2 c276
      refine r_iconst dL_law_948 (by decide) ?_
      exact h.elim
  refine r_if_ge (tgt := 943) dL_law_935 (by decide) (fun (c271 : 0 ≤ x16) => ?_) (fun (c271 : ¬ (0 ≤ x16)) => ?_)
  · refine r_iload 10 dL_law_943 rfl ?_
    refine MWF.sub [0, 1, 2, 3, 4, 5, 6, 8, 12] rfl ?_
    have q274 : y272 = x15 := by rw [ey272, if_pos c271]
    rw [q274] at hj273
    exact hj273
  · refine r_iload 9 dL_law_938 rfl ?_
    refine r_goto (tgt := 945) dL_law_940 (by decide) ?_
    refine MWF.sub [0, 1, 2, 3, 4, 5, 6, 8, 12] rfl ?_
    have q275 : y272 = x14 := by rw [ey272, if_neg c271]
    rw [q275] at hj273
    exact hj273
set_option maxRecDepth 100000 in
set_option maxHeartbeats 4000000 in
theorem vcL_law_1040 (l : Launch) (G : GT) (hx0 : G.2.2.2.2 = 0) (hb2 : G.2.2.1 228 = b) (hL : L ≤ 260) (hκ : κ ≤ 100) (σ : Sto) (x4 : Int) (x5 : Int) (x6 : Int) (x7 : Int) (x11 : Int64) (x14 : Int) (x15 : Int) (x16 : Int)
    (h : ∀ y279 : Int, y279 = (if x16 < 0 then x5 else (if x15 = x14 then x5 else 0)) → MWF l G mL (FL b L xs κ) 1150 [(0, vR 228), (1, vR 0), (2, vR 56), (4, vI x4), (5, vI y279), (6, vI x6), (7, vI x7), (11, vJ x11), (13, vI y279)] [] σ) :
    MWF l G mL (FL b L xs κ) 1040 [(0, vR 228), (1, vR 0), (2, vR 56), (4, vI x4), (5, vI x5), (6, vI x6), (7, vI x7), (11, vJ x11), (14, vI x14), (15, vI x15), (16, vI x16)] [] σ := by
  refine r_iload 10 dL_law_1040 rfl ?_
  obtain ⟨y279, ey279⟩ : ∃ z : Int, z = (if x16 < 0 then x5 else (if x15 = x14 then x5 else 0)) := ⟨_, rfl⟩
  replace h := h y279 ey279
  have hj280 : MWF l G mL (FL b L xs κ) 1058 [(0, vR 228), (1, vR 0), (2, vR 56), (4, vI x4), (6, vI x6), (7, vI x7), (11, vJ x11)] [vI y279] σ := by
    refine r_istore dL_law_1058 (by decide) rfl ?_
    refine r_iload 0 dL_law_1060 rfl ?_
    refine r_istore dL_law_1062 (by decide) rfl ?_
    refine r_goto (tgt := 1150) dL_law_1064 (by decide) ?_
    refine MWF.sub [2, 3, 4, 5, 1, 6, 7, 8, 0] rfl ?_
    exact h
  refine r_if_lt (tgt := 1056) dL_law_1042 (by decide) (fun (c277 : x16 < 0) => ?_) (fun (c277 : ¬ (x16 < 0)) => ?_)
  · refine r_iload 4 dL_law_1056 rfl ?_
    refine MWF.sub [0, 1, 2, 3, 5, 6, 7] rfl ?_
    have q281 : y279 = x5 := by rw [ey279, if_pos c277]
    rw [q281] at hj280
    exact hj280
  · refine r_iload 9 dL_law_1045 rfl ?_
    refine r_iload 8 dL_law_1047 rfl ?_
    refine r_icmp_eq (tgt := 1056) dL_law_1049 (by decide) (fun (c278 : x15 = x14) => ?_) (fun (c278 : ¬ (x15 = x14)) => ?_)
    · refine r_iload 4 dL_law_1056 rfl ?_
      refine MWF.sub [0, 1, 2, 3, 5, 6, 7] rfl ?_
      have q282 : y279 = x5 := by rw [ey279, if_neg c277, if_pos c278]
      rw [q282] at hj280
      exact hj280
    · refine r_iconst dL_law_1052 (by decide) ?_
      refine r_goto (tgt := 1058) dL_law_1053 (by decide) ?_
      refine MWF.sub [0, 1, 2, 3, 5, 6, 7] rfl ?_
      have q283 : y279 = 0 := by rw [ey279, if_neg c277, if_neg c278]
      rw [q283] at hj280
      exact hj280
set_option maxRecDepth 100000 in
set_option maxHeartbeats 4000000 in
theorem vcL_law_1114 (l : Launch) (G : GT) (hx0 : G.2.2.2.2 = 0) (hb2 : G.2.2.1 228 = b) (hL : L ≤ 260) (hκ : κ ≤ 100) (σ : Sto) (x4 : Int) (x5 : Int) (x6 : Int) (x7 : Int) (x10 : Int) (x11 : Int64) (x14 : Int) (x15 : Int) (x16 : Int)
    (h : (x10 = 0 → MWF l G mL (FL b L xs κ) 1126 [(0, vR 228), (1, vR 0), (2, vR 56), (4, vI x4), (5, vI x5), (6, vI x6), (7, vI x7), (11, vJ x11), (14, vI x14), (15, vI x15), (16, vI x16)] [] σ) ∧ (¬ (x10 = 0) → (0 ≤ x16 → MWF l G mL (FL b L xs κ) 1126 [(0, vR 228), (1, vR 0), (2, vR 56), (4, vI x4), (5, vI x5), (6, vI x6), (7, vI x7), (11, vJ x11), (14, vI x14), (15, vI x15), (16, vI x16)] [] σ) ∧ (¬ (0 ≤ x16) → False))) :
    MWF l G mL (FL b L xs κ) 1114 [(0, vR 228), (1, vR 0), (2, vR 56), (4, vI x4), (5, vI x5), (6, vI x6), (7, vI x7), (10, vI x10), (11, vJ x11), (14, vI x14), (15, vI x15), (16, vI x16)] [] σ := by
  refine r_iload 7 dL_law_1114 rfl ?_
  refine r_if_eq (tgt := 1126) dL_law_1116 (by decide) (fun (c284 : x10 = 0) => ?_) (fun (c284 : ¬ (x10 = 0)) => ?_)
  · replace h := h.1 c284
    refine MWF.sub [0, 1, 2, 3, 4, 5, 6, 8, 9, 10, 11] rfl ?_
    exact h
  · replace h := h.2 c284
    refine r_iload 11 dL_law_1119 rfl ?_
    refine r_if_ge (tgt := 1126) dL_law_1121 (by decide) (fun (c285 : 0 ≤ x16) => ?_) (fun (c285 : ¬ (0 ≤ x16)) => ?_)
    · replace h := h.1 c285
      refine MWF.sub [0, 1, 2, 3, 4, 5, 6, 8, 9, 10, 11] rfl ?_
      exact h
    · replace h := h.2 c285
      refine r_iconst dL_law_1124 (by decide) ?_
      exact h.elim
set_option maxRecDepth 100000 in
set_option maxHeartbeats 4000000 in
theorem vcL_law_950 (l : Launch) (G : GT) (hx0 : G.2.2.2.2 = 0) (hb2 : G.2.2.1 228 = b) (hL : L ≤ 260) (hκ : κ ≤ 100) (σ : Sto) (x4 : Int) (x5 : Int) (x6 : Int) (x7 : Int) (x11 : Int64) (x17 : Int)
    (h : ∀ y287 : Int, y287 = (if x17 = 0 then x5 else 0) → MWF l G mL (FL b L xs κ) 1150 [(0, vR 228), (1, vR 0), (2, vR 56), (4, vI x4), (5, vI y287), (6, vI x6), (7, vI x7), (11, vJ x11), (13, vI y287)] [] σ) :
    MWF l G mL (FL b L xs κ) 950 [(0, vR 228), (1, vR 0), (2, vR 56), (4, vI x4), (5, vI x5), (6, vI x6), (7, vI x7), (11, vJ x11), (17, vI x17)] [] σ := by
  refine r_iload 8 dL_law_950 rfl ?_
  obtain ⟨y287, ey287⟩ : ∃ z : Int, z = (if x17 = 0 then x5 else 0) := ⟨_, rfl⟩
  replace h := h y287 ey287
  have hj288 : MWF l G mL (FL b L xs κ) 961 [(0, vR 228), (1, vR 0), (2, vR 56), (4, vI x4), (6, vI x6), (7, vI x7), (11, vJ x11)] [vI y287] σ := by
    refine r_istore dL_law_961 (by decide) rfl ?_
    refine r_iload 0 dL_law_963 rfl ?_
    refine r_istore dL_law_965 (by decide) rfl ?_
    refine r_goto (tgt := 1150) dL_law_967 (by decide) ?_
    refine MWF.sub [2, 3, 4, 5, 1, 6, 7, 8, 0] rfl ?_
    exact h
  refine r_if_eq (tgt := 959) dL_law_952 (by decide) (fun (c286 : x17 = 0) => ?_) (fun (c286 : ¬ (x17 = 0)) => ?_)
  · refine r_iload 4 dL_law_959 rfl ?_
    refine MWF.sub [0, 1, 2, 3, 5, 6, 7] rfl ?_
    have q289 : y287 = x5 := by rw [ey287, if_pos c286]
    rw [q289] at hj288
    exact hj288
  · refine r_iconst dL_law_955 (by decide) ?_
    refine r_goto (tgt := 961) dL_law_956 (by decide) ?_
    refine MWF.sub [0, 1, 2, 3, 5, 6, 7] rfl ?_
    have q290 : y287 = 0 := by rw [ey287, if_neg c286]
    rw [q290] at hj288
    exact hj288
set_option maxRecDepth 100000 in
set_option maxHeartbeats 4000000 in
theorem vcL_law_1126 (l : Launch) (G : GT) (hx0 : G.2.2.2.2 = 0) (hb2 : G.2.2.1 228 = b) (hL : L ≤ 260) (hκ : κ ≤ 100) (σ : Sto) (x4 : Int) (x5 : Int) (x6 : Int) (x7 : Int) (x11 : Int64) (x14 : Int) (x15 : Int) (x16 : Int)
    (h : ∀ y293 : Int, y293 = (if x16 < 0 then x5 else (if x15 = x14 then x5 else 0)) → MWF l G mL (FL b L xs κ) 1150 [(0, vR 228), (1, vR 0), (2, vR 56), (4, vI x4), (5, vI y293), (6, vI x6), (7, vI x7), (11, vJ x11), (13, vI y293)] [] σ) :
    MWF l G mL (FL b L xs κ) 1126 [(0, vR 228), (1, vR 0), (2, vR 56), (4, vI x4), (5, vI x5), (6, vI x6), (7, vI x7), (11, vJ x11), (14, vI x14), (15, vI x15), (16, vI x16)] [] σ := by
  refine r_iload 10 dL_law_1126 rfl ?_
  obtain ⟨y293, ey293⟩ : ∃ z : Int, z = (if x16 < 0 then x5 else (if x15 = x14 then x5 else 0)) := ⟨_, rfl⟩
  replace h := h y293 ey293
  have hj294 : MWF l G mL (FL b L xs κ) 1144 [(0, vR 228), (1, vR 0), (2, vR 56), (4, vI x4), (6, vI x6), (7, vI x7), (11, vJ x11)] [vI y293] σ := by
    refine r_istore dL_law_1144 (by decide) rfl ?_
    refine r_iload 0 dL_law_1146 rfl ?_
    refine r_istore dL_law_1148 (by decide) rfl ?_
    refine MWF.sub [2, 3, 4, 5, 1, 6, 7, 8, 0] rfl ?_
    exact h
  refine r_if_lt (tgt := 1142) dL_law_1128 (by decide) (fun (c291 : x16 < 0) => ?_) (fun (c291 : ¬ (x16 < 0)) => ?_)
  · refine r_iload 4 dL_law_1142 rfl ?_
    refine MWF.sub [0, 1, 2, 3, 5, 6, 7] rfl ?_
    have q295 : y293 = x5 := by rw [ey293, if_pos c291]
    rw [q295] at hj294
    exact hj294
  · refine r_iload 9 dL_law_1131 rfl ?_
    refine r_iload 8 dL_law_1133 rfl ?_
    refine r_icmp_eq (tgt := 1142) dL_law_1135 (by decide) (fun (c292 : x15 = x14) => ?_) (fun (c292 : ¬ (x15 = x14)) => ?_)
    · refine r_iload 4 dL_law_1142 rfl ?_
      refine MWF.sub [0, 1, 2, 3, 5, 6, 7] rfl ?_
      have q296 : y293 = x5 := by rw [ey293, if_neg c291, if_pos c292]
      rw [q296] at hj294
      exact hj294
    · refine r_iconst dL_law_1138 (by decide) ?_
      refine r_goto (tgt := 1144) dL_law_1139 (by decide) ?_
      refine MWF.sub [0, 1, 2, 3, 5, 6, 7] rfl ?_
      have q297 : y293 = 0 := by rw [ey293, if_neg c291, if_neg c292]
      rw [q297] at hj294
      exact hj294
end LAWVC

