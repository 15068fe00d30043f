set_option maxRecDepth 100000 in
set_option maxHeartbeats 4000000 in
theorem clX8_in (l : Launch) (G : GT) (σ : Sto) (Q : Int → Sto → Prop) (x0 : Int) (x1 : Int) (x2 : Int)
    (h : ∀ y3 : Int, y3 = (if x0 < x1 then 0 else (if x2 < x0 then 0 else 1)) → Q y3 σ) :
    CLi l G mX8_in [vI x0, vI x1, vI x2] σ Q := by
  show MWi l G mX8_in 0 [(0, vI x0), (1, vI x1), (2, vI x2)] [] σ Q
  refine r_iload_n 0 dX8_in_0 rfl rfl ?_
  refine r_iload_n 1 dX8_in_1 rfl rfl ?_
  obtain ⟨y3, ey3⟩ : ∃ z : Int, z = (if x0 < x1 then 0 else (if x2 < x0 then 0 else 1)) := ⟨_, rfl⟩
  replace h := h y3 ey3
  have hj4 : MWi l G mX8_in 15 [] [vI y3] σ Q := by
    exact r_zret dX8_in_15 rfl (by rw [ey3]; (repeat' split) <;> decide) ⟨_, rfl, h⟩
  refine r_icmp_lt (tgt := 14) dX8_in_2 (by decide) (fun (c1 : x0 < x1) => ?_) (fun (c1 : ¬ (x0 < x1)) => ?_)
  · refine r_iconst dX8_in_14 (by decide) ?_
    refine MWF.sub [] rfl ?_
    have q5 : y3 = 0 := by rw [ey3, if_pos c1]
    rw [q5] at hj4
    exact hj4
  · refine r_iload_n 0 dX8_in_5 rfl rfl ?_
    refine r_iload_n 2 dX8_in_6 rfl rfl ?_
    refine r_icmp_gt (tgt := 14) dX8_in_7 (by decide) (fun (c2 : x2 < x0) => ?_) (fun (c2 : ¬ (x2 < x0)) => ?_)
    · refine r_iconst dX8_in_14 (by decide) ?_
      refine MWF.sub [] rfl ?_
      have q6 : y3 = 0 := by rw [ey3, if_neg c1, if_pos c2]
      rw [q6] at hj4
      exact hj4
    · refine r_iconst dX8_in_10 (by decide) ?_
      refine r_goto (tgt := 15) dX8_in_11 (by decide) ?_
      refine MWF.sub [] rfl ?_
      have q7 : y3 = 1 := by rw [ey3, if_neg c1, if_neg c2]
      rw [q7] at hj4
      exact hj4
set_option maxRecDepth 100000 in
set_option maxHeartbeats 4000000 in
theorem clX8_size (l : Launch) (G : GT) (σ : Sto) (Q : Int → Sto → Prop) (x0 : Int)
    (h : ((¬ (0 ≤ x0) → (-2147483648 ≤ -x0 ∧ -x0 ≤ 2147483647) ∧ True)) ∧ ∀ y4 : Int, y4 = (if 0 ≤ x0 then x0 else (-x0)) → Q y4 σ) :
    CLi l G mX8_size [vI x0] σ Q := by
  show MWi l G mX8_size 0 [(0, vI x0)] [] σ Q
  refine r_iload_n 0 dX8_size_0 rfl rfl ?_
  obtain ⟨q3, h⟩ := h
  obtain ⟨y4, ey4⟩ : ∃ z : Int, z = (if 0 ≤ x0 then x0 else (-x0)) := ⟨_, rfl⟩
  replace h := h y4 ey4
  have hj5 : MWi l G mX8_size 10 [] [vI y4] σ Q := by
    exact r_iret dX8_size_10 rfl ⟨_, rfl, h⟩
  replace h := q3
  refine r_if_ge (tgt := 9) dX8_size_1 (by decide) (fun (c1 : 0 ≤ x0) => ?_) (fun (c1 : ¬ (0 ≤ x0)) => ?_)
  · refine r_iload_n 0 dX8_size_9 rfl rfl ?_
    refine MWF.sub [] rfl ?_
    have q6 : y4 = x0 := by rw [ey4, if_pos c1]
    rw [q6] at hj5
    exact hj5
  · replace h := h c1
    refine r_iload_n 0 dX8_size_4 rfl rfl ?_
    obtain ⟨b2, h⟩ := h
    refine r_ineg dX8_size_5 b2 ?_
    refine r_goto (tgt := 10) dX8_size_6 (by decide) ?_
    refine MWF.sub [] rfl ?_
    have q7 : y4 = (-x0) := by rw [ey4, if_neg c1]
    rw [q7] at hj5
    exact hj5
set_option maxRecDepth 100000 in
set_option maxHeartbeats 4000000 in
theorem clX8_isPlace (l : Launch) (G : GT) (σ : Sto) (Q : Int → Sto → Prop) (x0 : Int) (x1 : Int)
    (h : CLi l G mX8_in [vI x0, vI 0, vI 99] σ (fun r1 s2 => (r1 = 0 → Q 0 s2) ∧ (¬ (r1 = 0) → CLi l G mX8_in [vI x1, vI 0, vI 99] s2 (fun r4 s5 => ∀ y7 : Int, y7 = (if r4 = 0 then 0 else 1) → Q y7 s5)))) :
    CLi l G mX8_isPlace [vI x0, vI x1] σ Q := by
  show MWi l G mX8_isPlace 0 [(0, vI x0), (1, vI x1)] [] σ Q
  refine r_iload_n 0 dX8_isPlace_0 rfl rfl ?_
  refine r_iconst dX8_isPlace_1 (by decide) ?_
  refine r_bipush dX8_isPlace_2 (by decide) (by decide) ?_
  refine r_callS [vI x0, vI 0, vI 99] [] dX8_isPlace_4 okX8_in ssX8_in lm_X8_65 rfl rfl ⟨Nat.le_of_ble_eq_true rfl, Nat.le_of_ble_eq_true rfl, Nat.le_of_ble_eq_true rfl, Nat.le_of_ble_eq_true rfl⟩ h ?_
  rintro _ s2 ⟨r1, rfl, h⟩
  refine r_if_eq (tgt := 24) dX8_isPlace_7 (by decide) (fun (c3 : r1 = 0) => ?_) (fun (c3 : ¬ (r1 = 0)) => ?_)
  · replace h := h.1 c3
    refine r_iconst dX8_isPlace_24 (by decide) ?_
    exact r_zret dX8_isPlace_25 rfl (by decide) ⟨_, rfl, h⟩
  · replace h := h.2 c3
    refine r_iload_n 1 dX8_isPlace_10 rfl rfl ?_
    refine r_iconst dX8_isPlace_11 (by decide) ?_
    refine r_bipush dX8_isPlace_12 (by decide) (by decide) ?_
    refine r_callS [vI x1, vI 0, vI 99] [] dX8_isPlace_14 okX8_in ssX8_in lm_X8_65 rfl rfl ⟨Nat.le_of_ble_eq_true rfl, Nat.le_of_ble_eq_true rfl, Nat.le_of_ble_eq_true rfl, Nat.le_of_ble_eq_true rfl⟩ h ?_
    rintro _ s5 ⟨r4, rfl, h⟩
    obtain ⟨y7, ey7⟩ : ∃ z : Int, z = (if r4 = 0 then 0 else 1) := ⟨_, rfl⟩
    replace h := h y7 ey7
    have hj8 : MWi l G mX8_isPlace 25 [] [vI y7] s5 Q := by
      exact r_zret dX8_isPlace_25 rfl (by rw [ey7]; (repeat' split) <;> decide) ⟨_, rfl, h⟩
    refine r_if_eq (tgt := 24) dX8_isPlace_17 (by decide) (fun (c6 : r4 = 0) => ?_) (fun (c6 : ¬ (r4 = 0)) => ?_)
    · refine r_iconst dX8_isPlace_24 (by decide) ?_
      refine MWF.sub [] rfl ?_
      have q9 : y7 = 0 := by rw [ey7, if_pos c6]
      rw [q9] at hj8
      exact hj8
    · refine r_iconst dX8_isPlace_20 (by decide) ?_
      refine r_goto (tgt := 25) dX8_isPlace_21 (by decide) ?_
      refine MWF.sub [] rfl ?_
      have q10 : y7 = 1 := by rw [ey7, if_neg c6]
      rw [q10] at hj8
      exact hj8
set_option maxRecDepth 100000 in
set_option maxHeartbeats 4000000 in
theorem clX8_noVehicle (l : Launch) (G : GT) (σ : Sto) (Q : Int → Sto → Prop) (x1 : Int)
    (h : (-2147483648 ≤ (σ 56 1) - 1 ∧ (σ 56 1) - 1 ≤ 2147483647) ∧ CLi l G mX8_in [vI x1, vI 0, vI ((σ 56 1) - 1)] σ (fun r2 s3 => ∀ y5 : Int, y5 = (if r2 = 0 then 1 else 0) → Q y5 s3)) :
    CLi l G mX8_noVehicle [vR 56, vI x1] σ Q := by
  show MWi l G mX8_noVehicle 0 [(0, vR 56), (1, vI x1)] [] σ Q
  refine r_iload_n 1 dX8_noVehicle_0 rfl rfl ?_
  refine r_iconst dX8_noVehicle_1 (by decide) ?_
  refine r_aload_n 0 dX8_noVehicle_2 rfl rfl ?_
  refine r_getI (j := 1) dX8_noVehicle_3 sh_56 rfl kc_8 (by decide) lf_X8_69 ?_
  refine r_iconst dX8_noVehicle_6 (by decide) ?_
  obtain ⟨b1, h⟩ := h
  refine r_isub dX8_noVehicle_7 b1 ?_
  refine r_callS [vI x1, vI 0, vI ((σ 56 1) - 1)] [] dX8_noVehicle_8 okX8_in ssX8_in lm_X8_65 rfl rfl ⟨Nat.le_of_ble_eq_true rfl, Nat.le_of_ble_eq_true rfl, Nat.le_of_ble_eq_true rfl, Nat.le_of_ble_eq_true rfl⟩ h ?_
  rintro _ s3 ⟨r2, rfl, h⟩
  obtain ⟨y5, ey5⟩ : ∃ z : Int, z = (if r2 = 0 then 1 else 0) := ⟨_, rfl⟩
  replace h := h y5 ey5
  have hj6 : MWi l G mX8_noVehicle 19 [] [vI y5] s3 Q := by
    exact r_zret dX8_noVehicle_19 rfl (by rw [ey5]; (repeat' split) <;> decide) ⟨_, rfl, h⟩
  refine r_if_ne (tgt := 18) dX8_noVehicle_11 (by decide) (fun (c4 : r2 = 0) => ?_) (fun (c4 : ¬ (r2 = 0)) => ?_)
  · refine r_iconst dX8_noVehicle_14 (by decide) ?_
    refine r_goto (tgt := 19) dX8_noVehicle_15 (by decide) ?_
    refine MWF.sub [] rfl ?_
    have q7 : y5 = 1 := by rw [ey5, if_pos c4]
    rw [q7] at hj6
    exact hj6
  · refine r_iconst dX8_noVehicle_18 (by decide) ?_
    refine MWF.sub [] rfl ?_
    have q8 : y5 = 0 := by rw [ey5, if_neg c4]
    rw [q8] at hj6
    exact hj6
set_option maxRecDepth 100000 in
set_option maxHeartbeats 4000000 in
theorem clX8_noRequest (l : Launch) (G : GT) (σ : Sto) (Q : Int → Sto → Prop) (x1 : Int)
    (h : (-2147483648 ≤ (σ 56 7) - 1 ∧ (σ 56 7) - 1 ≤ 2147483647) ∧ CLi l G mX8_in [vI x1, vI 0, vI ((σ 56 7) - 1)] σ (fun r2 s3 => ∀ y5 : Int, y5 = (if r2 = 0 then 1 else 0) → Q y5 s3)) :
    CLi l G mX8_noRequest [vR 56, vI x1] σ Q := by
  show MWi l G mX8_noRequest 0 [(0, vR 56), (1, vI x1)] [] σ Q
  refine r_iload_n 1 dX8_noRequest_0 rfl rfl ?_
  refine r_iconst dX8_noRequest_1 (by decide) ?_
  refine r_aload_n 0 dX8_noRequest_2 rfl rfl ?_
  refine r_getI (j := 7) dX8_noRequest_3 sh_56 rfl kc_8 (by decide) lf_X8_72 ?_
  refine r_iconst dX8_noRequest_6 (by decide) ?_
  obtain ⟨b1, h⟩ := h
  refine r_isub dX8_noRequest_7 b1 ?_
  refine r_callS [vI x1, vI 0, vI ((σ 56 7) - 1)] [] dX8_noRequest_8 okX8_in ssX8_in lm_X8_65 rfl rfl ⟨Nat.le_of_ble_eq_true rfl, Nat.le_of_ble_eq_true rfl, Nat.le_of_ble_eq_true rfl, Nat.le_of_ble_eq_true rfl⟩ h ?_
  rintro _ s3 ⟨r2, rfl, h⟩
  obtain ⟨y5, ey5⟩ : ∃ z : Int, z = (if r2 = 0 then 1 else 0) := ⟨_, rfl⟩
  replace h := h y5 ey5
  have hj6 : MWi l G mX8_noRequest 19 [] [vI y5] s3 Q := by
    exact r_zret dX8_noRequest_19 rfl (by rw [ey5]; (repeat' split) <;> decide) ⟨_, rfl, h⟩
  refine r_if_ne (tgt := 18) dX8_noRequest_11 (by decide) (fun (c4 : r2 = 0) => ?_) (fun (c4 : ¬ (r2 = 0)) => ?_)
  · refine r_iconst dX8_noRequest_14 (by decide) ?_
    refine r_goto (tgt := 19) dX8_noRequest_15 (by decide) ?_
    refine MWF.sub [] rfl ?_
    have q7 : y5 = 1 := by rw [ey5, if_pos c4]
    rw [q7] at hj6
    exact hj6
  · refine r_iconst dX8_noRequest_18 (by decide) ?_
    refine MWF.sub [] rfl ?_
    have q8 : y5 = 0 := by rw [ey5, if_neg c4]
    rw [q8] at hj6
    exact hj6
set_option maxRecDepth 100000 in
set_option maxHeartbeats 4000000 in
theorem clX8_addVehicle (l : Launch) (G : GT) (σ : Sto) (Q : Int → Sto → Prop) (x1 : Int) (x2 : Int) (x3 : Int) (x4 : Int) (x5 : Int)
    (h : CLi l G mX8_isPlace [vI x1, vI x2] σ (fun r1 s2 => (r1 = 0 → Q (-1002) s2) ∧ (¬ (r1 = 0) → CLi l G mX8_in [vI x3, vI 1, vI 8] s2 (fun r4 s5 => (r4 = 0 → Q (-1002) s5) ∧ (¬ (r4 = 0) → CLi l G mX8_in [vI x4, vI 0, vI 5000] s5 (fun r7 s8 => (r7 = 0 → Q (-1002) s8) ∧ (¬ (r7 = 0) → CLi l G mX8_in [vI x5, vI x4, vI 5000] s8 (fun r10 s11 => (r10 = 0 → Q (-1002) s11) ∧ (¬ (r10 = 0) → ((s11 56 1) = 4 → Q (-1006) s11) ∧ (¬ ((s11 56 1) = 4) → (0 ≤ (s11 56 1) ∧ (s11 56 1) < 4) ∧ (-2147483648 ≤ (s11 56 1) + 1 ∧ (s11 56 1) + 1 ≤ 2147483647) ∧ (-2147483648 ≤ ((s11 56 1) + 1) - 1 ∧ ((s11 56 1) + 1) - 1 ≤ 2147483647) ∧ Q (((s11 56 1) + 1) - 1) (stS (stS (stS (stS (stS (stS (stS s11 57 (s11 56 1).toNat x1) 58 (s11 56 1).toNat x2) 59 (s11 56 1).toNat x3) 60 (s11 56 1).toNat x4) 61 (s11 56 1).toNat x5) 56 1 ((s11 56 1) + 1)) 56 22 0))))))))))) :
    CLi l G mX8_addVehicle [vR 56, vI x1, vI x2, vI x3, vI x4, vI x5] σ Q := by
  show MWi l G mX8_addVehicle 0 [(0, vR 56), (1, vI x1), (2, vI x2), (3, vI x3), (4, vI x4), (5, vI x5)] [] σ Q
  refine r_iload_n 1 dX8_addVehicle_0 rfl rfl ?_
  refine r_iload_n 2 dX8_addVehicle_1 rfl rfl ?_
  refine r_callS [vI x1, vI x2] [] dX8_addVehicle_2 okX8_isPlace ssX8_isPlace lm_X8_75 rfl rfl ⟨Nat.le_of_ble_eq_true rfl, Nat.le_of_ble_eq_true rfl, Nat.le_of_ble_eq_true rfl, Nat.le_of_ble_eq_true rfl⟩ h ?_
  rintro _ s2 ⟨r1, rfl, h⟩
  refine r_if_eq (tgt := 43) dX8_addVehicle_5 (by decide) (fun (c3 : r1 = 0) => ?_) (fun (c3 : ¬ (r1 = 0)) => ?_)
  · replace h := h.1 c3
    refine r_sipush dX8_addVehicle_43 (by decide) (by decide) ?_
    exact r_iret dX8_addVehicle_46 rfl ⟨_, rfl, h⟩
  · replace h := h.2 c3
    refine r_iload_n 3 dX8_addVehicle_8 rfl rfl ?_
    refine r_iconst dX8_addVehicle_9 (by decide) ?_
    refine r_bipush dX8_addVehicle_10 (by decide) (by decide) ?_
    refine r_callS [vI x3, vI 1, vI 8] [] dX8_addVehicle_12 okX8_in ssX8_in lm_X8_65 rfl rfl ⟨Nat.le_of_ble_eq_true rfl, Nat.le_of_ble_eq_true rfl, Nat.le_of_ble_eq_true rfl, Nat.le_of_ble_eq_true rfl⟩ h ?_
    rintro _ s5 ⟨r4, rfl, h⟩
    refine r_if_eq (tgt := 43) dX8_addVehicle_15 (by decide) (fun (c6 : r4 = 0) => ?_) (fun (c6 : ¬ (r4 = 0)) => ?_)
    · replace h := h.1 c6
      refine r_sipush dX8_addVehicle_43 (by decide) (by decide) ?_
      exact r_iret dX8_addVehicle_46 rfl ⟨_, rfl, h⟩
    · replace h := h.2 c6
      refine r_iload 4 dX8_addVehicle_18 rfl ?_
      refine r_iconst dX8_addVehicle_20 (by decide) ?_
      refine r_sipush dX8_addVehicle_21 (by decide) (by decide) ?_
      refine r_callS [vI x4, vI 0, vI 5000] [] dX8_addVehicle_24 okX8_in ssX8_in lm_X8_65 rfl rfl ⟨Nat.le_of_ble_eq_true rfl, Nat.le_of_ble_eq_true rfl, Nat.le_of_ble_eq_true rfl, Nat.le_of_ble_eq_true rfl⟩ h ?_
      rintro _ s8 ⟨r7, rfl, h⟩
      refine r_if_eq (tgt := 43) dX8_addVehicle_27 (by decide) (fun (c9 : r7 = 0) => ?_) (fun (c9 : ¬ (r7 = 0)) => ?_)
      · replace h := h.1 c9
        refine r_sipush dX8_addVehicle_43 (by decide) (by decide) ?_
        exact r_iret dX8_addVehicle_46 rfl ⟨_, rfl, h⟩
      · replace h := h.2 c9
        refine r_iload 5 dX8_addVehicle_30 rfl ?_
        refine r_iload 4 dX8_addVehicle_32 rfl ?_
        refine r_sipush dX8_addVehicle_34 (by decide) (by decide) ?_
        refine r_callS [vI x5, vI x4, vI 5000] [] dX8_addVehicle_37 okX8_in ssX8_in lm_X8_65 rfl rfl ⟨Nat.le_of_ble_eq_true rfl, Nat.le_of_ble_eq_true rfl, Nat.le_of_ble_eq_true rfl, Nat.le_of_ble_eq_true rfl⟩ h ?_
        rintro _ s11 ⟨r10, rfl, h⟩
        refine r_if_ne (tgt := 47) dX8_addVehicle_40 (by decide) (fun (c12 : r10 = 0) => ?_) (fun (c12 : ¬ (r10 = 0)) => ?_)
        · replace h := h.1 c12
          refine r_sipush dX8_addVehicle_43 (by decide) (by decide) ?_
          exact r_iret dX8_addVehicle_46 rfl ⟨_, rfl, h⟩
        · replace h := h.2 c12
          refine r_aload_n 0 dX8_addVehicle_47 rfl rfl ?_
          refine r_getI (j := 1) dX8_addVehicle_48 sh_56 rfl kc_8 (by decide) lf_X8_69 ?_
          refine r_iconst dX8_addVehicle_51 (by decide) ?_
          refine r_icmp_ne (tgt := 59) dX8_addVehicle_52 (by decide) (fun (c13 : (s11 56 1) = 4) => ?_) (fun (c13 : ¬ ((s11 56 1) = 4)) => ?_)
          · replace h := h.1 c13
            refine r_sipush dX8_addVehicle_55 (by decide) (by decide) ?_
            exact r_iret dX8_addVehicle_58 rfl ⟨_, rfl, h⟩
          · replace h := h.2 c13
            refine r_aload_n 0 dX8_addVehicle_59 rfl rfl ?_
            refine r_getR (j := 2) dX8_addVehicle_60 sh_56 rfl kc_8 (by decide) lf_X8_7 ?_
            refine r_aload_n 0 dX8_addVehicle_63 rfl rfl ?_
            refine r_getI (j := 1) dX8_addVehicle_64 sh_56 rfl kc_8 (by decide) lf_X8_69 ?_
            refine r_iload_n 1 dX8_addVehicle_67 rfl rfl ?_
            obtain ⟨b14, h⟩ := h
            refine r_iast dX8_addVehicle_68 sh_57 b14.1 b14.2 ?_
            refine r_aload_n 0 dX8_addVehicle_69 rfl rfl ?_
            refine r_getR (j := 3) dX8_addVehicle_70 sh_56 rfl kc_8 (by decide) lf_X8_13 ?_
            refine r_aload_n 0 dX8_addVehicle_73 rfl rfl ?_
            refine r_getI (j := 1) dX8_addVehicle_74 sh_56 rfl kc_8 (by decide) lf_X8_69 ?_
            refine MWF.top (stS_ne (by decide)) ?_
            refine r_iload_n 2 dX8_addVehicle_77 rfl rfl ?_
            refine r_iast dX8_addVehicle_78 sh_58 b14.1 b14.2 ?_
            refine r_aload_n 0 dX8_addVehicle_79 rfl rfl ?_
            refine r_getR (j := 4) dX8_addVehicle_80 sh_56 rfl kc_8 (by decide) lf_X8_16 ?_
            refine r_aload_n 0 dX8_addVehicle_83 rfl rfl ?_
            refine r_getI (j := 1) dX8_addVehicle_84 sh_56 rfl kc_8 (by decide) lf_X8_69 ?_
            refine MWF.top ((stS_ne (by decide)).trans (stS_ne (by decide))) ?_
            refine r_iload_n 3 dX8_addVehicle_87 rfl rfl ?_
            refine r_iast dX8_addVehicle_88 sh_59 b14.1 b14.2 ?_
            refine r_aload_n 0 dX8_addVehicle_89 rfl rfl ?_
            refine r_getR (j := 5) dX8_addVehicle_90 sh_56 rfl kc_8 (by decide) lf_X8_19 ?_
            refine r_aload_n 0 dX8_addVehicle_93 rfl rfl ?_
            refine r_getI (j := 1) dX8_addVehicle_94 sh_56 rfl kc_8 (by decide) lf_X8_69 ?_
            refine MWF.top ((stS_ne (by decide)).trans ((stS_ne (by decide)).trans (stS_ne (by decide)))) ?_
            refine r_iload 4 dX8_addVehicle_97 rfl ?_
            refine r_iast dX8_addVehicle_99 sh_60 b14.1 b14.2 ?_
            refine r_aload_n 0 dX8_addVehicle_100 rfl rfl ?_
            refine r_getR (j := 6) dX8_addVehicle_101 sh_56 rfl kc_8 (by decide) lf_X8_22 ?_
            refine r_aload_n 0 dX8_addVehicle_104 rfl rfl ?_
            refine r_getI (j := 1) dX8_addVehicle_105 sh_56 rfl kc_8 (by decide) lf_X8_69 ?_
            refine MWF.top ((stS_ne (by decide)).trans ((stS_ne (by decide)).trans ((stS_ne (by decide)).trans (stS_ne (by decide))))) ?_
            refine r_iload 5 dX8_addVehicle_108 rfl ?_
            refine r_iast dX8_addVehicle_110 sh_61 b14.1 b14.2 ?_
            refine r_aload_n 0 dX8_addVehicle_111 rfl rfl ?_
            refine r_dup dX8_addVehicle_112 ?_
            refine r_getI (j := 1) dX8_addVehicle_113 sh_56 rfl kc_8 (by decide) lf_X8_69 ?_
            refine MWF.top ((stS_ne (by decide)).trans ((stS_ne (by decide)).trans ((stS_ne (by decide)).trans ((stS_ne (by decide)).trans (stS_ne (by decide)))))) ?_
            refine r_iconst dX8_addVehicle_116 (by decide) ?_
            obtain ⟨b15, h⟩ := h
            refine r_iadd dX8_addVehicle_117 b15 ?_
            refine r_putI (j := 1) dX8_addVehicle_118 sh_56 rfl kc_8 (by decide) lf_X8_69 rfl (by decide) ?_
            refine r_aload_n 0 dX8_addVehicle_121 rfl rfl ?_
            refine r_iconst dX8_addVehicle_122 (by decide) ?_
            refine r_putI (j := 22) dX8_addVehicle_123 sh_56 rfl kc_8 (by decide) lf_X8_79 rfl (by decide) ?_
            refine r_aload_n 0 dX8_addVehicle_126 rfl rfl ?_
            refine r_getI (j := 1) dX8_addVehicle_127 sh_56 rfl kc_8 (by decide) lf_X8_69 ?_
            refine MWF.top ((stS_ni (by decide)).trans stS_eq) ?_
            refine r_iconst dX8_addVehicle_130 (by decide) ?_
            obtain ⟨b16, h⟩ := h
            refine r_isub dX8_addVehicle_131 b16 ?_
            exact r_iret dX8_addVehicle_132 rfl ⟨_, rfl, h⟩
set_option maxRecDepth 100000 in
set_option maxHeartbeats 4000000 in
theorem clX8_addRequest (l : Launch) (G : GT) (σ : Sto) (Q : Int → Sto → Prop) (x1 : Int) (x2 : Int) (x3 : Int) (x4 : Int) (x5 : Int) (x6 : Int)
    (h : CLi l G mX8_isPlace [vI x1, vI x2] σ (fun r1 s2 => (r1 = 0 → Q (-1002) s2) ∧ (¬ (r1 = 0) → CLi l G mX8_isPlace [vI x3, vI x4] s2 (fun r4 s5 => (r4 = 0 → Q (-1002) s5) ∧ (¬ (r4 = 0) → CLi l G mX8_in [vI x5, vI 1, vI 8] s5 (fun r7 s8 => (r7 = 0 → Q (-1002) s8) ∧ (¬ (r7 = 0) → CLi l G mX8_in [vI x6, vI 0, vI 1000] s8 (fun r10 s11 => (r10 = 0 → Q (-1002) s11) ∧ (¬ (r10 = 0) → ((s11 56 7) = 12 → Q (-1006) s11) ∧ (¬ ((s11 56 7) = 12) → (-2147483648 ≤ 2 * (s11 56 7) ∧ 2 * (s11 56 7) ≤ 2147483647) ∧ (0 ≤ (2 * (s11 56 7)) ∧ (2 * (s11 56 7)) < 24) ∧ (-2147483648 ≤ (2 * (s11 56 7)) + 1 ∧ (2 * (s11 56 7)) + 1 ≤ 2147483647) ∧ (0 ≤ ((2 * (s11 56 7)) + 1) ∧ ((2 * (s11 56 7)) + 1) < 24) ∧ MWi l G mX8_addRequest 106 [(0, vR 56), (5, vI x5), (6, vI x6), (7, vI (2 * (s11 56 7))), (8, vI (2 * (s11 56 7)))] [] (stS (stS (stS (stS s11 62 (2 * (s11 56 7)).toNat x1) 63 (2 * (s11 56 7)).toNat x2) 62 ((2 * (s11 56 7)) + 1).toNat x3) 63 ((2 * (s11 56 7)) + 1).toNat x4) Q)))))))))) :
    CLi l G mX8_addRequest [vR 56, vI x1, vI x2, vI x3, vI x4, vI x5, vI x6] σ Q := by
  show MWi l G mX8_addRequest 0 [(0, vR 56), (1, vI x1), (2, vI x2), (3, vI x3), (4, vI x4), (5, vI x5), (6, vI x6)] [] σ Q
  refine r_iload_n 1 dX8_addRequest_0 rfl rfl ?_
  refine r_iload_n 2 dX8_addRequest_1 rfl rfl ?_
  refine r_callS [vI x1, vI x2] [] dX8_addRequest_2 okX8_isPlace ssX8_isPlace lm_X8_75 rfl rfl ⟨Nat.le_of_ble_eq_true rfl, Nat.le_of_ble_eq_true rfl, Nat.le_of_ble_eq_true rfl, Nat.le_of_ble_eq_true rfl⟩ h ?_
  rintro _ s2 ⟨r1, rfl, h⟩
  refine r_if_eq (tgt := 40) dX8_addRequest_5 (by decide) (fun (c3 : r1 = 0) => ?_) (fun (c3 : ¬ (r1 = 0)) => ?_)
  · replace h := h.1 c3
    refine r_sipush dX8_addRequest_40 (by decide) (by decide) ?_
    exact r_iret dX8_addRequest_43 rfl ⟨_, rfl, h⟩
  · replace h := h.2 c3
    refine r_iload_n 3 dX8_addRequest_8 rfl rfl ?_
    refine r_iload 4 dX8_addRequest_9 rfl ?_
    refine r_callS [vI x3, vI x4] [] dX8_addRequest_11 okX8_isPlace ssX8_isPlace lm_X8_75 rfl rfl ⟨Nat.le_of_ble_eq_true rfl, Nat.le_of_ble_eq_true rfl, Nat.le_of_ble_eq_true rfl, Nat.le_of_ble_eq_true rfl⟩ h ?_
    rintro _ s5 ⟨r4, rfl, h⟩
    refine r_if_eq (tgt := 40) dX8_addRequest_14 (by decide) (fun (c6 : r4 = 0) => ?_) (fun (c6 : ¬ (r4 = 0)) => ?_)
    · replace h := h.1 c6
      refine r_sipush dX8_addRequest_40 (by decide) (by decide) ?_
      exact r_iret dX8_addRequest_43 rfl ⟨_, rfl, h⟩
    · replace h := h.2 c6
      refine r_iload 5 dX8_addRequest_17 rfl ?_
      refine r_iconst dX8_addRequest_19 (by decide) ?_
      refine r_bipush dX8_addRequest_20 (by decide) (by decide) ?_
      refine r_callS [vI x5, vI 1, vI 8] [] dX8_addRequest_22 okX8_in ssX8_in lm_X8_65 rfl rfl ⟨Nat.le_of_ble_eq_true rfl, Nat.le_of_ble_eq_true rfl, Nat.le_of_ble_eq_true rfl, Nat.le_of_ble_eq_true rfl⟩ h ?_
      rintro _ s8 ⟨r7, rfl, h⟩
      refine r_if_eq (tgt := 40) dX8_addRequest_25 (by decide) (fun (c9 : r7 = 0) => ?_) (fun (c9 : ¬ (r7 = 0)) => ?_)
      · replace h := h.1 c9
        refine r_sipush dX8_addRequest_40 (by decide) (by decide) ?_
        exact r_iret dX8_addRequest_43 rfl ⟨_, rfl, h⟩
      · replace h := h.2 c9
        refine r_iload 6 dX8_addRequest_28 rfl ?_
        refine r_iconst dX8_addRequest_30 (by decide) ?_
        refine r_sipush dX8_addRequest_31 (by decide) (by decide) ?_
        refine r_callS [vI x6, vI 0, vI 1000] [] dX8_addRequest_34 okX8_in ssX8_in lm_X8_65 rfl rfl ⟨Nat.le_of_ble_eq_true rfl, Nat.le_of_ble_eq_true rfl, Nat.le_of_ble_eq_true rfl, Nat.le_of_ble_eq_true rfl⟩ h ?_
        rintro _ s11 ⟨r10, rfl, h⟩
        refine r_if_ne (tgt := 44) dX8_addRequest_37 (by decide) (fun (c12 : r10 = 0) => ?_) (fun (c12 : ¬ (r10 = 0)) => ?_)
        · replace h := h.1 c12
          refine r_sipush dX8_addRequest_40 (by decide) (by decide) ?_
          exact r_iret dX8_addRequest_43 rfl ⟨_, rfl, h⟩
        · replace h := h.2 c12
          refine r_aload_n 0 dX8_addRequest_44 rfl rfl ?_
          refine r_getI (j := 7) dX8_addRequest_45 sh_56 rfl kc_8 (by decide) lf_X8_72 ?_
          refine r_bipush dX8_addRequest_48 (by decide) (by decide) ?_
          refine r_icmp_ne (tgt := 57) dX8_addRequest_50 (by decide) (fun (c13 : (s11 56 7) = 12) => ?_) (fun (c13 : ¬ ((s11 56 7) = 12)) => ?_)
          · replace h := h.1 c13
            refine r_sipush dX8_addRequest_53 (by decide) (by decide) ?_
            exact r_iret dX8_addRequest_56 rfl ⟨_, rfl, h⟩
          · replace h := h.2 c13
            refine r_iconst dX8_addRequest_57 (by decide) ?_
            refine r_aload_n 0 dX8_addRequest_58 rfl rfl ?_
            refine r_getI (j := 7) dX8_addRequest_59 sh_56 rfl kc_8 (by decide) lf_X8_72 ?_
            obtain ⟨b14, h⟩ := h
            refine r_imul dX8_addRequest_62 b14 ?_
            refine r_istore dX8_addRequest_63 (by decide) rfl ?_
            refine r_aload_n 1 dX8_addRequest_65 rfl rfl ?_
            refine r_getR (j := 8) dX8_addRequest_66 sh_56 rfl kc_8 (by decide) lf_X8_25 ?_
            refine r_iload 0 dX8_addRequest_69 rfl ?_
            refine r_iload_n 2 dX8_addRequest_71 rfl rfl ?_
            obtain ⟨b15, h⟩ := h
            refine r_iast dX8_addRequest_72 sh_62 b15.1 b15.2 ?_
            refine r_aload_n 1 dX8_addRequest_73 rfl rfl ?_
            refine r_getR (j := 9) dX8_addRequest_74 sh_56 rfl kc_8 (by decide) lf_X8_28 ?_
            refine r_iload 0 dX8_addRequest_77 rfl ?_
            refine r_iload_n 3 dX8_addRequest_79 rfl rfl ?_
            refine r_iast dX8_addRequest_80 sh_63 b15.1 b15.2 ?_
            refine r_aload_n 1 dX8_addRequest_81 rfl rfl ?_
            refine r_getR (j := 8) dX8_addRequest_82 sh_56 rfl kc_8 (by decide) lf_X8_25 ?_
            refine r_iload 0 dX8_addRequest_85 rfl ?_
            refine r_iconst dX8_addRequest_87 (by decide) ?_
            obtain ⟨b16, h⟩ := h
            refine r_iadd dX8_addRequest_88 b16 ?_
            refine r_iload_n 4 dX8_addRequest_89 rfl rfl ?_
            obtain ⟨b17, h⟩ := h
            refine r_iast dX8_addRequest_90 sh_62 b17.1 b17.2 ?_
            refine r_aload_n 1 dX8_addRequest_91 rfl rfl ?_
            refine r_getR (j := 9) dX8_addRequest_92 sh_56 rfl kc_8 (by decide) lf_X8_28 ?_
            refine r_iload 0 dX8_addRequest_95 rfl ?_
            refine r_iconst dX8_addRequest_97 (by decide) ?_
            refine r_iadd dX8_addRequest_98 b16 ?_
            refine r_iload 5 dX8_addRequest_99 rfl ?_
            refine r_iast dX8_addRequest_101 sh_63 b17.1 b17.2 ?_
            refine r_iload 0 dX8_addRequest_102 rfl ?_
            refine r_istore dX8_addRequest_104 (by decide) rfl ?_
            refine MWF.sub [2, 7, 8, 1, 0] rfl ?_
            exact h
set_option maxRecDepth 100000 in
set_option maxHeartbeats 4000000 in
theorem vcX8_addRequest_106 (l : Launch) (G : GT) (σ : Sto) (Q : Int → Sto → Prop) (x5 : Int) (x6 : Int) (x7 : Int) (x8 : Int)
    (h : (-2147483648 ≤ x7 + 2 ∧ x7 + 2 ≤ 2147483647) ∧ ((x7 + 2) ≤ x8 → (0 ≤ (σ 56 7) ∧ (σ 56 7) < 12) ∧ (-2147483648 ≤ (σ 56 7) + 1 ∧ (σ 56 7) + 1 ≤ 2147483647) ∧ (-2147483648 ≤ ((σ 56 7) + 1) - 1 ∧ ((σ 56 7) + 1) - 1 ≤ 2147483647) ∧ Q (((σ 56 7) + 1) - 1) (stS (stS (stS (stS σ 66 (σ 56 7).toNat x5) 67 (σ 56 7).toNat x6) 56 7 ((σ 56 7) + 1)) 56 22 0)) ∧ (¬ ((x7 + 2) ≤ x8) → (0 ≤ x8 ∧ x8 < 24) ∧ (-2147483648 ≤ x8 + 1 ∧ x8 + 1 ≤ 2147483647) ∧ MWi l G mX8_addRequest 106 [(0, vR 56), (5, vI x5), (6, vI x6), (7, vI x7), (8, vI (x8 + 1))] [] (stS (stS σ 64 x8.toNat 0) 65 x8.toNat 5000) Q)) :
    MWi l G mX8_addRequest 106 [(0, vR 56), (5, vI x5), (6, vI x6), (7, vI x7), (8, vI x8)] [] σ Q := by
  refine r_iload 4 dX8_addRequest_106 rfl ?_
  refine r_iload 3 dX8_addRequest_108 rfl ?_
  refine r_iconst dX8_addRequest_110 (by decide) ?_
  obtain ⟨b18, h⟩ := h
  refine r_iadd dX8_addRequest_111 b18 ?_
  refine r_icmp_ge (tgt := 139) dX8_addRequest_112 (by decide) (fun (c19 : (x7 + 2) ≤ x8) => ?_) (fun (c19 : ¬ ((x7 + 2) ≤ x8)) => ?_)
  · replace h := h.1 c19
    refine r_aload_n 0 dX8_addRequest_139 rfl rfl ?_
    refine r_getR (j := 12) dX8_addRequest_140 sh_56 rfl kc_8 (by decide) lf_X8_37 ?_
    refine r_aload_n 0 dX8_addRequest_143 rfl rfl ?_
    refine r_getI (j := 7) dX8_addRequest_144 sh_56 rfl kc_8 (by decide) lf_X8_72 ?_
    refine r_iload 1 dX8_addRequest_147 rfl ?_
    obtain ⟨b20, h⟩ := h
    refine r_iast dX8_addRequest_149 sh_66 b20.1 b20.2 ?_
    refine r_aload_n 0 dX8_addRequest_150 rfl rfl ?_
    refine r_getR (j := 13) dX8_addRequest_151 sh_56 rfl kc_8 (by decide) lf_X8_40 ?_
    refine r_aload_n 0 dX8_addRequest_154 rfl rfl ?_
    refine r_getI (j := 7) dX8_addRequest_155 sh_56 rfl kc_8 (by decide) lf_X8_72 ?_
    refine MWF.top (stS_ne (by decide)) ?_
    refine r_iload 2 dX8_addRequest_158 rfl ?_
    refine r_iast dX8_addRequest_160 sh_67 b20.1 b20.2 ?_
    refine r_aload_n 0 dX8_addRequest_161 rfl rfl ?_
    refine r_dup dX8_addRequest_162 ?_
    refine r_getI (j := 7) dX8_addRequest_163 sh_56 rfl kc_8 (by decide) lf_X8_72 ?_
    refine MWF.top ((stS_ne (by decide)).trans (stS_ne (by decide))) ?_
    refine r_iconst dX8_addRequest_166 (by decide) ?_
    obtain ⟨b21, h⟩ := h
    refine r_iadd dX8_addRequest_167 b21 ?_
    refine r_putI (j := 7) dX8_addRequest_168 sh_56 rfl kc_8 (by decide) lf_X8_72 rfl (by decide) ?_
    refine r_aload_n 0 dX8_addRequest_171 rfl rfl ?_
    refine r_iconst dX8_addRequest_172 (by decide) ?_
    refine r_putI (j := 22) dX8_addRequest_173 sh_56 rfl kc_8 (by decide) lf_X8_79 rfl (by decide) ?_
    refine r_aload_n 0 dX8_addRequest_176 rfl rfl ?_
    refine r_getI (j := 7) dX8_addRequest_177 sh_56 rfl kc_8 (by decide) lf_X8_72 ?_
    refine MWF.top ((stS_ni (by decide)).trans stS_eq) ?_
    refine r_iconst dX8_addRequest_180 (by decide) ?_
    obtain ⟨b22, h⟩ := h
    refine r_isub dX8_addRequest_181 b22 ?_
    exact r_iret dX8_addRequest_182 rfl ⟨_, rfl, h⟩
  · replace h := h.2 c19
    refine r_aload_n 0 dX8_addRequest_115 rfl rfl ?_
    refine r_getR (j := 10) dX8_addRequest_116 sh_56 rfl kc_8 (by decide) lf_X8_31 ?_
    refine r_iload 4 dX8_addRequest_119 rfl ?_
    refine r_iconst dX8_addRequest_121 (by decide) ?_
    obtain ⟨b23, h⟩ := h
    refine r_iast dX8_addRequest_122 sh_64 b23.1 b23.2 ?_
    refine r_aload_n 0 dX8_addRequest_123 rfl rfl ?_
    refine r_getR (j := 11) dX8_addRequest_124 sh_56 rfl kc_8 (by decide) lf_X8_34 ?_
    refine r_iload 4 dX8_addRequest_127 rfl ?_
    refine r_sipush dX8_addRequest_129 (by decide) (by decide) ?_
    refine r_iast dX8_addRequest_132 sh_65 b23.1 b23.2 ?_
    obtain ⟨b24, h⟩ := h
    refine r_iinc 4 dX8_addRequest_133 rfl (by decide) b24 rfl ?_
    refine r_goto (tgt := 106) dX8_addRequest_136 (by decide) ?_
    refine MWF.sub [1, 2, 3, 4, 0] rfl ?_
    exact h
set_option maxRecDepth 100000 in
set_option maxHeartbeats 4000000 in
theorem clX8_vehicleOf (l : Launch) (G : GT) (σ : Sto) (Q : Int → Sto → Prop) (x1 : Int)
    (h : MWi l G mX8_vehicleOf 2 [(0, vR 56), (1, vI x1), (2, vI 0)] [] σ Q) :
    CLi l G mX8_vehicleOf [vR 56, vI x1] σ Q := by
  show MWi l G mX8_vehicleOf 0 [(0, vR 56), (1, vI x1)] [] σ Q
  refine r_iconst dX8_vehicleOf_0 (by decide) ?_
  refine r_istore_n dX8_vehicleOf_1 rfl (by decide) rfl ?_
  refine MWF.sub [1, 2, 0] rfl ?_
  exact h
set_option maxRecDepth 100000 in
set_option maxHeartbeats 4000000 in
theorem vcX8_vehicleOf_2 (l : Launch) (G : GT) (σ : Sto) (Q : Int → Sto → Prop) (x1 : Int) (x2 : Int)
    (h : ((σ 56 1) ≤ x2 → Q (-1) σ) ∧ (¬ ((σ 56 1) ≤ x2) → MWi l G mX8_vehicleOf 12 [(0, vR 56), (1, vI x1), (2, vI x2), (3, vI 0)] [] σ Q)) :
    MWi l G mX8_vehicleOf 2 [(0, vR 56), (1, vI x1), (2, vI x2)] [] σ Q := by
  refine r_iload_n 2 dX8_vehicleOf_2 rfl rfl ?_
  refine r_aload_n 0 dX8_vehicleOf_3 rfl rfl ?_
  refine r_getI (j := 1) dX8_vehicleOf_4 sh_56 rfl kc_8 (by decide) lf_X8_69 ?_
  refine r_icmp_ge (tgt := 56) dX8_vehicleOf_7 (by decide) (fun (c1 : (σ 56 1) ≤ x2) => ?_) (fun (c1 : ¬ ((σ 56 1) ≤ x2)) => ?_)
  · replace h := h.1 c1
    refine r_iconst dX8_vehicleOf_56 (by decide) ?_
    exact r_iret dX8_vehicleOf_57 rfl ⟨_, rfl, h⟩
  · replace h := h.2 c1
    refine r_iconst dX8_vehicleOf_10 (by decide) ?_
    refine r_istore_n dX8_vehicleOf_11 rfl (by decide) rfl ?_
    refine MWF.sub [1, 2, 3, 0] rfl ?_
    exact h
set_option maxRecDepth 100000 in
set_option maxHeartbeats 4000000 in
theorem vcX8_vehicleOf_12 (l : Launch) (G : GT) (σ : Sto) (Q : Int → Sto → Prop) (x1 : Int) (x2 : Int) (x3 : Int)
    (h : (-2147483648 ≤ 96 + x2 ∧ 96 + x2 ≤ 2147483647) ∧ (0 ≤ (96 + x2) ∧ (96 + x2) < 100) ∧ ((σ 68 (96 + x2).toNat) ≤ x3 → (-2147483648 ≤ x2 + 1 ∧ x2 + 1 ≤ 2147483647) ∧ MWi l G mX8_vehicleOf 2 [(0, vR 56), (1, vI x1), (2, vI (x2 + 1))] [] σ Q) ∧ (¬ ((σ 68 (96 + x2).toNat) ≤ x3) → (-2147483648 ≤ 24 * x2 ∧ 24 * x2 ≤ 2147483647) ∧ (-2147483648 ≤ (24 * x2) + x3 ∧ (24 * x2) + x3 ≤ 2147483647) ∧ (0 ≤ ((24 * x2) + x3) ∧ ((24 * x2) + x3) < 100) ∧ (0 ≤ (σ 68 ((24 * x2) + x3).toNat)) ∧ (((σ 68 ((24 * x2) + x3).toNat) / 2) = x1 → Q x2 σ) ∧ (¬ (((σ 68 ((24 * x2) + x3).toNat) / 2) = x1) → (-2147483648 ≤ x3 + 1 ∧ x3 + 1 ≤ 2147483647) ∧ MWi l G mX8_vehicleOf 12 [(0, vR 56), (1, vI x1), (2, vI x2), (3, vI (x3 + 1))] [] σ Q))) :
    MWi l G mX8_vehicleOf 12 [(0, vR 56), (1, vI x1), (2, vI x2), (3, vI x3)] [] σ Q := by
  refine r_iload_n 3 dX8_vehicleOf_12 rfl rfl ?_
  refine r_aload_n 0 dX8_vehicleOf_13 rfl rfl ?_
  refine r_getR (j := 14) dX8_vehicleOf_14 sh_56 rfl kc_8 (by decide) lf_X8_43 ?_
  refine r_bipush dX8_vehicleOf_17 (by decide) (by decide) ?_
  refine r_iload_n 2 dX8_vehicleOf_19 rfl rfl ?_
  obtain ⟨b2, h⟩ := h
  refine r_iadd dX8_vehicleOf_20 b2 ?_
  obtain ⟨b3, h⟩ := h
  refine r_iald dX8_vehicleOf_21 sh_68 b3.1 b3.2 ?_
  refine r_icmp_ge (tgt := 50) dX8_vehicleOf_22 (by decide) (fun (c4 : (σ 68 (96 + x2).toNat) ≤ x3) => ?_) (fun (c4 : ¬ ((σ 68 (96 + x2).toNat) ≤ x3)) => ?_)
  · replace h := h.1 c4
    obtain ⟨b5, h⟩ := h
    refine r_iinc 2 dX8_vehicleOf_50 rfl (by decide) b5 rfl ?_
    refine r_goto (tgt := 2) dX8_vehicleOf_53 (by decide) ?_
    refine MWF.sub [1, 2, 0] rfl ?_
    exact h
  · replace h := h.2 c4
    refine r_aload_n 0 dX8_vehicleOf_25 rfl rfl ?_
    refine r_getR (j := 14) dX8_vehicleOf_26 sh_56 rfl kc_8 (by decide) lf_X8_43 ?_
    refine r_bipush dX8_vehicleOf_29 (by decide) (by decide) ?_
    refine r_iload_n 2 dX8_vehicleOf_31 rfl rfl ?_
    obtain ⟨b6, h⟩ := h
    refine r_imul dX8_vehicleOf_32 b6 ?_
    refine r_iload_n 3 dX8_vehicleOf_33 rfl rfl ?_
    obtain ⟨b7, h⟩ := h
    refine r_iadd dX8_vehicleOf_34 b7 ?_
    obtain ⟨b8, h⟩ := h
    refine r_iald dX8_vehicleOf_35 sh_68 b8.1 b8.2 ?_
    refine r_iconst dX8_vehicleOf_36 (by decide) ?_
    obtain ⟨b9, h⟩ := h
    refine r_idiv dX8_vehicleOf_37 b9 (by decide) ?_
    refine r_iload_n 1 dX8_vehicleOf_38 rfl rfl ?_
    refine r_icmp_ne (tgt := 44) dX8_vehicleOf_39 (by decide) (fun (c10 : ((σ 68 ((24 * x2) + x3).toNat) / 2) = x1) => ?_) (fun (c10 : ¬ (((σ 68 ((24 * x2) + x3).toNat) / 2) = x1)) => ?_)
    · replace h := h.1 c10
      refine r_iload_n 2 dX8_vehicleOf_42 rfl rfl ?_
      exact r_iret dX8_vehicleOf_43 rfl ⟨_, rfl, h⟩
    · replace h := h.2 c10
      obtain ⟨b11, h⟩ := h
      refine r_iinc 3 dX8_vehicleOf_44 rfl (by decide) b11 rfl ?_
      refine r_goto (tgt := 12) dX8_vehicleOf_47 (by decide) ?_
      refine MWF.sub [1, 2, 3, 0] rfl ?_
      exact h
set_option maxRecDepth 100000 in
set_option maxHeartbeats 4000000 in
theorem clX8_take (l : Launch) (G : GT) (σ : Sto) (Q : Sto → Prop) (x1 : Int)
    (h : (-2147483648 ≤ 96 + x1 ∧ 96 + x1 ≤ 2147483647) ∧ (0 ≤ (96 + x1) ∧ (96 + x1) < 100) ∧ MWv l G mX8_take 15 [(0, vR 56), (1, vI x1), (2, vI 0)] [] (stS σ 56 15 (σ 68 (96 + x1).toNat)) Q) :
    CLv l G mX8_take [vR 56, vI x1] σ Q := by
  show MWv l G mX8_take 0 [(0, vR 56), (1, vI x1)] [] σ Q
  refine r_aload_n 0 dX8_take_0 rfl rfl ?_
  refine r_aload_n 0 dX8_take_1 rfl rfl ?_
  refine r_getR (j := 14) dX8_take_2 sh_56 rfl kc_8 (by decide) lf_X8_43 ?_
  refine r_bipush dX8_take_5 (by decide) (by decide) ?_
  refine r_iload_n 1 dX8_take_7 rfl rfl ?_
  obtain ⟨b1, h⟩ := h
  refine r_iadd dX8_take_8 b1 ?_
  obtain ⟨b2, h⟩ := h
  refine r_iald dX8_take_9 sh_68 b2.1 b2.2 ?_
  refine r_putI (j := 15) dX8_take_10 sh_56 rfl kc_8 (by decide) lf_X8_82 rfl (by decide) ?_
  refine r_iconst dX8_take_13 (by decide) ?_
  refine r_istore_n dX8_take_14 rfl (by decide) rfl ?_
  refine MWF.sub [1, 2, 0] rfl ?_
  exact h
set_option maxRecDepth 100000 in
set_option maxHeartbeats 4000000 in
theorem vcX8_take_15 (l : Launch) (G : GT) (σ : Sto) (Q : Sto → Prop) (x1 : Int) (x2 : Int)
    (h : ((σ 56 15) ≤ x2 → Q σ) ∧ (¬ ((σ 56 15) ≤ x2) → (-2147483648 ≤ 24 * x1 ∧ 24 * x1 ≤ 2147483647) ∧ (-2147483648 ≤ (24 * x1) + x2 ∧ (24 * x1) + x2 ≤ 2147483647) ∧ (0 ≤ ((24 * x1) + x2) ∧ ((24 * x1) + x2) < 100) ∧ (0 ≤ x2 ∧ x2 < 26) ∧ (-2147483648 ≤ x2 + 1 ∧ x2 + 1 ≤ 2147483647) ∧ MWv l G mX8_take 15 [(0, vR 56), (1, vI x1), (2, vI (x2 + 1))] [] (stS σ 69 x2.toNat (σ 68 ((24 * x1) + x2).toNat)) Q)) :
    MWv l G mX8_take 15 [(0, vR 56), (1, vI x1), (2, vI x2)] [] σ Q := by
  refine r_iload_n 2 dX8_take_15 rfl rfl ?_
  refine r_aload_n 0 dX8_take_16 rfl rfl ?_
  refine r_getI (j := 15) dX8_take_17 sh_56 rfl kc_8 (by decide) lf_X8_82 ?_
  refine r_icmp_ge (tgt := 46) dX8_take_20 (by decide) (fun (c3 : (σ 56 15) ≤ x2) => ?_) (fun (c3 : ¬ ((σ 56 15) ≤ x2)) => ?_)
  · replace h := h.1 c3
    exact r_vret dX8_take_46 rfl ⟨rfl, h⟩
  · replace h := h.2 c3
    refine r_aload_n 0 dX8_take_23 rfl rfl ?_
    refine r_getR (j := 16) dX8_take_24 sh_56 rfl kc_8 (by decide) lf_X8_46 ?_
    refine r_iload_n 2 dX8_take_27 rfl rfl ?_
    refine r_aload_n 0 dX8_take_28 rfl rfl ?_
    refine r_getR (j := 14) dX8_take_29 sh_56 rfl kc_8 (by decide) lf_X8_43 ?_
    refine r_bipush dX8_take_32 (by decide) (by decide) ?_
    refine r_iload_n 1 dX8_take_34 rfl rfl ?_
    obtain ⟨b4, h⟩ := h
    refine r_imul dX8_take_35 b4 ?_
    refine r_iload_n 2 dX8_take_36 rfl rfl ?_
    obtain ⟨b5, h⟩ := h
    refine r_iadd dX8_take_37 b5 ?_
    obtain ⟨b6, h⟩ := h
    refine r_iald dX8_take_38 sh_68 b6.1 b6.2 ?_
    obtain ⟨b7, h⟩ := h
    refine r_iast dX8_take_39 sh_69 b7.1 b7.2 ?_
    obtain ⟨b8, h⟩ := h
    refine r_iinc 2 dX8_take_40 rfl (by decide) b8 rfl ?_
    refine r_goto (tgt := 15) dX8_take_43 (by decide) ?_
    refine MWF.sub [1, 2, 0] rfl ?_
    exact h
set_option maxRecDepth 100000 in
set_option maxHeartbeats 4000000 in
theorem clX8_between (l : Launch) (G : GT) (σ : Sto) (Q : Int → Sto → Prop) (x1 : Int) (x2 : Int)
    (h : (0 ≤ x1 ∧ x1 < 24) ∧ (0 ≤ x2 ∧ x2 < 24) ∧ (-2147483648 ≤ (σ 62 x1.toNat) - (σ 62 x2.toNat) ∧ (σ 62 x1.toNat) - (σ 62 x2.toNat) ≤ 2147483647) ∧ CLi l G mX8_size [vI ((σ 62 x1.toNat) - (σ 62 x2.toNat))] σ (fun r4 s5 => (-2147483648 ≤ (s5 63 x1.toNat) - (s5 63 x2.toNat) ∧ (s5 63 x1.toNat) - (s5 63 x2.toNat) ≤ 2147483647) ∧ CLi l G mX8_size [vI ((s5 63 x1.toNat) - (s5 63 x2.toNat))] s5 (fun r7 s8 => (-2147483648 ≤ r4 + r7 ∧ r4 + r7 ≤ 2147483647) ∧ Q (r4 + r7) s8))) :
    CLi l G mX8_between [vR 56, vI x1, vI x2] σ Q := by
  show MWi l G mX8_between 0 [(0, vR 56), (1, vI x1), (2, vI x2)] [] σ Q
  refine r_aload_n 0 dX8_between_0 rfl rfl ?_
  refine r_getR (j := 8) dX8_between_1 sh_56 rfl kc_8 (by decide) lf_X8_25 ?_
  refine r_iload_n 1 dX8_between_4 rfl rfl ?_
  obtain ⟨b1, h⟩ := h
  refine r_iald dX8_between_5 sh_62 b1.1 b1.2 ?_
  refine r_aload_n 0 dX8_between_6 rfl rfl ?_
  refine r_getR (j := 8) dX8_between_7 sh_56 rfl kc_8 (by decide) lf_X8_25 ?_
  refine r_iload_n 2 dX8_between_10 rfl rfl ?_
  obtain ⟨b2, h⟩ := h
  refine r_iald dX8_between_11 sh_62 b2.1 b2.2 ?_
  obtain ⟨b3, h⟩ := h
  refine r_isub dX8_between_12 b3 ?_
  refine r_callS [vI ((σ 62 x1.toNat) - (σ 62 x2.toNat))] [] dX8_between_13 okX8_size ssX8_size lm_X8_85 rfl rfl ⟨Nat.le_of_ble_eq_true rfl, Nat.le_of_ble_eq_true rfl, Nat.le_of_ble_eq_true rfl, Nat.le_of_ble_eq_true rfl⟩ h ?_
  rintro _ s5 ⟨r4, rfl, h⟩
  refine r_aload_n 0 dX8_between_16 rfl rfl ?_
  refine r_getR (j := 9) dX8_between_17 sh_56 rfl kc_8 (by decide) lf_X8_28 ?_
  refine r_iload_n 1 dX8_between_20 rfl rfl ?_
  refine r_iald dX8_between_21 sh_63 b1.1 b1.2 ?_
  refine r_aload_n 0 dX8_between_22 rfl rfl ?_
  refine r_getR (j := 9) dX8_between_23 sh_56 rfl kc_8 (by decide) lf_X8_28 ?_
  refine r_iload_n 2 dX8_between_26 rfl rfl ?_
  refine r_iald dX8_between_27 sh_63 b2.1 b2.2 ?_
  obtain ⟨b6, h⟩ := h
  refine r_isub dX8_between_28 b6 ?_
  refine r_callS [vI ((s5 63 x1.toNat) - (s5 63 x2.toNat))] [vI r4] dX8_between_29 okX8_size ssX8_size lm_X8_85 rfl rfl ⟨Nat.le_of_ble_eq_true rfl, Nat.le_of_ble_eq_true rfl, Nat.le_of_ble_eq_true rfl, Nat.le_of_ble_eq_true rfl⟩ h ?_
  rintro _ s8 ⟨r7, rfl, h⟩
  obtain ⟨b9, h⟩ := h
  refine r_iadd dX8_between_32 b9 ?_
  exact r_iret dX8_between_33 rfl ⟨_, rfl, h⟩
set_option maxRecDepth 100000 in
set_option maxHeartbeats 4000000 in
theorem clX8_fromDepot (l : Launch) (G : GT) (σ : Sto) (Q : Int → Sto → Prop) (x1 : Int) (x2 : Int)
    (h : (0 ≤ x2 ∧ x2 < 24) ∧ (0 ≤ x1 ∧ x1 < 4) ∧ (-2147483648 ≤ (σ 62 x2.toNat) - (σ 57 x1.toNat) ∧ (σ 62 x2.toNat) - (σ 57 x1.toNat) ≤ 2147483647) ∧ CLi l G mX8_size [vI ((σ 62 x2.toNat) - (σ 57 x1.toNat))] σ (fun r4 s5 => (-2147483648 ≤ (s5 63 x2.toNat) - (s5 58 x1.toNat) ∧ (s5 63 x2.toNat) - (s5 58 x1.toNat) ≤ 2147483647) ∧ CLi l G mX8_size [vI ((s5 63 x2.toNat) - (s5 58 x1.toNat))] s5 (fun r7 s8 => (-2147483648 ≤ r4 + r7 ∧ r4 + r7 ≤ 2147483647) ∧ Q (r4 + r7) s8))) :
    CLi l G mX8_fromDepot [vR 56, vI x1, vI x2] σ Q := by
  show MWi l G mX8_fromDepot 0 [(0, vR 56), (1, vI x1), (2, vI x2)] [] σ Q
  refine r_aload_n 0 dX8_fromDepot_0 rfl rfl ?_
  refine r_getR (j := 8) dX8_fromDepot_1 sh_56 rfl kc_8 (by decide) lf_X8_25 ?_
  refine r_iload_n 2 dX8_fromDepot_4 rfl rfl ?_
  obtain ⟨b1, h⟩ := h
  refine r_iald dX8_fromDepot_5 sh_62 b1.1 b1.2 ?_
  refine r_aload_n 0 dX8_fromDepot_6 rfl rfl ?_
  refine r_getR (j := 2) dX8_fromDepot_7 sh_56 rfl kc_8 (by decide) lf_X8_7 ?_
  refine r_iload_n 1 dX8_fromDepot_10 rfl rfl ?_
  obtain ⟨b2, h⟩ := h
  refine r_iald dX8_fromDepot_11 sh_57 b2.1 b2.2 ?_
  obtain ⟨b3, h⟩ := h
  refine r_isub dX8_fromDepot_12 b3 ?_
  refine r_callS [vI ((σ 62 x2.toNat) - (σ 57 x1.toNat))] [] dX8_fromDepot_13 okX8_size ssX8_size lm_X8_85 rfl rfl ⟨Nat.le_of_ble_eq_true rfl, Nat.le_of_ble_eq_true rfl, Nat.le_of_ble_eq_true rfl, Nat.le_of_ble_eq_true rfl⟩ h ?_
  rintro _ s5 ⟨r4, rfl, h⟩
  refine r_aload_n 0 dX8_fromDepot_16 rfl rfl ?_
  refine r_getR (j := 9) dX8_fromDepot_17 sh_56 rfl kc_8 (by decide) lf_X8_28 ?_
  refine r_iload_n 2 dX8_fromDepot_20 rfl rfl ?_
  refine r_iald dX8_fromDepot_21 sh_63 b1.1 b1.2 ?_
  refine r_aload_n 0 dX8_fromDepot_22 rfl rfl ?_
  refine r_getR (j := 3) dX8_fromDepot_23 sh_56 rfl kc_8 (by decide) lf_X8_13 ?_
  refine r_iload_n 1 dX8_fromDepot_26 rfl rfl ?_
  refine r_iald dX8_fromDepot_27 sh_58 b2.1 b2.2 ?_
  obtain ⟨b6, h⟩ := h
  refine r_isub dX8_fromDepot_28 b6 ?_
  refine r_callS [vI ((s5 63 x2.toNat) - (s5 58 x1.toNat))] [vI r4] dX8_fromDepot_29 okX8_size ssX8_size lm_X8_85 rfl rfl ⟨Nat.le_of_ble_eq_true rfl, Nat.le_of_ble_eq_true rfl, Nat.le_of_ble_eq_true rfl, Nat.le_of_ble_eq_true rfl⟩ h ?_
  rintro _ s8 ⟨r7, rfl, h⟩
  obtain ⟨b9, h⟩ := h
  refine r_iadd dX8_fromDepot_32 b9 ?_
  exact r_iret dX8_fromDepot_33 rfl ⟨_, rfl, h⟩
set_option maxRecDepth 100000 in
set_option maxHeartbeats 4000000 in
theorem clX8_length (l : Launch) (G : GT) (σ : Sto) (Q : Int → Sto → Prop) (x1 : Int)
    (h : ((σ 56 15) = 0 → Q 0 σ) ∧ (¬ ((σ 56 15) = 0) → CLi l G mX8_fromDepot [vR 56, vI x1, vI (σ 69 0)] σ (fun r2 s3 => (-2147483648 ≤ (s3 56 15) - 1 ∧ (s3 56 15) - 1 ≤ 2147483647) ∧ (0 ≤ ((s3 56 15) - 1) ∧ ((s3 56 15) - 1) < 26) ∧ CLi l G mX8_fromDepot [vR 56, vI x1, vI (s3 69 ((s3 56 15) - 1).toNat)] s3 (fun r6 s7 => (-2147483648 ≤ r2 + r6 ∧ r2 + r6 ≤ 2147483647) ∧ MWi l G mX8_length 40 [(0, vR 56), (2, vI (r2 + r6)), (3, vI 1)] [] s7 Q)))) :
    CLi l G mX8_length [vR 56, vI x1] σ Q := by
  show MWi l G mX8_length 0 [(0, vR 56), (1, vI x1)] [] σ Q
  refine r_aload_n 0 dX8_length_0 rfl rfl ?_
  refine r_getI (j := 15) dX8_length_1 sh_56 rfl kc_8 (by decide) lf_X8_82 ?_
  refine r_if_ne (tgt := 9) dX8_length_4 (by decide) (fun (c1 : (σ 56 15) = 0) => ?_) (fun (c1 : ¬ ((σ 56 15) = 0)) => ?_)
  · replace h := h.1 c1
    refine r_iconst dX8_length_7 (by decide) ?_
    exact r_iret dX8_length_8 rfl ⟨_, rfl, h⟩
  · replace h := h.2 c1
    refine r_aload_n 0 dX8_length_9 rfl rfl ?_
    refine r_iload_n 1 dX8_length_10 rfl rfl ?_
    refine r_aload_n 0 dX8_length_11 rfl rfl ?_
    refine r_getR (j := 16) dX8_length_12 sh_56 rfl kc_8 (by decide) lf_X8_46 ?_
    refine r_iconst dX8_length_15 (by decide) ?_
    refine r_iald dX8_length_16 sh_69 (by decide) (by decide) ?_
    refine r_callV [vI x1, vI (σ 69 0)] [] dX8_length_17 okX8_fromDepot ivX8_fromDepot seX8_fromDepot lm_X8_89 rfl rfl sh_56 rfl ⟨Nat.le_of_ble_eq_true rfl, Nat.le_of_ble_eq_true rfl, Nat.le_of_ble_eq_true rfl, Nat.le_of_ble_eq_true rfl⟩ h ?_
    rintro _ s3 ⟨r2, rfl, h⟩
    refine r_aload_n 0 dX8_length_20 rfl rfl ?_
    refine r_iload_n 1 dX8_length_21 rfl rfl ?_
    refine r_aload_n 0 dX8_length_22 rfl rfl ?_
    refine r_getR (j := 16) dX8_length_23 sh_56 rfl kc_8 (by decide) lf_X8_46 ?_
    refine r_aload_n 0 dX8_length_26 rfl rfl ?_
    refine r_getI (j := 15) dX8_length_27 sh_56 rfl kc_8 (by decide) lf_X8_82 ?_
    refine r_iconst dX8_length_30 (by decide) ?_
    obtain ⟨b4, h⟩ := h
    refine r_isub dX8_length_31 b4 ?_
    obtain ⟨b5, h⟩ := h
    refine r_iald dX8_length_32 sh_69 b5.1 b5.2 ?_
    refine r_callV [vI x1, vI (s3 69 ((s3 56 15) - 1).toNat)] [vI r2] dX8_length_33 okX8_fromDepot ivX8_fromDepot seX8_fromDepot lm_X8_89 rfl rfl sh_56 rfl ⟨Nat.le_of_ble_eq_true rfl, Nat.le_of_ble_eq_true rfl, Nat.le_of_ble_eq_true rfl, Nat.le_of_ble_eq_true rfl⟩ h ?_
    rintro _ s7 ⟨r6, rfl, h⟩
    obtain ⟨b8, h⟩ := h
    refine r_iadd dX8_length_36 b8 ?_
    refine r_istore_n dX8_length_37 rfl (by decide) rfl ?_
    refine r_iconst dX8_length_38 (by decide) ?_
    refine r_istore_n dX8_length_39 rfl (by decide) rfl ?_
    refine MWF.sub [2, 1, 0] rfl ?_
    exact h
set_option maxRecDepth 100000 in
set_option maxHeartbeats 4000000 in
theorem vcX8_length_40 (l : Launch) (G : GT) (σ : Sto) (Q : Int → Sto → Prop) (x2 : Int) (x3 : Int)
    (h : ((σ 56 15) ≤ x3 → Q x2 σ) ∧ (¬ ((σ 56 15) ≤ x3) → (-2147483648 ≤ x3 - 1 ∧ x3 - 1 ≤ 2147483647) ∧ (0 ≤ (x3 - 1) ∧ (x3 - 1) < 26) ∧ (0 ≤ x3 ∧ x3 < 26) ∧ CLi l G mX8_between [vR 56, vI (σ 69 (x3 - 1).toNat), vI (σ 69 x3.toNat)] σ (fun r13 s14 => (-2147483648 ≤ x2 + r13 ∧ x2 + r13 ≤ 2147483647) ∧ (-2147483648 ≤ x3 + 1 ∧ x3 + 1 ≤ 2147483647) ∧ MWi l G mX8_length 40 [(0, vR 56), (2, vI (x2 + r13)), (3, vI (x3 + 1))] [] s14 Q))) :
    MWi l G mX8_length 40 [(0, vR 56), (2, vI x2), (3, vI x3)] [] σ Q := by
  refine r_iload_n 2 dX8_length_40 rfl rfl ?_
  refine r_aload_n 0 dX8_length_41 rfl rfl ?_
  refine r_getI (j := 15) dX8_length_42 sh_56 rfl kc_8 (by decide) lf_X8_82 ?_
  refine r_icmp_ge (tgt := 75) dX8_length_45 (by decide) (fun (c9 : (σ 56 15) ≤ x3) => ?_) (fun (c9 : ¬ ((σ 56 15) ≤ x3)) => ?_)
  · replace h := h.1 c9
    refine r_iload_n 1 dX8_length_75 rfl rfl ?_
    exact r_iret dX8_length_76 rfl ⟨_, rfl, h⟩
  · replace h := h.2 c9
    refine r_iload_n 1 dX8_length_48 rfl rfl ?_
    refine r_aload_n 0 dX8_length_49 rfl rfl ?_
    refine r_aload_n 0 dX8_length_50 rfl rfl ?_
    refine r_getR (j := 16) dX8_length_51 sh_56 rfl kc_8 (by decide) lf_X8_46 ?_
    refine r_iload_n 2 dX8_length_54 rfl rfl ?_
    refine r_iconst dX8_length_55 (by decide) ?_
    obtain ⟨b10, h⟩ := h
    refine r_isub dX8_length_56 b10 ?_
    obtain ⟨b11, h⟩ := h
    refine r_iald dX8_length_57 sh_69 b11.1 b11.2 ?_
    refine r_aload_n 0 dX8_length_58 rfl rfl ?_
    refine r_getR (j := 16) dX8_length_59 sh_56 rfl kc_8 (by decide) lf_X8_46 ?_
    refine r_iload_n 2 dX8_length_62 rfl rfl ?_
    obtain ⟨b12, h⟩ := h
    refine r_iald dX8_length_63 sh_69 b12.1 b12.2 ?_
    refine r_callV [vI (σ 69 (x3 - 1).toNat), vI (σ 69 x3.toNat)] [vI x2] dX8_length_64 okX8_between ivX8_between seX8_between lm_X8_93 rfl rfl sh_56 rfl ⟨Nat.le_of_ble_eq_true rfl, Nat.le_of_ble_eq_true rfl, Nat.le_of_ble_eq_true rfl, Nat.le_of_ble_eq_true rfl⟩ h ?_
    rintro _ s14 ⟨r13, rfl, h⟩
    obtain ⟨b15, h⟩ := h
    refine r_iadd dX8_length_67 b15 ?_
    refine r_istore_n dX8_length_68 rfl (by decide) rfl ?_
    obtain ⟨b16, h⟩ := h
    refine r_iinc 2 dX8_length_69 rfl (by decide) b16 rfl ?_
    refine r_goto (tgt := 40) dX8_length_72 (by decide) ?_
    refine MWF.sub [2, 1, 0] rfl ?_
    exact h
set_option maxRecDepth 100000 in
set_option maxHeartbeats 4000000 in
theorem clX8_placeOf (l : Launch) (G : GT) (σ : Sto) (Q : Int → Sto → Prop) (x1 : Int)
    (h : MWi l G mX8_placeOf 2 [(0, vR 56), (1, vI x1), (2, vI 0)] [] σ Q) :
    CLi l G mX8_placeOf [vR 56, vI x1] σ Q := by
  show MWi l G mX8_placeOf 0 [(0, vR 56), (1, vI x1)] [] σ Q
  refine r_iconst dX8_placeOf_0 (by decide) ?_
  refine r_istore_n dX8_placeOf_1 rfl (by decide) rfl ?_
  refine MWF.sub [1, 2, 0] rfl ?_
  exact h
set_option maxRecDepth 100000 in
set_option maxHeartbeats 4000000 in
theorem vcX8_placeOf_2 (l : Launch) (G : GT) (σ : Sto) (Q : Int → Sto → Prop) (x1 : Int) (x2 : Int)
    (h : (0 ≤ x2 ∧ x2 < 26) ∧ ((σ 69 x2.toNat) = x1 → Q x2 σ) ∧ (¬ ((σ 69 x2.toNat) = x1) → (-2147483648 ≤ x2 + 1 ∧ x2 + 1 ≤ 2147483647) ∧ MWi l G mX8_placeOf 2 [(0, vR 56), (1, vI x1), (2, vI (x2 + 1))] [] σ Q)) :
    MWi l G mX8_placeOf 2 [(0, vR 56), (1, vI x1), (2, vI x2)] [] σ Q := by
  refine r_aload_n 0 dX8_placeOf_2 rfl rfl ?_
  refine r_getR (j := 16) dX8_placeOf_3 sh_56 rfl kc_8 (by decide) lf_X8_46 ?_
  refine r_iload_n 2 dX8_placeOf_6 rfl rfl ?_
  obtain ⟨b1, h⟩ := h
  refine r_iald dX8_placeOf_7 sh_69 b1.1 b1.2 ?_
  refine r_iload_n 1 dX8_placeOf_8 rfl rfl ?_
  refine r_icmp_eq (tgt := 18) dX8_placeOf_9 (by decide) (fun (c2 : (σ 69 x2.toNat) = x1) => ?_) (fun (c2 : ¬ ((σ 69 x2.toNat) = x1)) => ?_)
  · replace h := h.1 c2
    refine r_iload_n 2 dX8_placeOf_18 rfl rfl ?_
    exact r_iret dX8_placeOf_19 rfl ⟨_, rfl, h⟩
  · replace h := h.2 c2
    obtain ⟨b3, h⟩ := h
    refine r_iinc 2 dX8_placeOf_12 rfl (by decide) b3 rfl ?_
    refine r_goto (tgt := 2) dX8_placeOf_15 (by decide) ?_
    refine MWF.sub [1, 2, 0] rfl ?_
    exact h
set_option maxRecDepth 100000 in
set_option maxHeartbeats 4000000 in
theorem clX8_greatestLoad (l : Launch) (G : GT) (σ : Sto) (Q : Int → Sto → Prop) 
    (h : MWi l G mX8_greatestLoad 6 [(0, vR 56), (1, vI 0), (2, vI 0), (3, vI 0)] [] σ Q) :
    CLi l G mX8_greatestLoad [vR 56] σ Q := by
  show MWi l G mX8_greatestLoad 0 [(0, vR 56)] [] σ Q
  refine r_iconst dX8_greatestLoad_0 (by decide) ?_
  refine r_istore_n dX8_greatestLoad_1 rfl (by decide) rfl ?_
  refine r_iconst dX8_greatestLoad_2 (by decide) ?_
  refine r_istore_n dX8_greatestLoad_3 rfl (by decide) rfl ?_
  refine r_iconst dX8_greatestLoad_4 (by decide) ?_
  refine r_istore_n dX8_greatestLoad_5 rfl (by decide) rfl ?_
  refine MWF.sub [3, 2, 1, 0] rfl ?_
  exact h
set_option maxRecDepth 100000 in
set_option maxHeartbeats 4000000 in
theorem vcX8_greatestLoad_6 (l : Launch) (G : GT) (σ : Sto) (Q : Int → Sto → Prop) (x1 : Int) (x2 : Int) (x3 : Int)
    (h : ((σ 56 15) ≤ x3 → Q x2 σ) ∧ (¬ ((σ 56 15) ≤ x3) → (0 ≤ x3 ∧ x3 < 26) ∧ (0 ≤ (σ 69 x3.toNat)) ∧ (0 ≤ ((σ 69 x3.toNat) / 2) ∧ ((σ 69 x3.toNat) / 2) < 12) ∧ ((¬ (((σ 69 x3.toNat) % 2) = 0) → (-2147483648 ≤ -(σ 66 ((σ 69 x3.toNat) / 2).toNat) ∧ -(σ 66 ((σ 69 x3.toNat) / 2).toNat) ≤ 2147483647) ∧ True)) ∧ ∀ y8 : Int, y8 = (if ((σ 69 x3.toNat) % 2) = 0 then (σ 66 ((σ 69 x3.toNat) / 2).toNat) else (-(σ 66 ((σ 69 x3.toNat) / 2).toNat))) → (-2147483648 ≤ x1 + y8 ∧ x1 + y8 ≤ 2147483647) ∧ ∀ y14 : Int, y14 = (if (x1 + y8) ≤ x2 then x2 else (x1 + y8)) → (-2147483648 ≤ x3 + 1 ∧ x3 + 1 ≤ 2147483647) ∧ MWi l G mX8_greatestLoad 6 [(0, vR 56), (1, vI (x1 + y8)), (2, vI y14), (3, vI (x3 + 1))] [] σ Q)) :
    MWi l G mX8_greatestLoad 6 [(0, vR 56), (1, vI x1), (2, vI x2), (3, vI x3)] [] σ Q := by
  refine r_iload_n 3 dX8_greatestLoad_6 rfl rfl ?_
  refine r_aload_n 0 dX8_greatestLoad_7 rfl rfl ?_
  refine r_getI (j := 15) dX8_greatestLoad_8 sh_56 rfl kc_8 (by decide) lf_X8_82 ?_
  refine r_icmp_ge (tgt := 68) dX8_greatestLoad_11 (by decide) (fun (c1 : (σ 56 15) ≤ x3) => ?_) (fun (c1 : ¬ ((σ 56 15) ≤ x3)) => ?_)
  · replace h := h.1 c1
    refine r_iload_n 2 dX8_greatestLoad_68 rfl rfl ?_
    exact r_iret dX8_greatestLoad_69 rfl ⟨_, rfl, h⟩
  · replace h := h.2 c1
    refine r_aload_n 0 dX8_greatestLoad_14 rfl rfl ?_
    refine r_getR (j := 12) dX8_greatestLoad_15 sh_56 rfl kc_8 (by decide) lf_X8_37 ?_
    refine r_aload_n 0 dX8_greatestLoad_18 rfl rfl ?_
    refine r_getR (j := 16) dX8_greatestLoad_19 sh_56 rfl kc_8 (by decide) lf_X8_46 ?_
    refine r_iload_n 3 dX8_greatestLoad_22 rfl rfl ?_
    obtain ⟨b2, h⟩ := h
    refine r_iald dX8_greatestLoad_23 sh_69 b2.1 b2.2 ?_
    refine r_iconst dX8_greatestLoad_24 (by decide) ?_
    obtain ⟨b3, h⟩ := h
    refine r_idiv dX8_greatestLoad_25 b3 (by decide) ?_
    obtain ⟨b4, h⟩ := h
    refine r_iald dX8_greatestLoad_26 sh_66 b4.1 b4.2 ?_
    refine r_istore dX8_greatestLoad_27 (by decide) rfl ?_
    refine r_iload_n 2 dX8_greatestLoad_29 rfl rfl ?_
    refine r_aload_n 1 dX8_greatestLoad_30 rfl rfl ?_
    refine r_getR (j := 16) dX8_greatestLoad_31 sh_56 rfl kc_8 (by decide) lf_X8_46 ?_
    refine r_iload_n 4 dX8_greatestLoad_34 rfl rfl ?_
    refine r_iald dX8_greatestLoad_35 sh_69 b2.1 b2.2 ?_
    refine r_iconst dX8_greatestLoad_36 (by decide) ?_
    refine r_irem dX8_greatestLoad_37 b3 (by decide) ?_
    obtain ⟨q7, h⟩ := h
    obtain ⟨y8, ey8⟩ : ∃ z : Int, z = (if ((σ 69 x3.toNat) % 2) = 0 then (σ 66 ((σ 69 x3.toNat) / 2).toNat) else (-(σ 66 ((σ 69 x3.toNat) / 2).toNat))) := ⟨_, rfl⟩
    replace h := h y8 ey8
    have hj9 : MWi l G mX8_greatestLoad 49 [(0, vR 56), (2, vI x2), (3, vI x3)] [vI y8, vI x1] σ Q := by
      obtain ⟨b12, h⟩ := h
      refine r_iadd dX8_greatestLoad_49 b12 ?_
      refine r_istore_n dX8_greatestLoad_50 rfl (by decide) rfl ?_
      refine r_iload_n 0 dX8_greatestLoad_51 rfl rfl ?_
      refine r_iload_n 2 dX8_greatestLoad_52 rfl rfl ?_
      obtain ⟨y14, ey14⟩ : ∃ z : Int, z = (if (x1 + y8) ≤ x2 then x2 else (x1 + y8)) := ⟨_, rfl⟩
      replace h := h y14 ey14
      have hj15 : MWi l G mX8_greatestLoad 61 [(0, vR 56), (1, vI (x1 + y8)), (3, vI x3)] [vI y14] σ Q := by
        refine r_istore_n dX8_greatestLoad_61 rfl (by decide) rfl ?_
        obtain ⟨b18, h⟩ := h
        refine r_iinc 3 dX8_greatestLoad_62 rfl (by decide) b18 rfl ?_
        refine r_goto (tgt := 6) dX8_greatestLoad_65 (by decide) ?_
        refine MWF.sub [2, 3, 1, 0] rfl ?_
        exact h
      refine r_icmp_le (tgt := 60) dX8_greatestLoad_53 (by decide) (fun (c13 : (x1 + y8) ≤ x2) => ?_) (fun (c13 : ¬ ((x1 + y8) ≤ x2)) => ?_)
      · refine r_iload_n 2 dX8_greatestLoad_60 rfl rfl ?_
        refine MWF.sub [1, 0, 3] rfl ?_
        have q16 : y14 = x2 := by rw [ey14, if_pos c13]
        rw [q16] at hj15
        exact hj15
      · refine r_iload_n 0 dX8_greatestLoad_56 rfl rfl ?_
        refine r_goto (tgt := 61) dX8_greatestLoad_57 (by decide) ?_
        refine MWF.sub [1, 0, 3] rfl ?_
        have q17 : y14 = (x1 + y8) := by rw [ey14, if_neg c13]
        rw [q17] at hj15
        exact hj15
    replace h := q7
    refine r_if_ne (tgt := 46) dX8_greatestLoad_38 (by decide) (fun (c5 : ((σ 69 x3.toNat) % 2) = 0) => ?_) (fun (c5 : ¬ (((σ 69 x3.toNat) % 2) = 0)) => ?_)
    · refine r_iload 0 dX8_greatestLoad_41 rfl ?_
      refine r_goto (tgt := 49) dX8_greatestLoad_43 (by decide) ?_
      refine MWF.sub [1, 3, 4] rfl ?_
      have q10 : y8 = (σ 66 ((σ 69 x3.toNat) / 2).toNat) := by rw [ey8, if_pos c5]
      rw [q10] at hj9
      exact hj9
    · replace h := h c5
      refine r_iload 0 dX8_greatestLoad_46 rfl ?_
      obtain ⟨b6, h⟩ := h
      refine r_ineg dX8_greatestLoad_48 b6 ?_
      refine MWF.sub [1, 3, 4] rfl ?_
      have q11 : y8 = (-(σ 66 ((σ 69 x3.toNat) / 2).toNat)) := by rw [ey8, if_neg c5]
      rw [q11] at hj9
      exact hj9
set_option maxRecDepth 100000 in
set_option maxHeartbeats 4000000 in
theorem clX8_layEarly (l : Launch) (G : GT) (σ : Sto) (Q : Int → Sto → Prop) (x1 : Int)
    (h : MWi l G mX8_layEarly 2 [(0, vR 56), (1, vI x1), (2, vI 0)] [] σ Q) :
    CLi l G mX8_layEarly [vR 56, vI x1] σ Q := by
  show MWi l G mX8_layEarly 0 [(0, vR 56), (1, vI x1)] [] σ Q
  refine r_iconst dX8_layEarly_0 (by decide) ?_
  refine r_istore_n dX8_layEarly_1 rfl (by decide) rfl ?_
  refine MWF.sub [1, 2, 0] rfl ?_
  exact h
set_option maxRecDepth 100000 in
set_option maxHeartbeats 4000000 in
theorem vcX8_layEarly_2 (l : Launch) (G : GT) (σ : Sto) (Q : Int → Sto → Prop) (x1 : Int) (x2 : Int)
    (h : ((σ 56 15) ≤ x2 → ((σ 56 15) ≤ 0 → MWi l G mX8_layEarly 95 [(0, vR 56), (1, vI x1), (2, vI 1), (3, vI 0)] [] σ Q) ∧ (¬ ((σ 56 15) ≤ 0) → (0 ≤ x1 ∧ x1 < 4) ∧ CLi l G mX8_fromDepot [vR 56, vI x1, vI (σ 69 0)] σ (fun r4 s5 => (-2147483648 ≤ (σ 60 x1.toNat) + r4 ∧ (σ 60 x1.toNat) + r4 ≤ 2147483647) ∧ (((σ 60 x1.toNat) + r4) ≤ (σ 70 0) → MWi l G mX8_layEarly 95 [(0, vR 56), (1, vI x1), (2, vI 1), (3, vI 0)] [] s5 Q) ∧ (¬ (((σ 60 x1.toNat) + r4) ≤ (σ 70 0)) → CLi l G mX8_fromDepot [vR 56, vI x1, vI (s5 69 0)] s5 (fun r8 s9 => (-2147483648 ≤ (s5 60 x1.toNat) + r8 ∧ (s5 60 x1.toNat) + r8 ≤ 2147483647) ∧ MWi l G mX8_layEarly 95 [(0, vR 56), (1, vI x1), (2, vI 1), (3, vI 0)] [] (stS s9 70 0 ((s5 60 x1.toNat) + r8)) Q))))) ∧ (¬ ((σ 56 15) ≤ x2) → (0 ≤ x2 ∧ x2 < 26) ∧ (0 ≤ (σ 69 x2.toNat) ∧ (σ 69 x2.toNat) < 24) ∧ (-2147483648 ≤ x2 + 1 ∧ x2 + 1 ≤ 2147483647) ∧ MWi l G mX8_layEarly 2 [(0, vR 56), (1, vI x1), (2, vI (x2 + 1))] [] (stS σ 70 x2.toNat (σ 64 (σ 69 x2.toNat).toNat)) Q)) :
    MWi l G mX8_layEarly 2 [(0, vR 56), (1, vI x1), (2, vI x2)] [] σ Q := by
  refine r_iload_n 2 dX8_layEarly_2 rfl rfl ?_
  refine r_aload_n 0 dX8_layEarly_3 rfl rfl ?_
  refine r_getI (j := 15) dX8_layEarly_4 sh_56 rfl kc_8 (by decide) lf_X8_82 ?_
  refine r_icmp_ge (tgt := 33) dX8_layEarly_7 (by decide) (fun (c1 : (σ 56 15) ≤ x2) => ?_) (fun (c1 : ¬ ((σ 56 15) ≤ x2)) => ?_)
  · replace h := h.1 c1
    refine r_aload_n 0 dX8_layEarly_33 rfl rfl ?_
    refine r_getI (j := 15) dX8_layEarly_34 sh_56 rfl kc_8 (by decide) lf_X8_82 ?_
    refine r_if_le (tgt := 91) dX8_layEarly_37 (by decide) (fun (c2 : (σ 56 15) ≤ 0) => ?_) (fun (c2 : ¬ ((σ 56 15) ≤ 0)) => ?_)
    · replace h := h.1 c2
      refine r_iconst dX8_layEarly_91 (by decide) ?_
      refine r_istore_n dX8_layEarly_92 rfl (by decide) rfl ?_
      refine r_iconst dX8_layEarly_93 (by decide) ?_
      refine r_istore_n dX8_layEarly_94 rfl (by decide) rfl ?_
      refine MWF.sub [2, 3, 1, 0] rfl ?_
      exact h
    · replace h := h.2 c2
      refine r_aload_n 0 dX8_layEarly_40 rfl rfl ?_
      refine r_getR (j := 17) dX8_layEarly_41 sh_56 rfl kc_8 (by decide) lf_X8_49 ?_
      refine r_iconst dX8_layEarly_44 (by decide) ?_
      refine r_iald dX8_layEarly_45 sh_70 (by decide) (by decide) ?_
      refine r_aload_n 0 dX8_layEarly_46 rfl rfl ?_
      refine r_getR (j := 5) dX8_layEarly_47 sh_56 rfl kc_8 (by decide) lf_X8_19 ?_
      refine r_iload_n 1 dX8_layEarly_50 rfl rfl ?_
      obtain ⟨b3, h⟩ := h
      refine r_iald dX8_layEarly_51 sh_60 b3.1 b3.2 ?_
      refine r_aload_n 0 dX8_layEarly_52 rfl rfl ?_
      refine r_iload_n 1 dX8_layEarly_53 rfl rfl ?_
      refine r_aload_n 0 dX8_layEarly_54 rfl rfl ?_
      refine r_getR (j := 16) dX8_layEarly_55 sh_56 rfl kc_8 (by decide) lf_X8_46 ?_
      refine r_iconst dX8_layEarly_58 (by decide) ?_
      refine r_iald dX8_layEarly_59 sh_69 (by decide) (by decide) ?_
      refine r_callV [vI x1, vI (σ 69 0)] [vI (σ 60 x1.toNat), vI (σ 70 0)] dX8_layEarly_60 okX8_fromDepot ivX8_fromDepot seX8_fromDepot lm_X8_89 rfl rfl sh_56 rfl ⟨Nat.le_of_ble_eq_true rfl, Nat.le_of_ble_eq_true rfl, Nat.le_of_ble_eq_true rfl, Nat.le_of_ble_eq_true rfl⟩ h ?_
      rintro _ s5 ⟨r4, rfl, h⟩
      obtain ⟨b6, h⟩ := h
      refine r_iadd dX8_layEarly_63 b6 ?_
      refine r_icmp_ge (tgt := 91) dX8_layEarly_64 (by decide) (fun (c7 : ((σ 60 x1.toNat) + r4) ≤ (σ 70 0)) => ?_) (fun (c7 : ¬ (((σ 60 x1.toNat) + r4) ≤ (σ 70 0))) => ?_)
      · replace h := h.1 c7
        refine r_iconst dX8_layEarly_91 (by decide) ?_
        refine r_istore_n dX8_layEarly_92 rfl (by decide) rfl ?_
        refine r_iconst dX8_layEarly_93 (by decide) ?_
        refine r_istore_n dX8_layEarly_94 rfl (by decide) rfl ?_
        refine MWF.sub [2, 3, 1, 0] rfl ?_
        exact h
      · replace h := h.2 c7
        refine r_aload_n 0 dX8_layEarly_67 rfl rfl ?_
        refine r_getR (j := 17) dX8_layEarly_68 sh_56 rfl kc_8 (by decide) lf_X8_49 ?_
        refine r_iconst dX8_layEarly_71 (by decide) ?_
        refine r_aload_n 0 dX8_layEarly_72 rfl rfl ?_
        refine r_getR (j := 5) dX8_layEarly_73 sh_56 rfl kc_8 (by decide) lf_X8_19 ?_
        refine r_iload_n 1 dX8_layEarly_76 rfl rfl ?_
        refine r_iald dX8_layEarly_77 sh_60 b3.1 b3.2 ?_
        refine r_aload_n 0 dX8_layEarly_78 rfl rfl ?_
        refine r_iload_n 1 dX8_layEarly_79 rfl rfl ?_
        refine r_aload_n 0 dX8_layEarly_80 rfl rfl ?_
        refine r_getR (j := 16) dX8_layEarly_81 sh_56 rfl kc_8 (by decide) lf_X8_46 ?_
        refine r_iconst dX8_layEarly_84 (by decide) ?_
        refine r_iald dX8_layEarly_85 sh_69 (by decide) (by decide) ?_
        refine r_callV [vI x1, vI (s5 69 0)] [vI (s5 60 x1.toNat), vI 0, vR 70] dX8_layEarly_86 okX8_fromDepot ivX8_fromDepot seX8_fromDepot lm_X8_89 rfl rfl sh_56 rfl ⟨Nat.le_of_ble_eq_true rfl, Nat.le_of_ble_eq_true rfl, Nat.le_of_ble_eq_true rfl, Nat.le_of_ble_eq_true rfl⟩ h ?_
        rintro _ s9 ⟨r8, rfl, h⟩
        obtain ⟨b10, h⟩ := h
        refine r_iadd dX8_layEarly_89 b10 ?_
        refine r_iast dX8_layEarly_90 sh_70 (by decide) (by decide) ?_
        refine r_iconst dX8_layEarly_91 (by decide) ?_
        refine r_istore_n dX8_layEarly_92 rfl (by decide) rfl ?_
        refine r_iconst dX8_layEarly_93 (by decide) ?_
        refine r_istore_n dX8_layEarly_94 rfl (by decide) rfl ?_
        refine MWF.sub [2, 3, 1, 0] rfl ?_
        exact h
  · replace h := h.2 c1
    refine r_aload_n 0 dX8_layEarly_10 rfl rfl ?_
    refine r_getR (j := 17) dX8_layEarly_11 sh_56 rfl kc_8 (by decide) lf_X8_49 ?_
    refine r_iload_n 2 dX8_layEarly_14 rfl rfl ?_
    refine r_aload_n 0 dX8_layEarly_15 rfl rfl ?_
    refine r_getR (j := 10) dX8_layEarly_16 sh_56 rfl kc_8 (by decide) lf_X8_31 ?_
    refine r_aload_n 0 dX8_layEarly_19 rfl rfl ?_
    refine r_getR (j := 16) dX8_layEarly_20 sh_56 rfl kc_8 (by decide) lf_X8_46 ?_
    refine r_iload_n 2 dX8_layEarly_23 rfl rfl ?_
    obtain ⟨b11, h⟩ := h
    refine r_iald dX8_layEarly_24 sh_69 b11.1 b11.2 ?_
    obtain ⟨b12, h⟩ := h
    refine r_iald dX8_layEarly_25 sh_64 b12.1 b12.2 ?_
    refine r_iast dX8_layEarly_26 sh_70 b11.1 b11.2 ?_
    obtain ⟨b13, h⟩ := h
    refine r_iinc 2 dX8_layEarly_27 rfl (by decide) b13 rfl ?_
    refine r_goto (tgt := 2) dX8_layEarly_30 (by decide) ?_
    refine MWF.sub [1, 2, 0] rfl ?_
    exact h
set_option maxRecDepth 100000 in
set_option maxHeartbeats 4000000 in
theorem vcX8_layEarly_95 (l : Launch) (G : GT) (σ : Sto) (Q : Int → Sto → Prop) (x1 : Int) (x2 : Int) (x3 : Int)
    (h : (x2 = 0 → ((σ 56 15) = 0 → Q 1 σ) ∧ (¬ ((σ 56 15) = 0) → (-2147483648 ≤ (σ 56 15) - 1 ∧ (σ 56 15) - 1 ≤ 2147483647) ∧ (0 ≤ ((σ 56 15) - 1) ∧ ((σ 56 15) - 1) < 26) ∧ (-2147483648 ≤ (σ 70 ((σ 56 15) - 1).toNat) + (σ 56 0) ∧ (σ 70 ((σ 56 15) - 1).toNat) + (σ 56 0) ≤ 2147483647) ∧ CLi l G mX8_fromDepot [vR 56, vI x1, vI (σ 69 ((σ 56 15) - 1).toNat)] σ (fun r19 s20 => (-2147483648 ≤ ((σ 70 ((σ 56 15) - 1).toNat) + (σ 56 0)) + r19 ∧ ((σ 70 ((σ 56 15) - 1).toNat) + (σ 56 0)) + r19 ≤ 2147483647) ∧ (0 ≤ x1 ∧ x1 < 4) ∧ ∀ y24 : Int, y24 = (if (s20 61 x1.toNat) < (((σ 70 ((σ 56 15) - 1).toNat) + (σ 56 0)) + r19) then 0 else 1) → Q y24 s20))) ∧ (¬ (x2 = 0) → (-2147483648 ≤ (σ 56 15) + 1 ∧ (σ 56 15) + 1 ≤ 2147483647) ∧ (x3 ≤ ((σ 56 15) + 1) → (-2147483648 ≤ x3 + 1 ∧ x3 + 1 ≤ 2147483647) ∧ MWi l G mX8_layEarly 119 [(0, vR 56), (1, vI x1), (2, vI 0), (3, vI (x3 + 1)), (4, vI 0)] [] σ Q) ∧ (¬ (x3 ≤ ((σ 56 15) + 1)) → Q 0 σ))) :
    MWi l G mX8_layEarly 95 [(0, vR 56), (1, vI x1), (2, vI x2), (3, vI x3)] [] σ Q := by
  refine r_iload_n 2 dX8_layEarly_95 rfl rfl ?_
  refine r_if_eq (tgt := 303) dX8_layEarly_96 (by decide) (fun (c14 : x2 = 0) => ?_) (fun (c14 : ¬ (x2 = 0)) => ?_)
  · replace h := h.1 c14
    refine r_aload_n 0 dX8_layEarly_303 rfl rfl ?_
    refine r_getI (j := 15) dX8_layEarly_304 sh_56 rfl kc_8 (by decide) lf_X8_82 ?_
    refine r_if_eq (tgt := 352) dX8_layEarly_307 (by decide) (fun (c15 : (σ 56 15) = 0) => ?_) (fun (c15 : ¬ ((σ 56 15) = 0)) => ?_)
    · replace h := h.1 c15
      refine r_iconst dX8_layEarly_352 (by decide) ?_
      refine r_goto (tgt := 357) dX8_layEarly_353 (by decide) ?_
      exact r_zret dX8_layEarly_357 rfl (by decide) ⟨_, rfl, h⟩
    · replace h := h.2 c15
      refine r_aload_n 0 dX8_layEarly_310 rfl rfl ?_
      refine r_getR (j := 17) dX8_layEarly_311 sh_56 rfl kc_8 (by decide) lf_X8_49 ?_
      refine r_aload_n 0 dX8_layEarly_314 rfl rfl ?_
      refine r_getI (j := 15) dX8_layEarly_315 sh_56 rfl kc_8 (by decide) lf_X8_82 ?_
      refine r_iconst dX8_layEarly_318 (by decide) ?_
      obtain ⟨b16, h⟩ := h
      refine r_isub dX8_layEarly_319 b16 ?_
      obtain ⟨b17, h⟩ := h
      refine r_iald dX8_layEarly_320 sh_70 b17.1 b17.2 ?_
      refine r_aload_n 0 dX8_layEarly_321 rfl rfl ?_
      refine r_getI (j := 0) dX8_layEarly_322 sh_56 rfl kc_8 (by decide) lf_X8_61 ?_
      obtain ⟨b18, h⟩ := h
      refine r_iadd dX8_layEarly_325 b18 ?_
      refine r_aload_n 0 dX8_layEarly_326 rfl rfl ?_
      refine r_iload_n 1 dX8_layEarly_327 rfl rfl ?_
      refine r_aload_n 0 dX8_layEarly_328 rfl rfl ?_
      refine r_getR (j := 16) dX8_layEarly_329 sh_56 rfl kc_8 (by decide) lf_X8_46 ?_
      refine r_aload_n 0 dX8_layEarly_332 rfl rfl ?_
      refine r_getI (j := 15) dX8_layEarly_333 sh_56 rfl kc_8 (by decide) lf_X8_82 ?_
      refine r_iconst dX8_layEarly_336 (by decide) ?_
      refine r_isub dX8_layEarly_337 b16 ?_
      refine r_iald dX8_layEarly_338 sh_69 b17.1 b17.2 ?_
      refine r_callV [vI x1, vI (σ 69 ((σ 56 15) - 1).toNat)] [vI ((σ 70 ((σ 56 15) - 1).toNat) + (σ 56 0))] dX8_layEarly_339 okX8_fromDepot ivX8_fromDepot seX8_fromDepot lm_X8_89 rfl rfl sh_56 rfl ⟨Nat.le_of_ble_eq_true rfl, Nat.le_of_ble_eq_true rfl, Nat.le_of_ble_eq_true rfl, Nat.le_of_ble_eq_true rfl⟩ h ?_
      rintro _ s20 ⟨r19, rfl, h⟩
      obtain ⟨b21, h⟩ := h
      refine r_iadd dX8_layEarly_342 b21 ?_
      refine r_aload_n 0 dX8_layEarly_343 rfl rfl ?_
      refine r_getR (j := 6) dX8_layEarly_344 sh_56 rfl kc_8 (by decide) lf_X8_22 ?_
      refine r_iload_n 1 dX8_layEarly_347 rfl rfl ?_
      obtain ⟨b22, h⟩ := h
      refine r_iald dX8_layEarly_348 sh_61 b22.1 b22.2 ?_
      obtain ⟨y24, ey24⟩ : ∃ z : Int, z = (if (s20 61 x1.toNat) < (((σ 70 ((σ 56 15) - 1).toNat) + (σ 56 0)) + r19) then 0 else 1) := ⟨_, rfl⟩
      replace h := h y24 ey24
      have hj25 : MWi l G mX8_layEarly 357 [] [vI y24] s20 Q := by
        exact r_zret dX8_layEarly_357 rfl (by rw [ey24]; (repeat' split) <;> decide) ⟨_, rfl, h⟩
      refine r_icmp_gt (tgt := 356) dX8_layEarly_349 (by decide) (fun (c23 : (s20 61 x1.toNat) < (((σ 70 ((σ 56 15) - 1).toNat) + (σ 56 0)) + r19)) => ?_) (fun (c23 : ¬ ((s20 61 x1.toNat) < (((σ 70 ((σ 56 15) - 1).toNat) + (σ 56 0)) + r19))) => ?_)
      · refine r_iconst dX8_layEarly_356 (by decide) ?_
        refine MWF.sub [] rfl ?_
        have q26 : y24 = 0 := by rw [ey24, if_pos c23]
        rw [q26] at hj25
        exact hj25
      · refine r_iconst dX8_layEarly_352 (by decide) ?_
        refine r_goto (tgt := 357) dX8_layEarly_353 (by decide) ?_
        refine MWF.sub [] rfl ?_
        have q27 : y24 = 1 := by rw [ey24, if_neg c23]
        rw [q27] at hj25
        exact hj25
  · replace h := h.2 c14
    refine r_iload_n 3 dX8_layEarly_99 rfl rfl ?_
    refine r_aload_n 0 dX8_layEarly_100 rfl rfl ?_
    refine r_getI (j := 15) dX8_layEarly_101 sh_56 rfl kc_8 (by decide) lf_X8_82 ?_
    refine r_iconst dX8_layEarly_104 (by decide) ?_
    obtain ⟨b28, h⟩ := h
    refine r_iadd dX8_layEarly_105 b28 ?_
    refine r_icmp_le (tgt := 111) dX8_layEarly_106 (by decide) (fun (c29 : x3 ≤ ((σ 56 15) + 1)) => ?_) (fun (c29 : ¬ (x3 ≤ ((σ 56 15) + 1))) => ?_)
    · replace h := h.1 c29
      obtain ⟨b30, h⟩ := h
      refine r_iinc 3 dX8_layEarly_111 rfl (by decide) b30 rfl ?_
      refine r_iconst dX8_layEarly_114 (by decide) ?_
      refine r_istore_n dX8_layEarly_115 rfl (by decide) rfl ?_
      refine r_iconst dX8_layEarly_116 (by decide) ?_
      refine r_istore dX8_layEarly_117 (by decide) rfl ?_
      refine MWF.sub [3, 4, 1, 2, 0] rfl ?_
      exact h
    · replace h := h.2 c29
      refine r_iconst dX8_layEarly_109 (by decide) ?_
      exact r_zret dX8_layEarly_110 rfl (by decide) ⟨_, rfl, h⟩
set_option maxRecDepth 100000 in
set_option maxHeartbeats 4000000 in
theorem vcX8_layEarly_119 (l : Launch) (G : GT) (σ : Sto) (Q : Int → Sto → Prop) (x1 : Int) (x2 : Int) (x3 : Int) (x4 : Int)
    (h : ((σ 56 15) ≤ x4 → MWi l G mX8_layEarly 95 [(0, vR 56), (1, vI x1), (2, vI x2), (3, vI x3)] [] σ Q) ∧ (¬ ((σ 56 15) ≤ x4) → (x4 = 0 → (0 ≤ x4 ∧ x4 < 26) ∧ (0 ≤ (σ 69 x4.toNat)) ∧ (((σ 69 x4.toNat) % 2) = 0 → (-2147483648 ≤ (σ 69 x4.toNat) + 1 ∧ (σ 69 x4.toNat) + 1 ≤ 2147483647) ∧ CLi l G mX8_placeOf [vR 56, vI ((σ 69 x4.toNat) + 1)] σ (fun r37 s38 => (0 ≤ r37 ∧ r37 < 26) ∧ (0 ≤ (s38 69 x4.toNat)) ∧ (0 ≤ ((s38 69 x4.toNat) / 2) ∧ ((s38 69 x4.toNat) / 2) < 12) ∧ (-2147483648 ≤ (s38 70 r37.toNat) - (s38 67 ((s38 69 x4.toNat) / 2).toNat) ∧ (s38 70 r37.toNat) - (s38 67 ((s38 69 x4.toNat) / 2).toNat) ≤ 2147483647) ∧ (-2147483648 ≤ ((s38 70 r37.toNat) - (s38 67 ((s38 69 x4.toNat) / 2).toNat)) - (s38 56 0) ∧ ((s38 70 r37.toNat) - (s38 67 ((s38 69 x4.toNat) / 2).toNat)) - (s38 56 0) ≤ 2147483647) ∧ ∀ y45 : Int, y45 = (if (((s38 70 r37.toNat) - (s38 67 ((s38 69 x4.toNat) / 2).toNat)) - (s38 56 0)) ≤ (σ 70 0) then (σ 70 0) else (((s38 70 r37.toNat) - (s38 67 ((s38 69 x4.toNat) / 2).toNat)) - (s38 56 0))) → ∀ y50 : Int, y50 = (if y45 ≤ (s38 70 x4.toNat) then x2 else 1) → ∀ s51 : Sto, s51 = (if y45 ≤ (s38 70 x4.toNat) then s38 else (stS s38 70 x4.toNat y45)) → (0 ≤ (s51 69 x4.toNat) ∧ (s51 69 x4.toNat) < 24) ∧ ((s51 70 x4.toNat) ≤ (s51 65 (s51 69 x4.toNat).toNat) → (-2147483648 ≤ x4 + 1 ∧ x4 + 1 ≤ 2147483647) ∧ MWi l G mX8_layEarly 119 [(0, vR 56), (1, vI x1), (2, vI y50), (3, vI x3), (4, vI (x4 + 1))] [] s51 Q) ∧ (¬ ((s51 70 x4.toNat) ≤ (s51 65 (s51 69 x4.toNat).toNat)) → Q 0 s51))) ∧ (¬ (((σ 69 x4.toNat) % 2) = 0) → ∀ y61 : Int, y61 = (if (σ 70 0) ≤ (σ 70 x4.toNat) then x2 else 1) → ∀ s62 : Sto, s62 = (if (σ 70 0) ≤ (σ 70 x4.toNat) then σ else (stS σ 70 x4.toNat (σ 70 0))) → (0 ≤ (s62 69 x4.toNat) ∧ (s62 69 x4.toNat) < 24) ∧ ((s62 70 x4.toNat) ≤ (s62 65 (s62 69 x4.toNat).toNat) → (-2147483648 ≤ x4 + 1 ∧ x4 + 1 ≤ 2147483647) ∧ MWi l G mX8_layEarly 119 [(0, vR 56), (1, vI x1), (2, vI y61), (3, vI x3), (4, vI (x4 + 1))] [] s62 Q) ∧ (¬ ((s62 70 x4.toNat) ≤ (s62 65 (s62 69 x4.toNat).toNat)) → Q 0 s62))) ∧ (¬ (x4 = 0) → (-2147483648 ≤ x4 - 1 ∧ x4 - 1 ≤ 2147483647) ∧ (0 ≤ (x4 - 1) ∧ (x4 - 1) < 26) ∧ (-2147483648 ≤ (σ 70 (x4 - 1).toNat) + (σ 56 0) ∧ (σ 70 (x4 - 1).toNat) + (σ 56 0) ≤ 2147483647) ∧ (0 ≤ x4 ∧ x4 < 26) ∧ CLi l G mX8_between [vR 56, vI (σ 69 (x4 - 1).toNat), vI (σ 69 x4.toNat)] σ (fun r75 s76 => (-2147483648 ≤ ((σ 70 (x4 - 1).toNat) + (σ 56 0)) + r75 ∧ ((σ 70 (x4 - 1).toNat) + (σ 56 0)) + r75 ≤ 2147483647) ∧ (0 ≤ (s76 69 x4.toNat)) ∧ (((s76 69 x4.toNat) % 2) = 0 → (-2147483648 ≤ (s76 69 x4.toNat) + 1 ∧ (s76 69 x4.toNat) + 1 ≤ 2147483647) ∧ CLi l G mX8_placeOf [vR 56, vI ((s76 69 x4.toNat) + 1)] s76 (fun r81 s82 => (0 ≤ r81 ∧ r81 < 26) ∧ (0 ≤ (s82 69 x4.toNat)) ∧ (0 ≤ ((s82 69 x4.toNat) / 2) ∧ ((s82 69 x4.toNat) / 2) < 12) ∧ (-2147483648 ≤ (s82 70 r81.toNat) - (s82 67 ((s82 69 x4.toNat) / 2).toNat) ∧ (s82 70 r81.toNat) - (s82 67 ((s82 69 x4.toNat) / 2).toNat) ≤ 2147483647) ∧ (-2147483648 ≤ ((s82 70 r81.toNat) - (s82 67 ((s82 69 x4.toNat) / 2).toNat)) - (s82 56 0) ∧ ((s82 70 r81.toNat) - (s82 67 ((s82 69 x4.toNat) / 2).toNat)) - (s82 56 0) ≤ 2147483647) ∧ ∀ y89 : Int, y89 = (if (((s82 70 r81.toNat) - (s82 67 ((s82 69 x4.toNat) / 2).toNat)) - (s82 56 0)) ≤ (((σ 70 (x4 - 1).toNat) + (σ 56 0)) + r75) then (((σ 70 (x4 - 1).toNat) + (σ 56 0)) + r75) else (((s82 70 r81.toNat) - (s82 67 ((s82 69 x4.toNat) / 2).toNat)) - (s82 56 0))) → ∀ y94 : Int, y94 = (if y89 ≤ (s82 70 x4.toNat) then x2 else 1) → ∀ s95 : Sto, s95 = (if y89 ≤ (s82 70 x4.toNat) then s82 else (stS s82 70 x4.toNat y89)) → (0 ≤ (s95 69 x4.toNat) ∧ (s95 69 x4.toNat) < 24) ∧ ((s95 70 x4.toNat) ≤ (s95 65 (s95 69 x4.toNat).toNat) → (-2147483648 ≤ x4 + 1 ∧ x4 + 1 ≤ 2147483647) ∧ MWi l G mX8_layEarly 119 [(0, vR 56), (1, vI x1), (2, vI y94), (3, vI x3), (4, vI (x4 + 1))] [] s95 Q) ∧ (¬ ((s95 70 x4.toNat) ≤ (s95 65 (s95 69 x4.toNat).toNat)) → Q 0 s95))) ∧ (¬ (((s76 69 x4.toNat) % 2) = 0) → ∀ y105 : Int, y105 = (if (((σ 70 (x4 - 1).toNat) + (σ 56 0)) + r75) ≤ (s76 70 x4.toNat) then x2 else 1) → ∀ s106 : Sto, s106 = (if (((σ 70 (x4 - 1).toNat) + (σ 56 0)) + r75) ≤ (s76 70 x4.toNat) then s76 else (stS s76 70 x4.toNat (((σ 70 (x4 - 1).toNat) + (σ 56 0)) + r75))) → (0 ≤ (s106 69 x4.toNat) ∧ (s106 69 x4.toNat) < 24) ∧ ((s106 70 x4.toNat) ≤ (s106 65 (s106 69 x4.toNat).toNat) → (-2147483648 ≤ x4 + 1 ∧ x4 + 1 ≤ 2147483647) ∧ MWi l G mX8_layEarly 119 [(0, vR 56), (1, vI x1), (2, vI y105), (3, vI x3), (4, vI (x4 + 1))] [] s106 Q) ∧ (¬ ((s106 70 x4.toNat) ≤ (s106 65 (s106 69 x4.toNat).toNat)) → Q 0 s106)))))) :
    MWi l G mX8_layEarly 119 [(0, vR 56), (1, vI x1), (2, vI x2), (3, vI x3), (4, vI x4)] [] σ Q := by
  refine r_iload 4 dX8_layEarly_119 rfl ?_
  refine r_aload_n 0 dX8_layEarly_121 rfl rfl ?_
  refine r_getI (j := 15) dX8_layEarly_122 sh_56 rfl kc_8 (by decide) lf_X8_82 ?_
  refine r_icmp_ge (tgt := 300) dX8_layEarly_125 (by decide) (fun (c31 : (σ 56 15) ≤ x4) => ?_) (fun (c31 : ¬ ((σ 56 15) ≤ x4)) => ?_)
  · replace h := h.1 c31
    refine r_goto (tgt := 95) dX8_layEarly_300 (by decide) ?_
    refine MWF.sub [0, 1, 2, 3] rfl ?_
    exact h
  · replace h := h.2 c31
    refine r_iload 4 dX8_layEarly_128 rfl ?_
    refine r_if_ne (tgt := 142) dX8_layEarly_130 (by decide) (fun (c32 : x4 = 0) => ?_) (fun (c32 : ¬ (x4 = 0)) => ?_)
    · replace h := h.1 c32
      refine r_aload_n 0 dX8_layEarly_133 rfl rfl ?_
      refine r_getR (j := 17) dX8_layEarly_134 sh_56 rfl kc_8 (by decide) lf_X8_49 ?_
      refine r_iconst dX8_layEarly_137 (by decide) ?_
      refine r_iald dX8_layEarly_138 sh_70 (by decide) (by decide) ?_
      refine r_goto (tgt := 177) dX8_layEarly_139 (by decide) ?_
      refine r_istore dX8_layEarly_177 (by decide) rfl ?_
      refine r_aload_n 1 dX8_layEarly_179 rfl rfl ?_
      refine r_getR (j := 16) dX8_layEarly_180 sh_56 rfl kc_8 (by decide) lf_X8_46 ?_
      refine r_iload 5 dX8_layEarly_183 rfl ?_
      obtain ⟨b33, h⟩ := h
      refine r_iald dX8_layEarly_185 sh_69 b33.1 b33.2 ?_
      refine r_iconst dX8_layEarly_186 (by decide) ?_
      obtain ⟨b34, h⟩ := h
      refine r_irem dX8_layEarly_187 b34 (by decide) ?_
      refine r_if_ne (tgt := 247) dX8_layEarly_188 (by decide) (fun (c35 : ((σ 69 x4.toNat) % 2) = 0) => ?_) (fun (c35 : ¬ (((σ 69 x4.toNat) % 2) = 0)) => ?_)
      · replace h := h.1 c35
        refine r_aload_n 1 dX8_layEarly_191 rfl rfl ?_
        refine r_getR (j := 17) dX8_layEarly_192 sh_56 rfl kc_8 (by decide) lf_X8_49 ?_
        refine r_aload_n 1 dX8_layEarly_195 rfl rfl ?_
        refine r_aload_n 1 dX8_layEarly_196 rfl rfl ?_
        refine r_getR (j := 16) dX8_layEarly_197 sh_56 rfl kc_8 (by decide) lf_X8_46 ?_
        refine r_iload 5 dX8_layEarly_200 rfl ?_
        refine r_iald dX8_layEarly_202 sh_69 b33.1 b33.2 ?_
        refine r_iconst dX8_layEarly_203 (by decide) ?_
        obtain ⟨b36, h⟩ := h
        refine r_iadd dX8_layEarly_204 b36 ?_
        refine r_callV [vI ((σ 69 x4.toNat) + 1)] [vR 70] dX8_layEarly_205 okX8_placeOf ivX8_placeOf seX8_placeOf lm_X8_96 rfl rfl sh_56 rfl ⟨Nat.le_of_ble_eq_true rfl, Nat.le_of_ble_eq_true rfl, Nat.le_of_ble_eq_true rfl, Nat.le_of_ble_eq_true rfl⟩ h ?_
        rintro _ s38 ⟨r37, rfl, h⟩
        obtain ⟨b39, h⟩ := h
        refine r_iald dX8_layEarly_208 sh_70 b39.1 b39.2 ?_
        refine r_aload_n 1 dX8_layEarly_209 rfl rfl ?_
        refine r_getR (j := 13) dX8_layEarly_210 sh_56 rfl kc_8 (by decide) lf_X8_40 ?_
        refine r_aload_n 1 dX8_layEarly_213 rfl rfl ?_
        refine r_getR (j := 16) dX8_layEarly_214 sh_56 rfl kc_8 (by decide) lf_X8_46 ?_
        refine r_iload 5 dX8_layEarly_217 rfl ?_
        refine r_iald dX8_layEarly_219 sh_69 b33.1 b33.2 ?_
        refine r_iconst dX8_layEarly_220 (by decide) ?_
        obtain ⟨b40, h⟩ := h
        refine r_idiv dX8_layEarly_221 b40 (by decide) ?_
        obtain ⟨b41, h⟩ := h
        refine r_iald dX8_layEarly_222 sh_67 b41.1 b41.2 ?_
        obtain ⟨b42, h⟩ := h
        refine r_isub dX8_layEarly_223 b42 ?_
        refine r_aload_n 1 dX8_layEarly_224 rfl rfl ?_
        refine r_getI (j := 0) dX8_layEarly_225 sh_56 rfl kc_8 (by decide) lf_X8_61 ?_
        obtain ⟨b43, h⟩ := h
        refine r_isub dX8_layEarly_228 b43 ?_
        refine r_istore dX8_layEarly_229 (by decide) rfl ?_
        refine r_iload 0 dX8_layEarly_231 rfl ?_
        refine r_iload 1 dX8_layEarly_233 rfl ?_
        obtain ⟨y45, ey45⟩ : ∃ z : Int, z = (if (((s38 70 r37.toNat) - (s38 67 ((s38 69 x4.toNat) / 2).toNat)) - (s38 56 0)) ≤ (σ 70 0) then (σ 70 0) else (((s38 70 r37.toNat) - (s38 67 ((s38 69 x4.toNat) / 2).toNat)) - (s38 56 0))) := ⟨_, rfl⟩
        replace h := h y45 ey45
        have hj46 : MWi l G mX8_layEarly 245 [(0, vR 56), (1, vI x1), (2, vI x2), (3, vI x3), (4, vI x4)] [vI y45] s38 Q := by
          refine r_istore dX8_layEarly_245 (by decide) rfl ?_
          refine r_iload 0 dX8_layEarly_247 rfl ?_
          refine r_aload_n 1 dX8_layEarly_249 rfl rfl ?_
          refine r_getR (j := 17) dX8_layEarly_250 sh_56 rfl kc_8 (by decide) lf_X8_49 ?_
          refine r_iload 5 dX8_layEarly_253 rfl ?_
          refine r_iald dX8_layEarly_255 sh_70 b33.1 b33.2 ?_
          obtain ⟨y50, ey50⟩ : ∃ z : Int, z = (if y45 ≤ (s38 70 x4.toNat) then x2 else 1) := ⟨_, rfl⟩
          replace h := h y50 ey50
          obtain ⟨s51, es51⟩ : ∃ z : Sto, z = (if y45 ≤ (s38 70 x4.toNat) then s38 else (stS s38 70 x4.toNat y45)) := ⟨_, rfl⟩
          replace h := h s51 es51
          have hj52 : MWi l G mX8_layEarly 270 [(0, vR 56), (1, vI x1), (2, vI y50), (3, vI x3), (4, vI x4)] [] s51 Q := by
            refine r_aload_n 0 dX8_layEarly_270 rfl rfl ?_
            refine r_getR (j := 17) dX8_layEarly_271 sh_56 rfl kc_8 (by decide) lf_X8_49 ?_
            refine r_iload 4 dX8_layEarly_274 rfl ?_
            refine r_iald dX8_layEarly_276 sh_70 b33.1 b33.2 ?_
            refine r_aload_n 0 dX8_layEarly_277 rfl rfl ?_
            refine r_getR (j := 11) dX8_layEarly_278 sh_56 rfl kc_8 (by decide) lf_X8_34 ?_
            refine r_aload_n 0 dX8_layEarly_281 rfl rfl ?_
            refine r_getR (j := 16) dX8_layEarly_282 sh_56 rfl kc_8 (by decide) lf_X8_46 ?_
            refine r_iload 4 dX8_layEarly_285 rfl ?_
            refine r_iald dX8_layEarly_287 sh_69 b33.1 b33.2 ?_
            obtain ⟨b57, h⟩ := h
            refine r_iald dX8_layEarly_288 sh_65 b57.1 b57.2 ?_
            refine r_icmp_le (tgt := 294) dX8_layEarly_289 (by decide) (fun (c58 : (s51 70 x4.toNat) ≤ (s51 65 (s51 69 x4.toNat).toNat)) => ?_) (fun (c58 : ¬ ((s51 70 x4.toNat) ≤ (s51 65 (s51 69 x4.toNat).toNat))) => ?_)
            · replace h := h.1 c58
              obtain ⟨b59, h⟩ := h
              refine r_iinc 4 dX8_layEarly_294 rfl (by decide) b59 rfl ?_
              refine r_goto (tgt := 119) dX8_layEarly_297 (by decide) ?_
              refine MWF.sub [1, 2, 3, 4, 0] rfl ?_
              exact h
            · replace h := h.2 c58
              refine r_iconst dX8_layEarly_292 (by decide) ?_
              exact r_zret dX8_layEarly_293 rfl (by decide) ⟨_, rfl, h⟩
          refine r_icmp_le (tgt := 270) dX8_layEarly_256 (by decide) (fun (c49 : y45 ≤ (s38 70 x4.toNat)) => ?_) (fun (c49 : ¬ (y45 ≤ (s38 70 x4.toNat))) => ?_)
          · refine MWF.sub [1, 2, 3, 4, 5] rfl ?_
            have q53 : y50 = x2 := by rw [ey50, if_pos c49]
            rw [q53] at hj52
            have q54 : s51 = s38 := by rw [es51, if_pos c49]
            rw [q54] at hj52
            exact hj52
          · refine r_aload_n 1 dX8_layEarly_259 rfl rfl ?_
            refine r_getR (j := 17) dX8_layEarly_260 sh_56 rfl kc_8 (by decide) lf_X8_49 ?_
            refine r_iload 5 dX8_layEarly_263 rfl ?_
            refine r_iload 0 dX8_layEarly_265 rfl ?_
            refine r_iast dX8_layEarly_267 sh_70 b33.1 b33.2 ?_
            refine r_iconst dX8_layEarly_268 (by decide) ?_
            refine r_istore_n dX8_layEarly_269 rfl (by decide) rfl ?_
            refine MWF.sub [2, 3, 0, 4, 5] rfl ?_
            have q55 : y50 = 1 := by rw [ey50, if_neg c49]
            rw [q55] at hj52
            have q56 : s51 = (stS s38 70 x4.toNat y45) := by rw [es51, if_neg c49]
            rw [q56] at hj52
            exact hj52
        refine r_icmp_le (tgt := 243) dX8_layEarly_235 (by decide) (fun (c44 : (((s38 70 r37.toNat) - (s38 67 ((s38 69 x4.toNat) / 2).toNat)) - (s38 56 0)) ≤ (σ 70 0)) => ?_) (fun (c44 : ¬ ((((s38 70 r37.toNat) - (s38 67 ((s38 69 x4.toNat) / 2).toNat)) - (s38 56 0)) ≤ (σ 70 0))) => ?_)
        · refine r_iload 1 dX8_layEarly_243 rfl ?_
          refine MWF.sub [2, 3, 4, 5, 6] rfl ?_
          have q47 : y45 = (σ 70 0) := by rw [ey45, if_pos c44]
          rw [q47] at hj46
          exact hj46
        · refine r_iload 0 dX8_layEarly_238 rfl ?_
          refine r_goto (tgt := 245) dX8_layEarly_240 (by decide) ?_
          refine MWF.sub [2, 3, 4, 5, 6] rfl ?_
          have q48 : y45 = (((s38 70 r37.toNat) - (s38 67 ((s38 69 x4.toNat) / 2).toNat)) - (s38 56 0)) := by rw [ey45, if_neg c44]
          rw [q48] at hj46
          exact hj46
      · replace h := h.2 c35
        refine r_iload 0 dX8_layEarly_247 rfl ?_
        refine r_aload_n 1 dX8_layEarly_249 rfl rfl ?_
        refine r_getR (j := 17) dX8_layEarly_250 sh_56 rfl kc_8 (by decide) lf_X8_49 ?_
        refine r_iload 5 dX8_layEarly_253 rfl ?_
        refine r_iald dX8_layEarly_255 sh_70 b33.1 b33.2 ?_
        obtain ⟨y61, ey61⟩ : ∃ z : Int, z = (if (σ 70 0) ≤ (σ 70 x4.toNat) then x2 else 1) := ⟨_, rfl⟩
        replace h := h y61 ey61
        obtain ⟨s62, es62⟩ : ∃ z : Sto, z = (if (σ 70 0) ≤ (σ 70 x4.toNat) then σ else (stS σ 70 x4.toNat (σ 70 0))) := ⟨_, rfl⟩
        replace h := h s62 es62
        have hj63 : MWi l G mX8_layEarly 270 [(0, vR 56), (1, vI x1), (2, vI y61), (3, vI x3), (4, vI x4)] [] s62 Q := by
          refine r_aload_n 0 dX8_layEarly_270 rfl rfl ?_
          refine r_getR (j := 17) dX8_layEarly_271 sh_56 rfl kc_8 (by decide) lf_X8_49 ?_
          refine r_iload 4 dX8_layEarly_274 rfl ?_
          refine r_iald dX8_layEarly_276 sh_70 b33.1 b33.2 ?_
          refine r_aload_n 0 dX8_layEarly_277 rfl rfl ?_
          refine r_getR (j := 11) dX8_layEarly_278 sh_56 rfl kc_8 (by decide) lf_X8_34 ?_
          refine r_aload_n 0 dX8_layEarly_281 rfl rfl ?_
          refine r_getR (j := 16) dX8_layEarly_282 sh_56 rfl kc_8 (by decide) lf_X8_46 ?_
          refine r_iload 4 dX8_layEarly_285 rfl ?_
          refine r_iald dX8_layEarly_287 sh_69 b33.1 b33.2 ?_
          obtain ⟨b68, h⟩ := h
          refine r_iald dX8_layEarly_288 sh_65 b68.1 b68.2 ?_
          refine r_icmp_le (tgt := 294) dX8_layEarly_289 (by decide) (fun (c69 : (s62 70 x4.toNat) ≤ (s62 65 (s62 69 x4.toNat).toNat)) => ?_) (fun (c69 : ¬ ((s62 70 x4.toNat) ≤ (s62 65 (s62 69 x4.toNat).toNat))) => ?_)
          · replace h := h.1 c69
            obtain ⟨b70, h⟩ := h
            refine r_iinc 4 dX8_layEarly_294 rfl (by decide) b70 rfl ?_
            refine r_goto (tgt := 119) dX8_layEarly_297 (by decide) ?_
            refine MWF.sub [1, 2, 3, 4, 0] rfl ?_
            exact h
          · replace h := h.2 c69
            refine r_iconst dX8_layEarly_292 (by decide) ?_
            exact r_zret dX8_layEarly_293 rfl (by decide) ⟨_, rfl, h⟩
        refine r_icmp_le (tgt := 270) dX8_layEarly_256 (by decide) (fun (c60 : (σ 70 0) ≤ (σ 70 x4.toNat)) => ?_) (fun (c60 : ¬ ((σ 70 0) ≤ (σ 70 x4.toNat))) => ?_)
        · refine MWF.sub [1, 2, 3, 4, 5] rfl ?_
          have q64 : y61 = x2 := by rw [ey61, if_pos c60]
          rw [q64] at hj63
          have q65 : s62 = σ := by rw [es62, if_pos c60]
          rw [q65] at hj63
          exact hj63
        · refine r_aload_n 1 dX8_layEarly_259 rfl rfl ?_
          refine r_getR (j := 17) dX8_layEarly_260 sh_56 rfl kc_8 (by decide) lf_X8_49 ?_
          refine r_iload 5 dX8_layEarly_263 rfl ?_
          refine r_iload 0 dX8_layEarly_265 rfl ?_
          refine r_iast dX8_layEarly_267 sh_70 b33.1 b33.2 ?_
          refine r_iconst dX8_layEarly_268 (by decide) ?_
          refine r_istore_n dX8_layEarly_269 rfl (by decide) rfl ?_
          refine MWF.sub [2, 3, 0, 4, 5] rfl ?_
          have q66 : y61 = 1 := by rw [ey61, if_neg c60]
          rw [q66] at hj63
          have q67 : s62 = (stS σ 70 x4.toNat (σ 70 0)) := by rw [es62, if_neg c60]
          rw [q67] at hj63
          exact hj63
    · replace h := h.2 c32
      refine r_aload_n 0 dX8_layEarly_142 rfl rfl ?_
      refine r_getR (j := 17) dX8_layEarly_143 sh_56 rfl kc_8 (by decide) lf_X8_49 ?_
      refine r_iload 4 dX8_layEarly_146 rfl ?_
      refine r_iconst dX8_layEarly_148 (by decide) ?_
      obtain ⟨b71, h⟩ := h
      refine r_isub dX8_layEarly_149 b71 ?_
      obtain ⟨b72, h⟩ := h
      refine r_iald dX8_layEarly_150 sh_70 b72.1 b72.2 ?_
      refine r_aload_n 0 dX8_layEarly_151 rfl rfl ?_
      refine r_getI (j := 0) dX8_layEarly_152 sh_56 rfl kc_8 (by decide) lf_X8_61 ?_
      obtain ⟨b73, h⟩ := h
      refine r_iadd dX8_layEarly_155 b73 ?_
      refine r_aload_n 0 dX8_layEarly_156 rfl rfl ?_
      refine r_aload_n 0 dX8_layEarly_157 rfl rfl ?_
      refine r_getR (j := 16) dX8_layEarly_158 sh_56 rfl kc_8 (by decide) lf_X8_46 ?_
      refine r_iload 4 dX8_layEarly_161 rfl ?_
      refine r_iconst dX8_layEarly_163 (by decide) ?_
      refine r_isub dX8_layEarly_164 b71 ?_
      refine r_iald dX8_layEarly_165 sh_69 b72.1 b72.2 ?_
      refine r_aload_n 0 dX8_layEarly_166 rfl rfl ?_
      refine r_getR (j := 16) dX8_layEarly_167 sh_56 rfl kc_8 (by decide) lf_X8_46 ?_
      refine r_iload 4 dX8_layEarly_170 rfl ?_
      obtain ⟨b74, h⟩ := h
      refine r_iald dX8_layEarly_172 sh_69 b74.1 b74.2 ?_
      refine r_callV [vI (σ 69 (x4 - 1).toNat), vI (σ 69 x4.toNat)] [vI ((σ 70 (x4 - 1).toNat) + (σ 56 0))] dX8_layEarly_173 okX8_between ivX8_between seX8_between lm_X8_93 rfl rfl sh_56 rfl ⟨Nat.le_of_ble_eq_true rfl, Nat.le_of_ble_eq_true rfl, Nat.le_of_ble_eq_true rfl, Nat.le_of_ble_eq_true rfl⟩ h ?_
      rintro _ s76 ⟨r75, rfl, h⟩
      obtain ⟨b77, h⟩ := h
      refine r_iadd dX8_layEarly_176 b77 ?_
      refine r_istore dX8_layEarly_177 (by decide) rfl ?_
      refine r_aload_n 1 dX8_layEarly_179 rfl rfl ?_
      refine r_getR (j := 16) dX8_layEarly_180 sh_56 rfl kc_8 (by decide) lf_X8_46 ?_
      refine r_iload 5 dX8_layEarly_183 rfl ?_
      refine r_iald dX8_layEarly_185 sh_69 b74.1 b74.2 ?_
      refine r_iconst dX8_layEarly_186 (by decide) ?_
      obtain ⟨b78, h⟩ := h
      refine r_irem dX8_layEarly_187 b78 (by decide) ?_
      refine r_if_ne (tgt := 247) dX8_layEarly_188 (by decide) (fun (c79 : ((s76 69 x4.toNat) % 2) = 0) => ?_) (fun (c79 : ¬ (((s76 69 x4.toNat) % 2) = 0)) => ?_)
      · replace h := h.1 c79
        refine r_aload_n 1 dX8_layEarly_191 rfl rfl ?_
        refine r_getR (j := 17) dX8_layEarly_192 sh_56 rfl kc_8 (by decide) lf_X8_49 ?_
        refine r_aload_n 1 dX8_layEarly_195 rfl rfl ?_
        refine r_aload_n 1 dX8_layEarly_196 rfl rfl ?_
        refine r_getR (j := 16) dX8_layEarly_197 sh_56 rfl kc_8 (by decide) lf_X8_46 ?_
        refine r_iload 5 dX8_layEarly_200 rfl ?_
        refine r_iald dX8_layEarly_202 sh_69 b74.1 b74.2 ?_
        refine r_iconst dX8_layEarly_203 (by decide) ?_
        obtain ⟨b80, h⟩ := h
        refine r_iadd dX8_layEarly_204 b80 ?_
        refine r_callV [vI ((s76 69 x4.toNat) + 1)] [vR 70] dX8_layEarly_205 okX8_placeOf ivX8_placeOf seX8_placeOf lm_X8_96 rfl rfl sh_56 rfl ⟨Nat.le_of_ble_eq_true rfl, Nat.le_of_ble_eq_true rfl, Nat.le_of_ble_eq_true rfl, Nat.le_of_ble_eq_true rfl⟩ h ?_
        rintro _ s82 ⟨r81, rfl, h⟩
        obtain ⟨b83, h⟩ := h
        refine r_iald dX8_layEarly_208 sh_70 b83.1 b83.2 ?_
        refine r_aload_n 1 dX8_layEarly_209 rfl rfl ?_
        refine r_getR (j := 13) dX8_layEarly_210 sh_56 rfl kc_8 (by decide) lf_X8_40 ?_
        refine r_aload_n 1 dX8_layEarly_213 rfl rfl ?_
        refine r_getR (j := 16) dX8_layEarly_214 sh_56 rfl kc_8 (by decide) lf_X8_46 ?_
        refine r_iload 5 dX8_layEarly_217 rfl ?_
        refine r_iald dX8_layEarly_219 sh_69 b74.1 b74.2 ?_
        refine r_iconst dX8_layEarly_220 (by decide) ?_
        obtain ⟨b84, h⟩ := h
        refine r_idiv dX8_layEarly_221 b84 (by decide) ?_
        obtain ⟨b85, h⟩ := h
        refine r_iald dX8_layEarly_222 sh_67 b85.1 b85.2 ?_
        obtain ⟨b86, h⟩ := h
        refine r_isub dX8_layEarly_223 b86 ?_
        refine r_aload_n 1 dX8_layEarly_224 rfl rfl ?_
        refine r_getI (j := 0) dX8_layEarly_225 sh_56 rfl kc_8 (by decide) lf_X8_61 ?_
        obtain ⟨b87, h⟩ := h
        refine r_isub dX8_layEarly_228 b87 ?_
        refine r_istore dX8_layEarly_229 (by decide) rfl ?_
        refine r_iload 0 dX8_layEarly_231 rfl ?_
        refine r_iload 1 dX8_layEarly_233 rfl ?_
        obtain ⟨y89, ey89⟩ : ∃ z : Int, z = (if (((s82 70 r81.toNat) - (s82 67 ((s82 69 x4.toNat) / 2).toNat)) - (s82 56 0)) ≤ (((σ 70 (x4 - 1).toNat) + (σ 56 0)) + r75) then (((σ 70 (x4 - 1).toNat) + (σ 56 0)) + r75) else (((s82 70 r81.toNat) - (s82 67 ((s82 69 x4.toNat) / 2).toNat)) - (s82 56 0))) := ⟨_, rfl⟩
        replace h := h y89 ey89
        have hj90 : MWi l G mX8_layEarly 245 [(0, vR 56), (1, vI x1), (2, vI x2), (3, vI x3), (4, vI x4)] [vI y89] s82 Q := by
          refine r_istore dX8_layEarly_245 (by decide) rfl ?_
          refine r_iload 0 dX8_layEarly_247 rfl ?_
          refine r_aload_n 1 dX8_layEarly_249 rfl rfl ?_
          refine r_getR (j := 17) dX8_layEarly_250 sh_56 rfl kc_8 (by decide) lf_X8_49 ?_
          refine r_iload 5 dX8_layEarly_253 rfl ?_
          refine r_iald dX8_layEarly_255 sh_70 b74.1 b74.2 ?_
          obtain ⟨y94, ey94⟩ : ∃ z : Int, z = (if y89 ≤ (s82 70 x4.toNat) then x2 else 1) := ⟨_, rfl⟩
          replace h := h y94 ey94
          obtain ⟨s95, es95⟩ : ∃ z : Sto, z = (if y89 ≤ (s82 70 x4.toNat) then s82 else (stS s82 70 x4.toNat y89)) := ⟨_, rfl⟩
          replace h := h s95 es95
          have hj96 : MWi l G mX8_layEarly 270 [(0, vR 56), (1, vI x1), (2, vI y94), (3, vI x3), (4, vI x4)] [] s95 Q := by
            refine r_aload_n 0 dX8_layEarly_270 rfl rfl ?_
            refine r_getR (j := 17) dX8_layEarly_271 sh_56 rfl kc_8 (by decide) lf_X8_49 ?_
            refine r_iload 4 dX8_layEarly_274 rfl ?_
            refine r_iald dX8_layEarly_276 sh_70 b74.1 b74.2 ?_
            refine r_aload_n 0 dX8_layEarly_277 rfl rfl ?_
            refine r_getR (j := 11) dX8_layEarly_278 sh_56 rfl kc_8 (by decide) lf_X8_34 ?_
            refine r_aload_n 0 dX8_layEarly_281 rfl rfl ?_
            refine r_getR (j := 16) dX8_layEarly_282 sh_56 rfl kc_8 (by decide) lf_X8_46 ?_
            refine r_iload 4 dX8_layEarly_285 rfl ?_
            refine r_iald dX8_layEarly_287 sh_69 b74.1 b74.2 ?_
            obtain ⟨b101, h⟩ := h
            refine r_iald dX8_layEarly_288 sh_65 b101.1 b101.2 ?_
            refine r_icmp_le (tgt := 294) dX8_layEarly_289 (by decide) (fun (c102 : (s95 70 x4.toNat) ≤ (s95 65 (s95 69 x4.toNat).toNat)) => ?_) (fun (c102 : ¬ ((s95 70 x4.toNat) ≤ (s95 65 (s95 69 x4.toNat).toNat))) => ?_)
            · replace h := h.1 c102
              obtain ⟨b103, h⟩ := h
              refine r_iinc 4 dX8_layEarly_294 rfl (by decide) b103 rfl ?_
              refine r_goto (tgt := 119) dX8_layEarly_297 (by decide) ?_
              refine MWF.sub [1, 2, 3, 4, 0] rfl ?_
              exact h
            · replace h := h.2 c102
              refine r_iconst dX8_layEarly_292 (by decide) ?_
              exact r_zret dX8_layEarly_293 rfl (by decide) ⟨_, rfl, h⟩
          refine r_icmp_le (tgt := 270) dX8_layEarly_256 (by decide) (fun (c93 : y89 ≤ (s82 70 x4.toNat)) => ?_) (fun (c93 : ¬ (y89 ≤ (s82 70 x4.toNat))) => ?_)
          · refine MWF.sub [1, 2, 3, 4, 5] rfl ?_
            have q97 : y94 = x2 := by rw [ey94, if_pos c93]
            rw [q97] at hj96
            have q98 : s95 = s82 := by rw [es95, if_pos c93]
            rw [q98] at hj96
            exact hj96
          · refine r_aload_n 1 dX8_layEarly_259 rfl rfl ?_
            refine r_getR (j := 17) dX8_layEarly_260 sh_56 rfl kc_8 (by decide) lf_X8_49 ?_
            refine r_iload 5 dX8_layEarly_263 rfl ?_
            refine r_iload 0 dX8_layEarly_265 rfl ?_
            refine r_iast dX8_layEarly_267 sh_70 b74.1 b74.2 ?_
            refine r_iconst dX8_layEarly_268 (by decide) ?_
            refine r_istore_n dX8_layEarly_269 rfl (by decide) rfl ?_
            refine MWF.sub [2, 3, 0, 4, 5] rfl ?_
            have q99 : y94 = 1 := by rw [ey94, if_neg c93]
            rw [q99] at hj96
            have q100 : s95 = (stS s82 70 x4.toNat y89) := by rw [es95, if_neg c93]
            rw [q100] at hj96
            exact hj96
        refine r_icmp_le (tgt := 243) dX8_layEarly_235 (by decide) (fun (c88 : (((s82 70 r81.toNat) - (s82 67 ((s82 69 x4.toNat) / 2).toNat)) - (s82 56 0)) ≤ (((σ 70 (x4 - 1).toNat) + (σ 56 0)) + r75)) => ?_) (fun (c88 : ¬ ((((s82 70 r81.toNat) - (s82 67 ((s82 69 x4.toNat) / 2).toNat)) - (s82 56 0)) ≤ (((σ 70 (x4 - 1).toNat) + (σ 56 0)) + r75))) => ?_)
        · refine r_iload 1 dX8_layEarly_243 rfl ?_
          refine MWF.sub [2, 3, 4, 5, 6] rfl ?_
          have q91 : y89 = (((σ 70 (x4 - 1).toNat) + (σ 56 0)) + r75) := by rw [ey89, if_pos c88]
          rw [q91] at hj90
          exact hj90
        · refine r_iload 0 dX8_layEarly_238 rfl ?_
          refine r_goto (tgt := 245) dX8_layEarly_240 (by decide) ?_
          refine MWF.sub [2, 3, 4, 5, 6] rfl ?_
          have q92 : y89 = (((s82 70 r81.toNat) - (s82 67 ((s82 69 x4.toNat) / 2).toNat)) - (s82 56 0)) := by rw [ey89, if_neg c88]
          rw [q92] at hj90
          exact hj90
      · replace h := h.2 c79
        refine r_iload 0 dX8_layEarly_247 rfl ?_
        refine r_aload_n 1 dX8_layEarly_249 rfl rfl ?_
        refine r_getR (j := 17) dX8_layEarly_250 sh_56 rfl kc_8 (by decide) lf_X8_49 ?_
        refine r_iload 5 dX8_layEarly_253 rfl ?_
        refine r_iald dX8_layEarly_255 sh_70 b74.1 b74.2 ?_
        obtain ⟨y105, ey105⟩ : ∃ z : Int, z = (if (((σ 70 (x4 - 1).toNat) + (σ 56 0)) + r75) ≤ (s76 70 x4.toNat) then x2 else 1) := ⟨_, rfl⟩
        replace h := h y105 ey105
        obtain ⟨s106, es106⟩ : ∃ z : Sto, z = (if (((σ 70 (x4 - 1).toNat) + (σ 56 0)) + r75) ≤ (s76 70 x4.toNat) then s76 else (stS s76 70 x4.toNat (((σ 70 (x4 - 1).toNat) + (σ 56 0)) + r75))) := ⟨_, rfl⟩
        replace h := h s106 es106
        have hj107 : MWi l G mX8_layEarly 270 [(0, vR 56), (1, vI x1), (2, vI y105), (3, vI x3), (4, vI x4)] [] s106 Q := by
          refine r_aload_n 0 dX8_layEarly_270 rfl rfl ?_
          refine r_getR (j := 17) dX8_layEarly_271 sh_56 rfl kc_8 (by decide) lf_X8_49 ?_
          refine r_iload 4 dX8_layEarly_274 rfl ?_
          refine r_iald dX8_layEarly_276 sh_70 b74.1 b74.2 ?_
          refine r_aload_n 0 dX8_layEarly_277 rfl rfl ?_
          refine r_getR (j := 11) dX8_layEarly_278 sh_56 rfl kc_8 (by decide) lf_X8_34 ?_
          refine r_aload_n 0 dX8_layEarly_281 rfl rfl ?_
          refine r_getR (j := 16) dX8_layEarly_282 sh_56 rfl kc_8 (by decide) lf_X8_46 ?_
          refine r_iload 4 dX8_layEarly_285 rfl ?_
          refine r_iald dX8_layEarly_287 sh_69 b74.1 b74.2 ?_
          obtain ⟨b112, h⟩ := h
          refine r_iald dX8_layEarly_288 sh_65 b112.1 b112.2 ?_
          refine r_icmp_le (tgt := 294) dX8_layEarly_289 (by decide) (fun (c113 : (s106 70 x4.toNat) ≤ (s106 65 (s106 69 x4.toNat).toNat)) => ?_) (fun (c113 : ¬ ((s106 70 x4.toNat) ≤ (s106 65 (s106 69 x4.toNat).toNat))) => ?_)
          · replace h := h.1 c113
            obtain ⟨b114, h⟩ := h
            refine r_iinc 4 dX8_layEarly_294 rfl (by decide) b114 rfl ?_
            refine r_goto (tgt := 119) dX8_layEarly_297 (by decide) ?_
            refine MWF.sub [1, 2, 3, 4, 0] rfl ?_
            exact h
          · replace h := h.2 c113
            refine r_iconst dX8_layEarly_292 (by decide) ?_
            exact r_zret dX8_layEarly_293 rfl (by decide) ⟨_, rfl, h⟩
        refine r_icmp_le (tgt := 270) dX8_layEarly_256 (by decide) (fun (c104 : (((σ 70 (x4 - 1).toNat) + (σ 56 0)) + r75) ≤ (s76 70 x4.toNat)) => ?_) (fun (c104 : ¬ ((((σ 70 (x4 - 1).toNat) + (σ 56 0)) + r75) ≤ (s76 70 x4.toNat))) => ?_)
        · refine MWF.sub [1, 2, 3, 4, 5] rfl ?_
          have q108 : y105 = x2 := by rw [ey105, if_pos c104]
          rw [q108] at hj107
          have q109 : s106 = s76 := by rw [es106, if_pos c104]
          rw [q109] at hj107
          exact hj107
        · refine r_aload_n 1 dX8_layEarly_259 rfl rfl ?_
          refine r_getR (j := 17) dX8_layEarly_260 sh_56 rfl kc_8 (by decide) lf_X8_49 ?_
          refine r_iload 5 dX8_layEarly_263 rfl ?_
          refine r_iload 0 dX8_layEarly_265 rfl ?_
          refine r_iast dX8_layEarly_267 sh_70 b74.1 b74.2 ?_
          refine r_iconst dX8_layEarly_268 (by decide) ?_
          refine r_istore_n dX8_layEarly_269 rfl (by decide) rfl ?_
          refine MWF.sub [2, 3, 0, 4, 5] rfl ?_
          have q110 : y105 = 1 := by rw [ey105, if_neg c104]
          rw [q110] at hj107
          have q111 : s106 = (stS s76 70 x4.toNat (((σ 70 (x4 - 1).toNat) + (σ 56 0)) + r75)) := by rw [es106, if_neg c104]
          rw [q111] at hj107
          exact hj107
set_option maxRecDepth 100000 in
set_option maxHeartbeats 4000000 in
theorem clX8_layLate (l : Launch) (G : GT) (σ : Sto) (Q : Sto → Prop) (x1 : Int)
    (h : MWv l G mX8_layLate 2 [(0, vR 56), (1, vI x1), (2, vI 0)] [] σ Q) :
    CLv l G mX8_layLate [vR 56, vI x1] σ Q := by
  show MWv l G mX8_layLate 0 [(0, vR 56), (1, vI x1)] [] σ Q
  refine r_iconst dX8_layLate_0 (by decide) ?_
  refine r_istore_n dX8_layLate_1 rfl (by decide) rfl ?_
  refine MWF.sub [1, 2, 0] rfl ?_
  exact h
set_option maxRecDepth 100000 in
set_option maxHeartbeats 4000000 in
theorem vcX8_layLate_2 (l : Launch) (G : GT) (σ : Sto) (Q : Sto → Prop) (x1 : Int) (x2 : Int)
    (h : ((σ 56 15) ≤ x2 → ((σ 56 15) = 0 → ((¬ ((σ 56 15) ≤ 0) → (-2147483648 ≤ (σ 56 15) - 1 ∧ (σ 56 15) - 1 ≤ 2147483647) ∧ (0 ≤ ((σ 56 15) - 1) ∧ ((σ 56 15) - 1) < 26) ∧ True)) ∧ ∀ s8 : Sto, s8 = (if (σ 56 15) ≤ 0 then σ else (if (σ 71 ((σ 56 15) - 1).toNat) ≤ 0 then σ else (stS σ 71 ((σ 56 15) - 1).toNat 0))) → MWv l G mX8_layLate 109 [(0, vR 56), (3, vI 1)] [] s8 Q) ∧ (¬ ((σ 56 15) = 0) → (0 ≤ x1 ∧ x1 < 4) ∧ (-2147483648 ≤ (σ 61 x1.toNat) - (σ 56 0) ∧ (σ 61 x1.toNat) - (σ 56 0) ≤ 2147483647) ∧ (-2147483648 ≤ (σ 56 15) - 1 ∧ (σ 56 15) - 1 ≤ 2147483647) ∧ (0 ≤ ((σ 56 15) - 1) ∧ ((σ 56 15) - 1) < 26) ∧ CLi l G mX8_fromDepot [vR 56, vI x1, vI (σ 69 ((σ 56 15) - 1).toNat)] σ (fun r17 s18 => (-2147483648 ≤ ((σ 61 x1.toNat) - (σ 56 0)) - r17 ∧ ((σ 61 x1.toNat) - (σ 56 0)) - r17 ≤ 2147483647) ∧ ((¬ ((s18 56 15) ≤ 0) → (-2147483648 ≤ (s18 56 15) - 1 ∧ (s18 56 15) - 1 ≤ 2147483647) ∧ (0 ≤ ((s18 56 15) - 1) ∧ ((s18 56 15) - 1) < 26) ∧ True)) ∧ ∀ s25 : Sto, s25 = (if (s18 56 15) ≤ 0 then s18 else (if (s18 71 ((s18 56 15) - 1).toNat) ≤ (((σ 61 x1.toNat) - (σ 56 0)) - r17) then s18 else (stS s18 71 ((s18 56 15) - 1).toNat (((σ 61 x1.toNat) - (σ 56 0)) - r17)))) → MWv l G mX8_layLate 109 [(0, vR 56), (3, vI 1)] [] s25 Q))) ∧ (¬ ((σ 56 15) ≤ x2) → (0 ≤ x2 ∧ x2 < 26) ∧ (0 ≤ (σ 69 x2.toNat) ∧ (σ 69 x2.toNat) < 24) ∧ (-2147483648 ≤ x2 + 1 ∧ x2 + 1 ≤ 2147483647) ∧ MWv l G mX8_layLate 2 [(0, vR 56), (1, vI x1), (2, vI (x2 + 1))] [] (stS σ 71 x2.toNat (σ 65 (σ 69 x2.toNat).toNat)) Q)) :
    MWv l G mX8_layLate 2 [(0, vR 56), (1, vI x1), (2, vI x2)] [] σ Q := by
  refine r_iload_n 2 dX8_layLate_2 rfl rfl ?_
  refine r_aload_n 0 dX8_layLate_3 rfl rfl ?_
  refine r_getI (j := 15) dX8_layLate_4 sh_56 rfl kc_8 (by decide) lf_X8_82 ?_
  refine r_icmp_ge (tgt := 33) dX8_layLate_7 (by decide) (fun (c1 : (σ 56 15) ≤ x2) => ?_) (fun (c1 : ¬ ((σ 56 15) ≤ x2)) => ?_)
  · replace h := h.1 c1
    refine r_aload_n 0 dX8_layLate_33 rfl rfl ?_
    refine r_getI (j := 15) dX8_layLate_34 sh_56 rfl kc_8 (by decide) lf_X8_82 ?_
    refine r_if_ne (tgt := 44) dX8_layLate_37 (by decide) (fun (c2 : (σ 56 15) = 0) => ?_) (fun (c2 : ¬ ((σ 56 15) = 0)) => ?_)
    · replace h := h.1 c2
      refine r_iconst dX8_layLate_40 (by decide) ?_
      refine r_goto (tgt := 72) dX8_layLate_41 (by decide) ?_
      refine r_istore_n dX8_layLate_72 rfl (by decide) rfl ?_
      refine r_aload_n 1 dX8_layLate_73 rfl rfl ?_
      refine r_getI (j := 15) dX8_layLate_74 sh_56 rfl kc_8 (by decide) lf_X8_82 ?_
      obtain ⟨q7, h⟩ := h
      obtain ⟨s8, es8⟩ : ∃ z : Sto, z = (if (σ 56 15) ≤ 0 then σ else (if (σ 71 ((σ 56 15) - 1).toNat) ≤ 0 then σ else (stS σ 71 ((σ 56 15) - 1).toNat 0))) := ⟨_, rfl⟩
      replace h := h s8 es8
      have hj9 : MWv l G mX8_layLate 107 [(0, vR 56)] [] s8 Q := by
        refine r_iconst dX8_layLate_107 (by decide) ?_
        refine r_istore_n dX8_layLate_108 rfl (by decide) rfl ?_
        refine MWF.sub [1, 0] rfl ?_
        exact h
      replace h := q7
      refine r_if_le (tgt := 107) dX8_layLate_77 (by decide) (fun (c3 : (σ 56 15) ≤ 0) => ?_) (fun (c3 : ¬ ((σ 56 15) ≤ 0)) => ?_)
      · refine MWF.sub [1] rfl ?_
        have q10 : s8 = σ := by rw [es8, if_pos c3]
        rw [q10] at hj9
        exact hj9
      · replace h := h c3
        refine r_aload_n 1 dX8_layLate_80 rfl rfl ?_
        refine r_getR (j := 18) dX8_layLate_81 sh_56 rfl kc_8 (by decide) lf_X8_52 ?_
        refine r_aload_n 1 dX8_layLate_84 rfl rfl ?_
        refine r_getI (j := 15) dX8_layLate_85 sh_56 rfl kc_8 (by decide) lf_X8_82 ?_
        refine r_iconst dX8_layLate_88 (by decide) ?_
        obtain ⟨b4, h⟩ := h
        refine r_isub dX8_layLate_89 b4 ?_
        obtain ⟨b5, h⟩ := h
        refine r_iald dX8_layLate_90 sh_71 b5.1 b5.2 ?_
        refine r_iload_n 0 dX8_layLate_91 rfl rfl ?_
        refine r_icmp_le (tgt := 107) dX8_layLate_92 (by decide) (fun (c6 : (σ 71 ((σ 56 15) - 1).toNat) ≤ 0) => ?_) (fun (c6 : ¬ ((σ 71 ((σ 56 15) - 1).toNat) ≤ 0)) => ?_)
        · refine MWF.sub [1] rfl ?_
          have q11 : s8 = σ := by rw [es8, if_neg c3, if_pos c6]
          rw [q11] at hj9
          exact hj9
        · refine r_aload_n 1 dX8_layLate_95 rfl rfl ?_
          refine r_getR (j := 18) dX8_layLate_96 sh_56 rfl kc_8 (by decide) lf_X8_52 ?_
          refine r_aload_n 1 dX8_layLate_99 rfl rfl ?_
          refine r_getI (j := 15) dX8_layLate_100 sh_56 rfl kc_8 (by decide) lf_X8_82 ?_
          refine r_iconst dX8_layLate_103 (by decide) ?_
          refine r_isub dX8_layLate_104 b4 ?_
          refine r_iload_n 0 dX8_layLate_105 rfl rfl ?_
          refine r_iast dX8_layLate_106 sh_71 b5.1 b5.2 ?_
          refine MWF.sub [1] rfl ?_
          have q12 : s8 = (stS σ 71 ((σ 56 15) - 1).toNat 0) := by rw [es8, if_neg c3, if_neg c6]
          rw [q12] at hj9
          exact hj9
    · replace h := h.2 c2
      refine r_aload_n 0 dX8_layLate_44 rfl rfl ?_
      refine r_getR (j := 6) dX8_layLate_45 sh_56 rfl kc_8 (by decide) lf_X8_22 ?_
      refine r_iload_n 1 dX8_layLate_48 rfl rfl ?_
      obtain ⟨b13, h⟩ := h
      refine r_iald dX8_layLate_49 sh_61 b13.1 b13.2 ?_
      refine r_aload_n 0 dX8_layLate_50 rfl rfl ?_
      refine r_getI (j := 0) dX8_layLate_51 sh_56 rfl kc_8 (by decide) lf_X8_61 ?_
      obtain ⟨b14, h⟩ := h
      refine r_isub dX8_layLate_54 b14 ?_
      refine r_aload_n 0 dX8_layLate_55 rfl rfl ?_
      refine r_iload_n 1 dX8_layLate_56 rfl rfl ?_
      refine r_aload_n 0 dX8_layLate_57 rfl rfl ?_
      refine r_getR (j := 16) dX8_layLate_58 sh_56 rfl kc_8 (by decide) lf_X8_46 ?_
      refine r_aload_n 0 dX8_layLate_61 rfl rfl ?_
      refine r_getI (j := 15) dX8_layLate_62 sh_56 rfl kc_8 (by decide) lf_X8_82 ?_
      refine r_iconst dX8_layLate_65 (by decide) ?_
      obtain ⟨b15, h⟩ := h
      refine r_isub dX8_layLate_66 b15 ?_
      obtain ⟨b16, h⟩ := h
      refine r_iald dX8_layLate_67 sh_69 b16.1 b16.2 ?_
      refine r_callV [vI x1, vI (σ 69 ((σ 56 15) - 1).toNat)] [vI ((σ 61 x1.toNat) - (σ 56 0))] dX8_layLate_68 okX8_fromDepot ivX8_fromDepot seX8_fromDepot lm_X8_89 rfl rfl sh_56 rfl ⟨Nat.le_of_ble_eq_true rfl, Nat.le_of_ble_eq_true rfl, Nat.le_of_ble_eq_true rfl, Nat.le_of_ble_eq_true rfl⟩ h ?_
      rintro _ s18 ⟨r17, rfl, h⟩
      obtain ⟨b19, h⟩ := h
      refine r_isub dX8_layLate_71 b19 ?_
      refine r_istore_n dX8_layLate_72 rfl (by decide) rfl ?_
      refine r_aload_n 1 dX8_layLate_73 rfl rfl ?_
      refine r_getI (j := 15) dX8_layLate_74 sh_56 rfl kc_8 (by decide) lf_X8_82 ?_
      obtain ⟨q24, h⟩ := h
      obtain ⟨s25, es25⟩ : ∃ z : Sto, z = (if (s18 56 15) ≤ 0 then s18 else (if (s18 71 ((s18 56 15) - 1).toNat) ≤ (((σ 61 x1.toNat) - (σ 56 0)) - r17) then s18 else (stS s18 71 ((s18 56 15) - 1).toNat (((σ 61 x1.toNat) - (σ 56 0)) - r17)))) := ⟨_, rfl⟩
      replace h := h s25 es25
      have hj26 : MWv l G mX8_layLate 107 [(0, vR 56)] [] s25 Q := by
        refine r_iconst dX8_layLate_107 (by decide) ?_
        refine r_istore_n dX8_layLate_108 rfl (by decide) rfl ?_
        refine MWF.sub [1, 0] rfl ?_
        exact h
      replace h := q24
      refine r_if_le (tgt := 107) dX8_layLate_77 (by decide) (fun (c20 : (s18 56 15) ≤ 0) => ?_) (fun (c20 : ¬ ((s18 56 15) ≤ 0)) => ?_)
      · refine MWF.sub [1] rfl ?_
        have q27 : s25 = s18 := by rw [es25, if_pos c20]
        rw [q27] at hj26
        exact hj26
      · replace h := h c20
        refine r_aload_n 1 dX8_layLate_80 rfl rfl ?_
        refine r_getR (j := 18) dX8_layLate_81 sh_56 rfl kc_8 (by decide) lf_X8_52 ?_
        refine r_aload_n 1 dX8_layLate_84 rfl rfl ?_
        refine r_getI (j := 15) dX8_layLate_85 sh_56 rfl kc_8 (by decide) lf_X8_82 ?_
        refine r_iconst dX8_layLate_88 (by decide) ?_
        obtain ⟨b21, h⟩ := h
        refine r_isub dX8_layLate_89 b21 ?_
        obtain ⟨b22, h⟩ := h
        refine r_iald dX8_layLate_90 sh_71 b22.1 b22.2 ?_
        refine r_iload_n 0 dX8_layLate_91 rfl rfl ?_
        refine r_icmp_le (tgt := 107) dX8_layLate_92 (by decide) (fun (c23 : (s18 71 ((s18 56 15) - 1).toNat) ≤ (((σ 61 x1.toNat) - (σ 56 0)) - r17)) => ?_) (fun (c23 : ¬ ((s18 71 ((s18 56 15) - 1).toNat) ≤ (((σ 61 x1.toNat) - (σ 56 0)) - r17))) => ?_)
        · refine MWF.sub [1] rfl ?_
          have q28 : s25 = s18 := by rw [es25, if_neg c20, if_pos c23]
          rw [q28] at hj26
          exact hj26
        · refine r_aload_n 1 dX8_layLate_95 rfl rfl ?_
          refine r_getR (j := 18) dX8_layLate_96 sh_56 rfl kc_8 (by decide) lf_X8_52 ?_
          refine r_aload_n 1 dX8_layLate_99 rfl rfl ?_
          refine r_getI (j := 15) dX8_layLate_100 sh_56 rfl kc_8 (by decide) lf_X8_82 ?_
          refine r_iconst dX8_layLate_103 (by decide) ?_
          refine r_isub dX8_layLate_104 b21 ?_
          refine r_iload_n 0 dX8_layLate_105 rfl rfl ?_
          refine r_iast dX8_layLate_106 sh_71 b22.1 b22.2 ?_
          refine MWF.sub [1] rfl ?_
          have q29 : s25 = (stS s18 71 ((s18 56 15) - 1).toNat (((σ 61 x1.toNat) - (σ 56 0)) - r17)) := by rw [es25, if_neg c20, if_neg c23]
          rw [q29] at hj26
          exact hj26
  · replace h := h.2 c1
    refine r_aload_n 0 dX8_layLate_10 rfl rfl ?_
    refine r_getR (j := 18) dX8_layLate_11 sh_56 rfl kc_8 (by decide) lf_X8_52 ?_
    refine r_iload_n 2 dX8_layLate_14 rfl rfl ?_
    refine r_aload_n 0 dX8_layLate_15 rfl rfl ?_
    refine r_getR (j := 11) dX8_layLate_16 sh_56 rfl kc_8 (by decide) lf_X8_34 ?_
    refine r_aload_n 0 dX8_layLate_19 rfl rfl ?_
    refine r_getR (j := 16) dX8_layLate_20 sh_56 rfl kc_8 (by decide) lf_X8_46 ?_
    refine r_iload_n 2 dX8_layLate_23 rfl rfl ?_
    obtain ⟨b30, h⟩ := h
    refine r_iald dX8_layLate_24 sh_69 b30.1 b30.2 ?_
    obtain ⟨b31, h⟩ := h
    refine r_iald dX8_layLate_25 sh_65 b31.1 b31.2 ?_
    refine r_iast dX8_layLate_26 sh_71 b30.1 b30.2 ?_
    obtain ⟨b32, h⟩ := h
    refine r_iinc 2 dX8_layLate_27 rfl (by decide) b32 rfl ?_
    refine r_goto (tgt := 2) dX8_layLate_30 (by decide) ?_
    refine MWF.sub [1, 2, 0] rfl ?_
    exact h
set_option maxRecDepth 100000 in
set_option maxHeartbeats 4000000 in
theorem vcX8_layLate_109 (l : Launch) (G : GT) (σ : Sto) (Q : Sto → Prop) (x3 : Int)
    (h : (x3 = 0 → Q σ) ∧ (¬ (x3 = 0) → (-2147483648 ≤ (σ 56 15) - 1 ∧ (σ 56 15) - 1 ≤ 2147483647) ∧ MWv l G mX8_layLate 123 [(0, vR 56), (3, vI 0), (4, vI ((σ 56 15) - 1))] [] σ Q)) :
    MWv l G mX8_layLate 109 [(0, vR 56), (3, vI x3)] [] σ Q := by
  refine r_iload_n 1 dX8_layLate_109 rfl rfl ?_
  refine r_if_eq (tgt := 287) dX8_layLate_110 (by decide) (fun (c33 : x3 = 0) => ?_) (fun (c33 : ¬ (x3 = 0)) => ?_)
  · replace h := h.1 c33
    exact r_vret dX8_layLate_287 rfl ⟨rfl, h⟩
  · replace h := h.2 c33
    refine r_iconst dX8_layLate_113 (by decide) ?_
    refine r_istore_n dX8_layLate_114 rfl (by decide) rfl ?_
    refine r_aload_n 1 dX8_layLate_115 rfl rfl ?_
    refine r_getI (j := 15) dX8_layLate_116 sh_56 rfl kc_8 (by decide) lf_X8_82 ?_
    refine r_iconst dX8_layLate_119 (by decide) ?_
    obtain ⟨b34, h⟩ := h
    refine r_isub dX8_layLate_120 b34 ?_
    refine r_istore dX8_layLate_121 (by decide) rfl ?_
    refine MWF.sub [2, 1, 0] rfl ?_
    exact h
set_option maxRecDepth 100000 in
set_option maxHeartbeats 4000000 in
theorem vcX8_layLate_123 (l : Launch) (G : GT) (σ : Sto) (Q : Sto → Prop) (x3 : Int) (x4 : Int)
    (h : (x4 < 0 → MWv l G mX8_layLate 109 [(0, vR 56), (3, vI x3)] [] σ Q) ∧ (¬ (x4 < 0) → (-2147483648 ≤ (σ 56 15) - 1 ∧ (σ 56 15) - 1 ≤ 2147483647) ∧ (x4 = ((σ 56 15) - 1) → (0 ≤ x4 ∧ x4 < 26) ∧ (0 ≤ (σ 69 x4.toNat)) ∧ (((σ 69 x4.toNat) % 2) = 1 → (-2147483648 ≤ (σ 69 x4.toNat) - 1 ∧ (σ 69 x4.toNat) - 1 ≤ 2147483647) ∧ CLi l G mX8_placeOf [vR 56, vI ((σ 69 x4.toNat) - 1)] σ (fun r42 s43 => (0 ≤ r42 ∧ r42 < 26) ∧ (-2147483648 ≤ (s43 71 r42.toNat) + (s43 56 0) ∧ (s43 71 r42.toNat) + (s43 56 0) ≤ 2147483647) ∧ (0 ≤ (s43 69 x4.toNat)) ∧ (0 ≤ ((s43 69 x4.toNat) / 2) ∧ ((s43 69 x4.toNat) / 2) < 12) ∧ (-2147483648 ≤ ((s43 71 r42.toNat) + (s43 56 0)) + (s43 67 ((s43 69 x4.toNat) / 2).toNat) ∧ ((s43 71 r42.toNat) + (s43 56 0)) + (s43 67 ((s43 69 x4.toNat) / 2).toNat) ≤ 2147483647) ∧ ∀ y50 : Int, y50 = (if (σ 71 x4.toNat) ≤ (((s43 71 r42.toNat) + (s43 56 0)) + (s43 67 ((s43 69 x4.toNat) / 2).toNat)) then (σ 71 x4.toNat) else (((s43 71 r42.toNat) + (s43 56 0)) + (s43 67 ((s43 69 x4.toNat) / 2).toNat))) → ∀ y55 : Int, y55 = (if (s43 71 x4.toNat) ≤ y50 then x3 else 1) → ∀ s56 : Sto, s56 = (if (s43 71 x4.toNat) ≤ y50 then s43 else (stS s43 71 x4.toNat y50)) → (-2147483648 ≤ x4 + (-1) ∧ x4 + (-1) ≤ 2147483647) ∧ MWv l G mX8_layLate 123 [(0, vR 56), (3, vI y55), (4, vI (x4 + (-1)))] [] s56 Q)) ∧ (¬ (((σ 69 x4.toNat) % 2) = 1) → ∀ y64 : Int, y64 = (if (σ 71 x4.toNat) ≤ (σ 71 x4.toNat) then x3 else 1) → ∀ s65 : Sto, s65 = (if (σ 71 x4.toNat) ≤ (σ 71 x4.toNat) then σ else (stS σ 71 x4.toNat (σ 71 x4.toNat))) → (-2147483648 ≤ x4 + (-1) ∧ x4 + (-1) ≤ 2147483647) ∧ MWv l G mX8_layLate 123 [(0, vR 56), (3, vI y64), (4, vI (x4 + (-1)))] [] s65 Q)) ∧ (¬ (x4 = ((σ 56 15) - 1)) → (-2147483648 ≤ x4 + 1 ∧ x4 + 1 ≤ 2147483647) ∧ (0 ≤ (x4 + 1) ∧ (x4 + 1) < 26) ∧ (-2147483648 ≤ (σ 71 (x4 + 1).toNat) - (σ 56 0) ∧ (σ 71 (x4 + 1).toNat) - (σ 56 0) ≤ 2147483647) ∧ (0 ≤ x4 ∧ x4 < 26) ∧ CLi l G mX8_between [vR 56, vI (σ 69 x4.toNat), vI (σ 69 (x4 + 1).toNat)] σ (fun r76 s77 => (-2147483648 ≤ ((σ 71 (x4 + 1).toNat) - (σ 56 0)) - r76 ∧ ((σ 71 (x4 + 1).toNat) - (σ 56 0)) - r76 ≤ 2147483647) ∧ (0 ≤ (s77 69 x4.toNat)) ∧ (((s77 69 x4.toNat) % 2) = 1 → (-2147483648 ≤ (s77 69 x4.toNat) - 1 ∧ (s77 69 x4.toNat) - 1 ≤ 2147483647) ∧ CLi l G mX8_placeOf [vR 56, vI ((s77 69 x4.toNat) - 1)] s77 (fun r82 s83 => (0 ≤ r82 ∧ r82 < 26) ∧ (-2147483648 ≤ (s83 71 r82.toNat) + (s83 56 0) ∧ (s83 71 r82.toNat) + (s83 56 0) ≤ 2147483647) ∧ (0 ≤ (s83 69 x4.toNat)) ∧ (0 ≤ ((s83 69 x4.toNat) / 2) ∧ ((s83 69 x4.toNat) / 2) < 12) ∧ (-2147483648 ≤ ((s83 71 r82.toNat) + (s83 56 0)) + (s83 67 ((s83 69 x4.toNat) / 2).toNat) ∧ ((s83 71 r82.toNat) + (s83 56 0)) + (s83 67 ((s83 69 x4.toNat) / 2).toNat) ≤ 2147483647) ∧ ∀ y90 : Int, y90 = (if (((σ 71 (x4 + 1).toNat) - (σ 56 0)) - r76) ≤ (((s83 71 r82.toNat) + (s83 56 0)) + (s83 67 ((s83 69 x4.toNat) / 2).toNat)) then (((σ 71 (x4 + 1).toNat) - (σ 56 0)) - r76) else (((s83 71 r82.toNat) + (s83 56 0)) + (s83 67 ((s83 69 x4.toNat) / 2).toNat))) → ∀ y95 : Int, y95 = (if (s83 71 x4.toNat) ≤ y90 then x3 else 1) → ∀ s96 : Sto, s96 = (if (s83 71 x4.toNat) ≤ y90 then s83 else (stS s83 71 x4.toNat y90)) → (-2147483648 ≤ x4 + (-1) ∧ x4 + (-1) ≤ 2147483647) ∧ MWv l G mX8_layLate 123 [(0, vR 56), (3, vI y95), (4, vI (x4 + (-1)))] [] s96 Q)) ∧ (¬ (((s77 69 x4.toNat) % 2) = 1) → ∀ y104 : Int, y104 = (if (s77 71 x4.toNat) ≤ (((σ 71 (x4 + 1).toNat) - (σ 56 0)) - r76) then x3 else 1) → ∀ s105 : Sto, s105 = (if (s77 71 x4.toNat) ≤ (((σ 71 (x4 + 1).toNat) - (σ 56 0)) - r76) then s77 else (stS s77 71 x4.toNat (((σ 71 (x4 + 1).toNat) - (σ 56 0)) - r76))) → (-2147483648 ≤ x4 + (-1) ∧ x4 + (-1) ≤ 2147483647) ∧ MWv l G mX8_layLate 123 [(0, vR 56), (3, vI y104), (4, vI (x4 + (-1)))] [] s105 Q))))) :
    MWv l G mX8_layLate 123 [(0, vR 56), (3, vI x3), (4, vI x4)] [] σ Q := by
  refine r_iload 2 dX8_layLate_123 rfl ?_
  refine r_if_lt (tgt := 284) dX8_layLate_125 (by decide) (fun (c35 : x4 < 0) => ?_) (fun (c35 : ¬ (x4 < 0)) => ?_)
  · replace h := h.1 c35
    refine r_goto (tgt := 109) dX8_layLate_284 (by decide) ?_
    refine MWF.sub [0, 1] rfl ?_
    exact h
  · replace h := h.2 c35
    refine r_iload 2 dX8_layLate_128 rfl ?_
    refine r_aload_n 0 dX8_layLate_130 rfl rfl ?_
    refine r_getI (j := 15) dX8_layLate_131 sh_56 rfl kc_8 (by decide) lf_X8_82 ?_
    refine r_iconst dX8_layLate_134 (by decide) ?_
    obtain ⟨b36, h⟩ := h
    refine r_isub dX8_layLate_135 b36 ?_
    refine r_icmp_ne (tgt := 149) dX8_layLate_136 (by decide) (fun (c37 : x4 = ((σ 56 15) - 1)) => ?_) (fun (c37 : ¬ (x4 = ((σ 56 15) - 1))) => ?_)
    · replace h := h.1 c37
      refine r_aload_n 0 dX8_layLate_139 rfl rfl ?_
      refine r_getR (j := 18) dX8_layLate_140 sh_56 rfl kc_8 (by decide) lf_X8_52 ?_
      refine r_iload 2 dX8_layLate_143 rfl ?_
      obtain ⟨b38, h⟩ := h
      refine r_iald dX8_layLate_145 sh_71 b38.1 b38.2 ?_
      refine r_goto (tgt := 184) dX8_layLate_146 (by decide) ?_
      refine r_istore dX8_layLate_184 (by decide) rfl ?_
      refine r_aload_n 1 dX8_layLate_186 rfl rfl ?_
      refine r_getR (j := 16) dX8_layLate_187 sh_56 rfl kc_8 (by decide) lf_X8_46 ?_
      refine r_iload 3 dX8_layLate_190 rfl ?_
      refine r_iald dX8_layLate_192 sh_69 b38.1 b38.2 ?_
      refine r_iconst dX8_layLate_193 (by decide) ?_
      obtain ⟨b39, h⟩ := h
      refine r_irem dX8_layLate_194 b39 (by decide) ?_
      refine r_iconst dX8_layLate_195 (by decide) ?_
      refine r_icmp_ne (tgt := 255) dX8_layLate_196 (by decide) (fun (c40 : ((σ 69 x4.toNat) % 2) = 1) => ?_) (fun (c40 : ¬ (((σ 69 x4.toNat) % 2) = 1)) => ?_)
      · replace h := h.1 c40
        refine r_aload_n 1 dX8_layLate_199 rfl rfl ?_
        refine r_getR (j := 18) dX8_layLate_200 sh_56 rfl kc_8 (by decide) lf_X8_52 ?_
        refine r_aload_n 1 dX8_layLate_203 rfl rfl ?_
        refine r_aload_n 1 dX8_layLate_204 rfl rfl ?_
        refine r_getR (j := 16) dX8_layLate_205 sh_56 rfl kc_8 (by decide) lf_X8_46 ?_
        refine r_iload 3 dX8_layLate_208 rfl ?_
        refine r_iald dX8_layLate_210 sh_69 b38.1 b38.2 ?_
        refine r_iconst dX8_layLate_211 (by decide) ?_
        obtain ⟨b41, h⟩ := h
        refine r_isub dX8_layLate_212 b41 ?_
        refine r_callV [vI ((σ 69 x4.toNat) - 1)] [vR 71] dX8_layLate_213 okX8_placeOf ivX8_placeOf seX8_placeOf lm_X8_96 rfl rfl sh_56 rfl ⟨Nat.le_of_ble_eq_true rfl, Nat.le_of_ble_eq_true rfl, Nat.le_of_ble_eq_true rfl, Nat.le_of_ble_eq_true rfl⟩ h ?_
        rintro _ s43 ⟨r42, rfl, h⟩
        obtain ⟨b44, h⟩ := h
        refine r_iald dX8_layLate_216 sh_71 b44.1 b44.2 ?_
        refine r_aload_n 1 dX8_layLate_217 rfl rfl ?_
        refine r_getI (j := 0) dX8_layLate_218 sh_56 rfl kc_8 (by decide) lf_X8_61 ?_
        obtain ⟨b45, h⟩ := h
        refine r_iadd dX8_layLate_221 b45 ?_
        refine r_aload_n 1 dX8_layLate_222 rfl rfl ?_
        refine r_getR (j := 13) dX8_layLate_223 sh_56 rfl kc_8 (by decide) lf_X8_40 ?_
        refine r_aload_n 1 dX8_layLate_226 rfl rfl ?_
        refine r_getR (j := 16) dX8_layLate_227 sh_56 rfl kc_8 (by decide) lf_X8_46 ?_
        refine r_iload 3 dX8_layLate_230 rfl ?_
        refine r_iald dX8_layLate_232 sh_69 b38.1 b38.2 ?_
        refine r_iconst dX8_layLate_233 (by decide) ?_
        obtain ⟨b46, h⟩ := h
        refine r_idiv dX8_layLate_234 b46 (by decide) ?_
        obtain ⟨b47, h⟩ := h
        refine r_iald dX8_layLate_235 sh_67 b47.1 b47.2 ?_
        obtain ⟨b48, h⟩ := h
        refine r_iadd dX8_layLate_236 b48 ?_
        refine r_istore dX8_layLate_237 (by decide) rfl ?_
        refine r_iload 0 dX8_layLate_239 rfl ?_
        refine r_iload 1 dX8_layLate_241 rfl ?_
        obtain ⟨y50, ey50⟩ : ∃ z : Int, z = (if (σ 71 x4.toNat) ≤ (((s43 71 r42.toNat) + (s43 56 0)) + (s43 67 ((s43 69 x4.toNat) / 2).toNat)) then (σ 71 x4.toNat) else (((s43 71 r42.toNat) + (s43 56 0)) + (s43 67 ((s43 69 x4.toNat) / 2).toNat))) := ⟨_, rfl⟩
        replace h := h y50 ey50
        have hj51 : MWv l G mX8_layLate 253 [(0, vR 56), (3, vI x3), (4, vI x4)] [vI y50] s43 Q := by
          refine r_istore dX8_layLate_253 (by decide) rfl ?_
          refine r_iload 0 dX8_layLate_255 rfl ?_
          refine r_aload_n 1 dX8_layLate_257 rfl rfl ?_
          refine r_getR (j := 18) dX8_layLate_258 sh_56 rfl kc_8 (by decide) lf_X8_52 ?_
          refine r_iload 3 dX8_layLate_261 rfl ?_
          refine r_iald dX8_layLate_263 sh_71 b38.1 b38.2 ?_
          obtain ⟨y55, ey55⟩ : ∃ z : Int, z = (if (s43 71 x4.toNat) ≤ y50 then x3 else 1) := ⟨_, rfl⟩
          replace h := h y55 ey55
          obtain ⟨s56, es56⟩ : ∃ z : Sto, z = (if (s43 71 x4.toNat) ≤ y50 then s43 else (stS s43 71 x4.toNat y50)) := ⟨_, rfl⟩
          replace h := h s56 es56
          have hj57 : MWv l G mX8_layLate 278 [(0, vR 56), (3, vI y55), (4, vI x4)] [] s56 Q := by
            obtain ⟨b62, h⟩ := h
            refine r_iinc 2 dX8_layLate_278 rfl (by decide) b62 rfl ?_
            refine r_goto (tgt := 123) dX8_layLate_281 (by decide) ?_
            refine MWF.sub [1, 2, 0] rfl ?_
            exact h
          refine r_icmp_ge (tgt := 278) dX8_layLate_264 (by decide) (fun (c54 : (s43 71 x4.toNat) ≤ y50) => ?_) (fun (c54 : ¬ ((s43 71 x4.toNat) ≤ y50)) => ?_)
          · refine MWF.sub [1, 2, 3] rfl ?_
            have q58 : y55 = x3 := by rw [ey55, if_pos c54]
            rw [q58] at hj57
            have q59 : s56 = s43 := by rw [es56, if_pos c54]
            rw [q59] at hj57
            exact hj57
          · refine r_aload_n 1 dX8_layLate_267 rfl rfl ?_
            refine r_getR (j := 18) dX8_layLate_268 sh_56 rfl kc_8 (by decide) lf_X8_52 ?_
            refine r_iload 3 dX8_layLate_271 rfl ?_
            refine r_iload 0 dX8_layLate_273 rfl ?_
            refine r_iast dX8_layLate_275 sh_71 b38.1 b38.2 ?_
            refine r_iconst dX8_layLate_276 (by decide) ?_
            refine r_istore_n dX8_layLate_277 rfl (by decide) rfl ?_
            refine MWF.sub [2, 0, 3] rfl ?_
            have q60 : y55 = 1 := by rw [ey55, if_neg c54]
            rw [q60] at hj57
            have q61 : s56 = (stS s43 71 x4.toNat y50) := by rw [es56, if_neg c54]
            rw [q61] at hj57
            exact hj57
        refine r_icmp_ge (tgt := 251) dX8_layLate_243 (by decide) (fun (c49 : (σ 71 x4.toNat) ≤ (((s43 71 r42.toNat) + (s43 56 0)) + (s43 67 ((s43 69 x4.toNat) / 2).toNat))) => ?_) (fun (c49 : ¬ ((σ 71 x4.toNat) ≤ (((s43 71 r42.toNat) + (s43 56 0)) + (s43 67 ((s43 69 x4.toNat) / 2).toNat)))) => ?_)
        · refine r_iload 1 dX8_layLate_251 rfl ?_
          refine MWF.sub [2, 3, 4] rfl ?_
          have q52 : y50 = (σ 71 x4.toNat) := by rw [ey50, if_pos c49]
          rw [q52] at hj51
          exact hj51
        · refine r_iload 0 dX8_layLate_246 rfl ?_
          refine r_goto (tgt := 253) dX8_layLate_248 (by decide) ?_
          refine MWF.sub [2, 3, 4] rfl ?_
          have q53 : y50 = (((s43 71 r42.toNat) + (s43 56 0)) + (s43 67 ((s43 69 x4.toNat) / 2).toNat)) := by rw [ey50, if_neg c49]
          rw [q53] at hj51
          exact hj51
      · replace h := h.2 c40
        refine r_iload 0 dX8_layLate_255 rfl ?_
        refine r_aload_n 1 dX8_layLate_257 rfl rfl ?_
        refine r_getR (j := 18) dX8_layLate_258 sh_56 rfl kc_8 (by decide) lf_X8_52 ?_
        refine r_iload 3 dX8_layLate_261 rfl ?_
        refine r_iald dX8_layLate_263 sh_71 b38.1 b38.2 ?_
        obtain ⟨y64, ey64⟩ : ∃ z : Int, z = (if (σ 71 x4.toNat) ≤ (σ 71 x4.toNat) then x3 else 1) := ⟨_, rfl⟩
        replace h := h y64 ey64
        obtain ⟨s65, es65⟩ : ∃ z : Sto, z = (if (σ 71 x4.toNat) ≤ (σ 71 x4.toNat) then σ else (stS σ 71 x4.toNat (σ 71 x4.toNat))) := ⟨_, rfl⟩
        replace h := h s65 es65
        have hj66 : MWv l G mX8_layLate 278 [(0, vR 56), (3, vI y64), (4, vI x4)] [] s65 Q := by
          obtain ⟨b71, h⟩ := h
          refine r_iinc 2 dX8_layLate_278 rfl (by decide) b71 rfl ?_
          refine r_goto (tgt := 123) dX8_layLate_281 (by decide) ?_
          refine MWF.sub [1, 2, 0] rfl ?_
          exact h
        refine r_icmp_ge (tgt := 278) dX8_layLate_264 (by decide) (fun (c63 : (σ 71 x4.toNat) ≤ (σ 71 x4.toNat)) => ?_) (fun (c63 : ¬ ((σ 71 x4.toNat) ≤ (σ 71 x4.toNat))) => ?_)
        · refine MWF.sub [1, 2, 3] rfl ?_
          have q67 : y64 = x3 := by rw [ey64, if_pos c63]
          rw [q67] at hj66
          have q68 : s65 = σ := by rw [es65, if_pos c63]
          rw [q68] at hj66
          exact hj66
        · refine r_aload_n 1 dX8_layLate_267 rfl rfl ?_
          refine r_getR (j := 18) dX8_layLate_268 sh_56 rfl kc_8 (by decide) lf_X8_52 ?_
          refine r_iload 3 dX8_layLate_271 rfl ?_
          refine r_iload 0 dX8_layLate_273 rfl ?_
          refine r_iast dX8_layLate_275 sh_71 b38.1 b38.2 ?_
          refine r_iconst dX8_layLate_276 (by decide) ?_
          refine r_istore_n dX8_layLate_277 rfl (by decide) rfl ?_
          refine MWF.sub [2, 0, 3] rfl ?_
          have q69 : y64 = 1 := by rw [ey64, if_neg c63]
          rw [q69] at hj66
          have q70 : s65 = (stS σ 71 x4.toNat (σ 71 x4.toNat)) := by rw [es65, if_neg c63]
          rw [q70] at hj66
          exact hj66
    · replace h := h.2 c37
      refine r_aload_n 0 dX8_layLate_149 rfl rfl ?_
      refine r_getR (j := 18) dX8_layLate_150 sh_56 rfl kc_8 (by decide) lf_X8_52 ?_
      refine r_iload 2 dX8_layLate_153 rfl ?_
      refine r_iconst dX8_layLate_155 (by decide) ?_
      obtain ⟨b72, h⟩ := h
      refine r_iadd dX8_layLate_156 b72 ?_
      obtain ⟨b73, h⟩ := h
      refine r_iald dX8_layLate_157 sh_71 b73.1 b73.2 ?_
      refine r_aload_n 0 dX8_layLate_158 rfl rfl ?_
      refine r_getI (j := 0) dX8_layLate_159 sh_56 rfl kc_8 (by decide) lf_X8_61 ?_
      obtain ⟨b74, h⟩ := h
      refine r_isub dX8_layLate_162 b74 ?_
      refine r_aload_n 0 dX8_layLate_163 rfl rfl ?_
      refine r_aload_n 0 dX8_layLate_164 rfl rfl ?_
      refine r_getR (j := 16) dX8_layLate_165 sh_56 rfl kc_8 (by decide) lf_X8_46 ?_
      refine r_iload 2 dX8_layLate_168 rfl ?_
      obtain ⟨b75, h⟩ := h
      refine r_iald dX8_layLate_170 sh_69 b75.1 b75.2 ?_
      refine r_aload_n 0 dX8_layLate_171 rfl rfl ?_
      refine r_getR (j := 16) dX8_layLate_172 sh_56 rfl kc_8 (by decide) lf_X8_46 ?_
      refine r_iload 2 dX8_layLate_175 rfl ?_
      refine r_iconst dX8_layLate_177 (by decide) ?_
      refine r_iadd dX8_layLate_178 b72 ?_
      refine r_iald dX8_layLate_179 sh_69 b73.1 b73.2 ?_
      refine r_callV [vI (σ 69 x4.toNat), vI (σ 69 (x4 + 1).toNat)] [vI ((σ 71 (x4 + 1).toNat) - (σ 56 0))] dX8_layLate_180 okX8_between ivX8_between seX8_between lm_X8_93 rfl rfl sh_56 rfl ⟨Nat.le_of_ble_eq_true rfl, Nat.le_of_ble_eq_true rfl, Nat.le_of_ble_eq_true rfl, Nat.le_of_ble_eq_true rfl⟩ h ?_
      rintro _ s77 ⟨r76, rfl, h⟩
      obtain ⟨b78, h⟩ := h
      refine r_isub dX8_layLate_183 b78 ?_
      refine r_istore dX8_layLate_184 (by decide) rfl ?_
      refine r_aload_n 1 dX8_layLate_186 rfl rfl ?_
      refine r_getR (j := 16) dX8_layLate_187 sh_56 rfl kc_8 (by decide) lf_X8_46 ?_
      refine r_iload 3 dX8_layLate_190 rfl ?_
      refine r_iald dX8_layLate_192 sh_69 b75.1 b75.2 ?_
      refine r_iconst dX8_layLate_193 (by decide) ?_
      obtain ⟨b79, h⟩ := h
      refine r_irem dX8_layLate_194 b79 (by decide) ?_
      refine r_iconst dX8_layLate_195 (by decide) ?_
      refine r_icmp_ne (tgt := 255) dX8_layLate_196 (by decide) (fun (c80 : ((s77 69 x4.toNat) % 2) = 1) => ?_) (fun (c80 : ¬ (((s77 69 x4.toNat) % 2) = 1)) => ?_)
      · replace h := h.1 c80
        refine r_aload_n 1 dX8_layLate_199 rfl rfl ?_
        refine r_getR (j := 18) dX8_layLate_200 sh_56 rfl kc_8 (by decide) lf_X8_52 ?_
        refine r_aload_n 1 dX8_layLate_203 rfl rfl ?_
        refine r_aload_n 1 dX8_layLate_204 rfl rfl ?_
        refine r_getR (j := 16) dX8_layLate_205 sh_56 rfl kc_8 (by decide) lf_X8_46 ?_
        refine r_iload 3 dX8_layLate_208 rfl ?_
        refine r_iald dX8_layLate_210 sh_69 b75.1 b75.2 ?_
        refine r_iconst dX8_layLate_211 (by decide) ?_
        obtain ⟨b81, h⟩ := h
        refine r_isub dX8_layLate_212 b81 ?_
        refine r_callV [vI ((s77 69 x4.toNat) - 1)] [vR 71] dX8_layLate_213 okX8_placeOf ivX8_placeOf seX8_placeOf lm_X8_96 rfl rfl sh_56 rfl ⟨Nat.le_of_ble_eq_true rfl, Nat.le_of_ble_eq_true rfl, Nat.le_of_ble_eq_true rfl, Nat.le_of_ble_eq_true rfl⟩ h ?_
        rintro _ s83 ⟨r82, rfl, h⟩
        obtain ⟨b84, h⟩ := h
        refine r_iald dX8_layLate_216 sh_71 b84.1 b84.2 ?_
        refine r_aload_n 1 dX8_layLate_217 rfl rfl ?_
        refine r_getI (j := 0) dX8_layLate_218 sh_56 rfl kc_8 (by decide) lf_X8_61 ?_
        obtain ⟨b85, h⟩ := h
        refine r_iadd dX8_layLate_221 b85 ?_
        refine r_aload_n 1 dX8_layLate_222 rfl rfl ?_
        refine r_getR (j := 13) dX8_layLate_223 sh_56 rfl kc_8 (by decide) lf_X8_40 ?_
        refine r_aload_n 1 dX8_layLate_226 rfl rfl ?_
        refine r_getR (j := 16) dX8_layLate_227 sh_56 rfl kc_8 (by decide) lf_X8_46 ?_
        refine r_iload 3 dX8_layLate_230 rfl ?_
        refine r_iald dX8_layLate_232 sh_69 b75.1 b75.2 ?_
        refine r_iconst dX8_layLate_233 (by decide) ?_
        obtain ⟨b86, h⟩ := h
        refine r_idiv dX8_layLate_234 b86 (by decide) ?_
        obtain ⟨b87, h⟩ := h
        refine r_iald dX8_layLate_235 sh_67 b87.1 b87.2 ?_
        obtain ⟨b88, h⟩ := h
        refine r_iadd dX8_layLate_236 b88 ?_
        refine r_istore dX8_layLate_237 (by decide) rfl ?_
        refine r_iload 0 dX8_layLate_239 rfl ?_
        refine r_iload 1 dX8_layLate_241 rfl ?_
        obtain ⟨y90, ey90⟩ : ∃ z : Int, z = (if (((σ 71 (x4 + 1).toNat) - (σ 56 0)) - r76) ≤ (((s83 71 r82.toNat) + (s83 56 0)) + (s83 67 ((s83 69 x4.toNat) / 2).toNat)) then (((σ 71 (x4 + 1).toNat) - (σ 56 0)) - r76) else (((s83 71 r82.toNat) + (s83 56 0)) + (s83 67 ((s83 69 x4.toNat) / 2).toNat))) := ⟨_, rfl⟩
        replace h := h y90 ey90
        have hj91 : MWv l G mX8_layLate 253 [(0, vR 56), (3, vI x3), (4, vI x4)] [vI y90] s83 Q := by
          refine r_istore dX8_layLate_253 (by decide) rfl ?_
          refine r_iload 0 dX8_layLate_255 rfl ?_
          refine r_aload_n 1 dX8_layLate_257 rfl rfl ?_
          refine r_getR (j := 18) dX8_layLate_258 sh_56 rfl kc_8 (by decide) lf_X8_52 ?_
          refine r_iload 3 dX8_layLate_261 rfl ?_
          refine r_iald dX8_layLate_263 sh_71 b75.1 b75.2 ?_
          obtain ⟨y95, ey95⟩ : ∃ z : Int, z = (if (s83 71 x4.toNat) ≤ y90 then x3 else 1) := ⟨_, rfl⟩
          replace h := h y95 ey95
          obtain ⟨s96, es96⟩ : ∃ z : Sto, z = (if (s83 71 x4.toNat) ≤ y90 then s83 else (stS s83 71 x4.toNat y90)) := ⟨_, rfl⟩
          replace h := h s96 es96
          have hj97 : MWv l G mX8_layLate 278 [(0, vR 56), (3, vI y95), (4, vI x4)] [] s96 Q := by
            obtain ⟨b102, h⟩ := h
            refine r_iinc 2 dX8_layLate_278 rfl (by decide) b102 rfl ?_
            refine r_goto (tgt := 123) dX8_layLate_281 (by decide) ?_
            refine MWF.sub [1, 2, 0] rfl ?_
            exact h
          refine r_icmp_ge (tgt := 278) dX8_layLate_264 (by decide) (fun (c94 : (s83 71 x4.toNat) ≤ y90) => ?_) (fun (c94 : ¬ ((s83 71 x4.toNat) ≤ y90)) => ?_)
          · refine MWF.sub [1, 2, 3] rfl ?_
            have q98 : y95 = x3 := by rw [ey95, if_pos c94]
            rw [q98] at hj97
            have q99 : s96 = s83 := by rw [es96, if_pos c94]
            rw [q99] at hj97
            exact hj97
          · refine r_aload_n 1 dX8_layLate_267 rfl rfl ?_
            refine r_getR (j := 18) dX8_layLate_268 sh_56 rfl kc_8 (by decide) lf_X8_52 ?_
            refine r_iload 3 dX8_layLate_271 rfl ?_
            refine r_iload 0 dX8_layLate_273 rfl ?_
            refine r_iast dX8_layLate_275 sh_71 b75.1 b75.2 ?_
            refine r_iconst dX8_layLate_276 (by decide) ?_
            refine r_istore_n dX8_layLate_277 rfl (by decide) rfl ?_
            refine MWF.sub [2, 0, 3] rfl ?_
            have q100 : y95 = 1 := by rw [ey95, if_neg c94]
            rw [q100] at hj97
            have q101 : s96 = (stS s83 71 x4.toNat y90) := by rw [es96, if_neg c94]
            rw [q101] at hj97
            exact hj97
        refine r_icmp_ge (tgt := 251) dX8_layLate_243 (by decide) (fun (c89 : (((σ 71 (x4 + 1).toNat) - (σ 56 0)) - r76) ≤ (((s83 71 r82.toNat) + (s83 56 0)) + (s83 67 ((s83 69 x4.toNat) / 2).toNat))) => ?_) (fun (c89 : ¬ ((((σ 71 (x4 + 1).toNat) - (σ 56 0)) - r76) ≤ (((s83 71 r82.toNat) + (s83 56 0)) + (s83 67 ((s83 69 x4.toNat) / 2).toNat)))) => ?_)
        · refine r_iload 1 dX8_layLate_251 rfl ?_
          refine MWF.sub [2, 3, 4] rfl ?_
          have q92 : y90 = (((σ 71 (x4 + 1).toNat) - (σ 56 0)) - r76) := by rw [ey90, if_pos c89]
          rw [q92] at hj91
          exact hj91
        · refine r_iload 0 dX8_layLate_246 rfl ?_
          refine r_goto (tgt := 253) dX8_layLate_248 (by decide) ?_
          refine MWF.sub [2, 3, 4] rfl ?_
          have q93 : y90 = (((s83 71 r82.toNat) + (s83 56 0)) + (s83 67 ((s83 69 x4.toNat) / 2).toNat)) := by rw [ey90, if_neg c89]
          rw [q93] at hj91
          exact hj91
      · replace h := h.2 c80
        refine r_iload 0 dX8_layLate_255 rfl ?_
        refine r_aload_n 1 dX8_layLate_257 rfl rfl ?_
        refine r_getR (j := 18) dX8_layLate_258 sh_56 rfl kc_8 (by decide) lf_X8_52 ?_
        refine r_iload 3 dX8_layLate_261 rfl ?_
        refine r_iald dX8_layLate_263 sh_71 b75.1 b75.2 ?_
        obtain ⟨y104, ey104⟩ : ∃ z : Int, z = (if (s77 71 x4.toNat) ≤ (((σ 71 (x4 + 1).toNat) - (σ 56 0)) - r76) then x3 else 1) := ⟨_, rfl⟩
        replace h := h y104 ey104
        obtain ⟨s105, es105⟩ : ∃ z : Sto, z = (if (s77 71 x4.toNat) ≤ (((σ 71 (x4 + 1).toNat) - (σ 56 0)) - r76) then s77 else (stS s77 71 x4.toNat (((σ 71 (x4 + 1).toNat) - (σ 56 0)) - r76))) := ⟨_, rfl⟩
        replace h := h s105 es105
        have hj106 : MWv l G mX8_layLate 278 [(0, vR 56), (3, vI y104), (4, vI x4)] [] s105 Q := by
          obtain ⟨b111, h⟩ := h
          refine r_iinc 2 dX8_layLate_278 rfl (by decide) b111 rfl ?_
          refine r_goto (tgt := 123) dX8_layLate_281 (by decide) ?_
          refine MWF.sub [1, 2, 0] rfl ?_
          exact h
        refine r_icmp_ge (tgt := 278) dX8_layLate_264 (by decide) (fun (c103 : (s77 71 x4.toNat) ≤ (((σ 71 (x4 + 1).toNat) - (σ 56 0)) - r76)) => ?_) (fun (c103 : ¬ ((s77 71 x4.toNat) ≤ (((σ 71 (x4 + 1).toNat) - (σ 56 0)) - r76))) => ?_)
        · refine MWF.sub [1, 2, 3] rfl ?_
          have q107 : y104 = x3 := by rw [ey104, if_pos c103]
          rw [q107] at hj106
          have q108 : s105 = s77 := by rw [es105, if_pos c103]
          rw [q108] at hj106
          exact hj106
        · refine r_aload_n 1 dX8_layLate_267 rfl rfl ?_
          refine r_getR (j := 18) dX8_layLate_268 sh_56 rfl kc_8 (by decide) lf_X8_52 ?_
          refine r_iload 3 dX8_layLate_271 rfl ?_
          refine r_iload 0 dX8_layLate_273 rfl ?_
          refine r_iast dX8_layLate_275 sh_71 b75.1 b75.2 ?_
          refine r_iconst dX8_layLate_276 (by decide) ?_
          refine r_istore_n dX8_layLate_277 rfl (by decide) rfl ?_
          refine MWF.sub [2, 0, 3] rfl ?_
          have q109 : y104 = 1 := by rw [ey104, if_neg c103]
          rw [q109] at hj106
          have q110 : s105 = (stS s77 71 x4.toNat (((σ 71 (x4 + 1).toNat) - (σ 56 0)) - r76)) := by rw [es105, if_neg c103]
          rw [q110] at hj106
          exact hj106
set_option maxRecDepth 100000 in
set_option maxHeartbeats 4000000 in
theorem clX8_isFeasible (l : Launch) (G : GT) (σ : Sto) (Q : Int → Sto → Prop) (x1 : Int)
    (h : CLi l G mX8_greatestLoad [vR 56] σ (fun r1 s2 => (0 ≤ x1 ∧ x1 < 4) ∧ ((s2 59 x1.toNat) < r1 → Q 0 s2) ∧ (¬ ((s2 59 x1.toNat) < r1) → CLi l G mX8_layEarly [vR 56, vI x1] s2 (fun r5 s6 => ∀ y8 : Int, y8 = (if r5 = 0 then 0 else 1) → Q y8 s6)))) :
    CLi l G mX8_isFeasible [vR 56, vI x1] σ Q := by
  show MWi l G mX8_isFeasible 0 [(0, vR 56), (1, vI x1)] [] σ Q
  refine r_aload_n 0 dX8_isFeasible_0 rfl rfl ?_
  refine r_callV [] [] dX8_isFeasible_1 okX8_greatestLoad ivX8_greatestLoad seX8_greatestLoad lm_X8_99 rfl rfl sh_56 rfl ⟨Nat.le_of_ble_eq_true rfl, Nat.le_of_ble_eq_true rfl, Nat.le_of_ble_eq_true rfl, Nat.le_of_ble_eq_true rfl⟩ h ?_
  rintro _ s2 ⟨r1, rfl, h⟩
  refine r_aload_n 0 dX8_isFeasible_4 rfl rfl ?_
  refine r_getR (j := 4) dX8_isFeasible_5 sh_56 rfl kc_8 (by decide) lf_X8_16 ?_
  refine r_iload_n 1 dX8_isFeasible_8 rfl rfl ?_
  obtain ⟨b3, h⟩ := h
  refine r_iald dX8_isFeasible_9 sh_59 b3.1 b3.2 ?_
  refine r_icmp_gt (tgt := 25) dX8_isFeasible_10 (by decide) (fun (c4 : (s2 59 x1.toNat) < r1) => ?_) (fun (c4 : ¬ ((s2 59 x1.toNat) < r1)) => ?_)
  · replace h := h.1 c4
    refine r_iconst dX8_isFeasible_25 (by decide) ?_
    exact r_zret dX8_isFeasible_26 rfl (by decide) ⟨_, rfl, h⟩
  · replace h := h.2 c4
    refine r_aload_n 0 dX8_isFeasible_13 rfl rfl ?_
    refine r_iload_n 1 dX8_isFeasible_14 rfl rfl ?_
    refine r_callV [vI x1] [] dX8_isFeasible_15 okX8_layEarly ivX8_layEarly seX8_layEarly lm_X8_103 rfl rfl sh_56 rfl ⟨Nat.le_of_ble_eq_true rfl, Nat.le_of_ble_eq_true rfl, Nat.le_of_ble_eq_true rfl, Nat.le_of_ble_eq_true rfl⟩ h ?_
    rintro _ s6 ⟨r5, rfl, h⟩
    obtain ⟨y8, ey8⟩ : ∃ z : Int, z = (if r5 = 0 then 0 else 1) := ⟨_, rfl⟩
    replace h := h y8 ey8
    have hj9 : MWi l G mX8_isFeasible 26 [] [vI y8] s6 Q := by
      exact r_zret dX8_isFeasible_26 rfl (by rw [ey8]; (repeat' split) <;> decide) ⟨_, rfl, h⟩
    refine r_if_eq (tgt := 25) dX8_isFeasible_18 (by decide) (fun (c7 : r5 = 0) => ?_) (fun (c7 : ¬ (r5 = 0)) => ?_)
    · refine r_iconst dX8_isFeasible_25 (by decide) ?_
      refine MWF.sub [] rfl ?_
      have q10 : y8 = 0 := by rw [ey8, if_pos c7]
      rw [q10] at hj9
      exact hj9
    · refine r_iconst dX8_isFeasible_21 (by decide) ?_
      refine r_goto (tgt := 26) dX8_isFeasible_22 (by decide) ?_
      refine MWF.sub [] rfl ?_
      have q11 : y8 = 1 := by rw [ey8, if_neg c7]
      rw [q11] at hj9
      exact hj9
set_option maxRecDepth 100000 in
set_option maxHeartbeats 4000000 in
theorem clX8_isRowFeasible (l : Launch) (G : GT) (σ : Sto) (Q : Int → Sto → Prop) (x1 : Int)
    (h : CLv l G mX8_take [vR 56, vI x1] σ (fun s2 => CLi l G mX8_isFeasible [vR 56, vI x1] s2 (fun r3 s4 => (r3 = 0 ∨ r3 = 1) ∧ Q r3 s4))) :
    CLi l G mX8_isRowFeasible [vR 56, vI x1] σ Q := by
  show MWi l G mX8_isRowFeasible 0 [(0, vR 56), (1, vI x1)] [] σ Q
  refine r_aload_n 0 dX8_isRowFeasible_0 rfl rfl ?_
  refine r_iload_n 1 dX8_isRowFeasible_1 rfl rfl ?_
  refine r_callV [vI x1] [] dX8_isRowFeasible_2 okX8_take ivX8_take seX8_take lm_X8_107 rfl rfl sh_56 rfl ⟨Nat.le_of_ble_eq_true rfl, Nat.le_of_ble_eq_true rfl, Nat.le_of_ble_eq_true rfl, Nat.le_of_ble_eq_true rfl⟩ h ?_
  rintro _ s2 ⟨rfl, h⟩
  refine r_aload_n 0 dX8_isRowFeasible_5 rfl rfl ?_
  refine r_iload_n 1 dX8_isRowFeasible_6 rfl rfl ?_
  refine r_callV [vI x1] [] dX8_isRowFeasible_7 okX8_isFeasible ivX8_isFeasible seX8_isFeasible lm_X8_111 rfl rfl sh_56 rfl ⟨Nat.le_of_ble_eq_true rfl, Nat.le_of_ble_eq_true rfl, Nat.le_of_ble_eq_true rfl, Nat.le_of_ble_eq_true rfl⟩ h ?_
  rintro _ s4 ⟨r3, rfl, h⟩
  obtain ⟨b5, h⟩ := h
  exact r_zret dX8_isRowFeasible_10 rfl b5 ⟨_, rfl, h⟩
set_option maxRecDepth 100000 in
set_option maxHeartbeats 4000000 in
theorem clX8_staysFeasible (l : Launch) (G : GT) (σ : Sto) (Q : Int → Sto → Prop) (x1 : Int)
    (h : CLi l G mX8_vehicleOf [vR 56, vI x1] σ (fun r1 s2 => (r1 < 0 → Q 1 s2) ∧ (¬ (r1 < 0) → CLi l G mX8_isRowFeasible [vR 56, vI r1] s2 (fun r4 s5 => ∀ y7 : Int, y7 = (if r4 = 0 then 0 else 1) → Q y7 s5)))) :
    CLi l G mX8_staysFeasible [vR 56, vI x1] σ Q := by
  show MWi l G mX8_staysFeasible 0 [(0, vR 56), (1, vI x1)] [] σ Q
  refine r_aload_n 0 dX8_staysFeasible_0 rfl rfl ?_
  refine r_iload_n 1 dX8_staysFeasible_1 rfl rfl ?_
  refine r_callV [vI x1] [] dX8_staysFeasible_2 okX8_vehicleOf ivX8_vehicleOf seX8_vehicleOf lm_X8_114 rfl rfl sh_56 rfl ⟨Nat.le_of_ble_eq_true rfl, Nat.le_of_ble_eq_true rfl, Nat.le_of_ble_eq_true rfl, Nat.le_of_ble_eq_true rfl⟩ h ?_
  rintro _ s2 ⟨r1, rfl, h⟩
  refine r_istore_n dX8_staysFeasible_5 rfl (by decide) rfl ?_
  refine r_iload_n 0 dX8_staysFeasible_6 rfl rfl ?_
  refine r_if_lt (tgt := 18) dX8_staysFeasible_7 (by decide) (fun (c3 : r1 < 0) => ?_) (fun (c3 : ¬ (r1 < 0)) => ?_)
  · replace h := h.1 c3
    refine r_iconst dX8_staysFeasible_18 (by decide) ?_
    refine r_goto (tgt := 23) dX8_staysFeasible_19 (by decide) ?_
    exact r_zret dX8_staysFeasible_23 rfl (by decide) ⟨_, rfl, h⟩
  · replace h := h.2 c3
    refine r_aload_n 1 dX8_staysFeasible_10 rfl rfl ?_
    refine r_iload_n 0 dX8_staysFeasible_11 rfl rfl ?_
    refine r_callV [vI r1] [] dX8_staysFeasible_12 okX8_isRowFeasible ivX8_isRowFeasible seX8_isRowFeasible lm_X8_117 rfl rfl sh_56 rfl ⟨Nat.le_of_ble_eq_true rfl, Nat.le_of_ble_eq_true rfl, Nat.le_of_ble_eq_true rfl, Nat.le_of_ble_eq_true rfl⟩ h ?_
    rintro _ s5 ⟨r4, rfl, h⟩
    obtain ⟨y7, ey7⟩ : ∃ z : Int, z = (if r4 = 0 then 0 else 1) := ⟨_, rfl⟩
    replace h := h y7 ey7
    have hj8 : MWi l G mX8_staysFeasible 23 [] [vI y7] s5 Q := by
      exact r_zret dX8_staysFeasible_23 rfl (by rw [ey7]; (repeat' split) <;> decide) ⟨_, rfl, h⟩
    refine r_if_eq (tgt := 22) dX8_staysFeasible_15 (by decide) (fun (c6 : r4 = 0) => ?_) (fun (c6 : ¬ (r4 = 0)) => ?_)
    · refine r_iconst dX8_staysFeasible_22 (by decide) ?_
      refine MWF.sub [] rfl ?_
      have q9 : y7 = 0 := by rw [ey7, if_pos c6]
      rw [q9] at hj8
      exact hj8
    · refine r_iconst dX8_staysFeasible_18 (by decide) ?_
      refine r_goto (tgt := 23) dX8_staysFeasible_19 (by decide) ?_
      refine MWF.sub [] rfl ?_
      have q10 : y7 = 1 := by rw [ey7, if_neg c6]
      rw [q10] at hj8
      exact hj8
set_option maxRecDepth 100000 in
set_option maxHeartbeats 4000000 in
theorem clX8_setWindow (l : Launch) (G : GT) (σ : Sto) (Q : Int → Sto → Prop) (x1 : Int) (x2 : Int) (x3 : Int) (x4 : Int)
    (h : CLi l G mX8_noRequest [vR 56, vI x1] σ (fun r1 s2 => (r1 = 0 → CLi l G mX8_in [vI x3, vI 0, vI 5000] s2 (fun r4 s5 => (r4 = 0 → Q (-1002) s5) ∧ (¬ (r4 = 0) → CLi l G mX8_in [vI x4, vI x3, vI 5000] s5 (fun r7 s8 => (r7 = 0 → Q (-1002) s8) ∧ (¬ (r7 = 0) → (-2147483648 ≤ 2 * x1 ∧ 2 * x1 ≤ 2147483647) ∧ ∀ y12 : Int, y12 = (if x2 = 0 then 0 else 1) → (-2147483648 ≤ (2 * x1) + y12 ∧ (2 * x1) + y12 ≤ 2147483647) ∧ (0 ≤ ((2 * x1) + y12) ∧ ((2 * x1) + y12) < 24) ∧ CLi l G mX8_staysFeasible [vR 56, vI x1] (stS (stS s8 64 ((2 * x1) + y12).toNat x3) 65 ((2 * x1) + y12).toNat x4) (fun r18 s19 => (r18 = 0 → Q (-1005) (stS (stS s19 64 ((2 * x1) + y12).toNat (s8 64 ((2 * x1) + y12).toNat)) 65 ((2 * x1) + y12).toNat (s8 65 ((2 * x1) + y12).toNat))) ∧ (¬ (r18 = 0) → ∀ y23 : Int, y23 = (if x3 = (s8 64 ((2 * x1) + y12).toNat) then (if x4 = (s8 65 ((2 * x1) + y12).toNat) then 0 else 1) else 1) → ∀ y29 : Int, y29 = (if y23 = 0 then (s19 56 22) else 0) → ∀ y34 : Int, y34 = (if y23 = 0 then 0 else 1) → Q y34 (stS s19 56 22 y29)))))))) ∧ (¬ (r1 = 0) → Q (-1001) s2))) :
    CLi l G mX8_setWindow [vR 56, vI x1, vI x2, vI x3, vI x4] σ Q := by
  show MWi l G mX8_setWindow 0 [(0, vR 56), (1, vI x1), (2, vI x2), (3, vI x3), (4, vI x4)] [] σ Q
  refine r_aload_n 0 dX8_setWindow_0 rfl rfl ?_
  refine r_iload_n 1 dX8_setWindow_1 rfl rfl ?_
  refine r_callV [vI x1] [] dX8_setWindow_2 okX8_noRequest ivX8_noRequest seX8_noRequest lm_X8_120 rfl rfl sh_56 rfl ⟨Nat.le_of_ble_eq_true rfl, Nat.le_of_ble_eq_true rfl, Nat.le_of_ble_eq_true rfl, Nat.le_of_ble_eq_true rfl⟩ h ?_
  rintro _ s2 ⟨r1, rfl, h⟩
  refine r_if_eq (tgt := 12) dX8_setWindow_5 (by decide) (fun (c3 : r1 = 0) => ?_) (fun (c3 : ¬ (r1 = 0)) => ?_)
  · replace h := h.1 c3
    refine r_iload_n 3 dX8_setWindow_12 rfl rfl ?_
    refine r_iconst dX8_setWindow_13 (by decide) ?_
    refine r_sipush dX8_setWindow_14 (by decide) (by decide) ?_
    refine r_callS [vI x3, vI 0, vI 5000] [] dX8_setWindow_17 okX8_in ssX8_in lm_X8_65 rfl rfl ⟨Nat.le_of_ble_eq_true rfl, Nat.le_of_ble_eq_true rfl, Nat.le_of_ble_eq_true rfl, Nat.le_of_ble_eq_true rfl⟩ h ?_
    rintro _ s5 ⟨r4, rfl, h⟩
    refine r_if_eq (tgt := 35) dX8_setWindow_20 (by decide) (fun (c6 : r4 = 0) => ?_) (fun (c6 : ¬ (r4 = 0)) => ?_)
    · replace h := h.1 c6
      refine r_sipush dX8_setWindow_35 (by decide) (by decide) ?_
      exact r_iret dX8_setWindow_38 rfl ⟨_, rfl, h⟩
    · replace h := h.2 c6
      refine r_iload 4 dX8_setWindow_23 rfl ?_
      refine r_iload_n 3 dX8_setWindow_25 rfl rfl ?_
      refine r_sipush dX8_setWindow_26 (by decide) (by decide) ?_
      refine r_callS [vI x4, vI x3, vI 5000] [] dX8_setWindow_29 okX8_in ssX8_in lm_X8_65 rfl rfl ⟨Nat.le_of_ble_eq_true rfl, Nat.le_of_ble_eq_true rfl, Nat.le_of_ble_eq_true rfl, Nat.le_of_ble_eq_true rfl⟩ h ?_
      rintro _ s8 ⟨r7, rfl, h⟩
      refine r_if_ne (tgt := 39) dX8_setWindow_32 (by decide) (fun (c9 : r7 = 0) => ?_) (fun (c9 : ¬ (r7 = 0)) => ?_)
      · replace h := h.1 c9
        refine r_sipush dX8_setWindow_35 (by decide) (by decide) ?_
        exact r_iret dX8_setWindow_38 rfl ⟨_, rfl, h⟩
      · replace h := h.2 c9
        refine r_iconst dX8_setWindow_39 (by decide) ?_
        refine r_iload_n 1 dX8_setWindow_40 rfl rfl ?_
        obtain ⟨b10, h⟩ := h
        refine r_imul dX8_setWindow_41 b10 ?_
        refine r_iload_n 2 dX8_setWindow_42 rfl rfl ?_
        obtain ⟨y12, ey12⟩ : ∃ z : Int, z = (if x2 = 0 then 0 else 1) := ⟨_, rfl⟩
        replace h := h y12 ey12
        have hj13 : MWi l G mX8_setWindow 51 [(0, vR 56), (1, vI x1), (3, vI x3), (4, vI x4)] [vI y12, vI (2 * x1)] s8 Q := by
          obtain ⟨b16, h⟩ := h
          refine r_iadd dX8_setWindow_51 b16 ?_
          refine r_istore dX8_setWindow_52 (by decide) rfl ?_
          refine r_aload_n 1 dX8_setWindow_54 rfl rfl ?_
          refine r_getR (j := 10) dX8_setWindow_55 sh_56 rfl kc_8 (by decide) lf_X8_31 ?_
          refine r_iload 0 dX8_setWindow_58 rfl ?_
          obtain ⟨b17, h⟩ := h
          refine r_iald dX8_setWindow_60 sh_64 b17.1 b17.2 ?_
          refine r_istore dX8_setWindow_61 (by decide) rfl ?_
          refine r_aload_n 2 dX8_setWindow_63 rfl rfl ?_
          refine r_getR (j := 11) dX8_setWindow_64 sh_56 rfl kc_8 (by decide) lf_X8_34 ?_
          refine r_iload 1 dX8_setWindow_67 rfl ?_
          refine r_iald dX8_setWindow_69 sh_65 b17.1 b17.2 ?_
          refine r_istore dX8_setWindow_70 (by decide) rfl ?_
          refine r_aload_n 3 dX8_setWindow_72 rfl rfl ?_
          refine r_getR (j := 10) dX8_setWindow_73 sh_56 rfl kc_8 (by decide) lf_X8_31 ?_
          refine r_iload 2 dX8_setWindow_76 rfl ?_
          refine r_iload_n 5 dX8_setWindow_78 rfl rfl ?_
          refine r_iast dX8_setWindow_79 sh_64 b17.1 b17.2 ?_
          refine r_aload_n 3 dX8_setWindow_80 rfl rfl ?_
          refine r_getR (j := 11) dX8_setWindow_81 sh_56 rfl kc_8 (by decide) lf_X8_34 ?_
          refine r_iload 2 dX8_setWindow_84 rfl ?_
          refine r_iload 6 dX8_setWindow_86 rfl ?_
          refine r_iast dX8_setWindow_88 sh_65 b17.1 b17.2 ?_
          refine r_aload_n 3 dX8_setWindow_89 rfl rfl ?_
          refine r_iload_n 4 dX8_setWindow_90 rfl rfl ?_
          refine r_callV [vI x1] [] dX8_setWindow_91 okX8_staysFeasible ivX8_staysFeasible seX8_staysFeasible lm_X8_123 rfl rfl sh_56 rfl ⟨Nat.le_of_ble_eq_true rfl, Nat.le_of_ble_eq_true rfl, Nat.le_of_ble_eq_true rfl, Nat.le_of_ble_eq_true rfl⟩ h ?_
          rintro _ s19 ⟨r18, rfl, h⟩
          refine r_if_ne (tgt := 119) dX8_setWindow_94 (by decide) (fun (c20 : r18 = 0) => ?_) (fun (c20 : ¬ (r18 = 0)) => ?_)
          · replace h := h.1 c20
            refine r_aload_n 3 dX8_setWindow_97 rfl rfl ?_
            refine r_getR (j := 10) dX8_setWindow_98 sh_56 rfl kc_8 (by decide) lf_X8_31 ?_
            refine r_iload 2 dX8_setWindow_101 rfl ?_
            refine r_iload 1 dX8_setWindow_103 rfl ?_
            refine r_iast dX8_setWindow_105 sh_64 b17.1 b17.2 ?_
            refine r_aload_n 3 dX8_setWindow_106 rfl rfl ?_
            refine r_getR (j := 11) dX8_setWindow_107 sh_56 rfl kc_8 (by decide) lf_X8_34 ?_
            refine r_iload 2 dX8_setWindow_110 rfl ?_
            refine r_iload 0 dX8_setWindow_112 rfl ?_
            refine r_iast dX8_setWindow_114 sh_65 b17.1 b17.2 ?_
            refine r_sipush dX8_setWindow_115 (by decide) (by decide) ?_
            exact r_iret dX8_setWindow_118 rfl ⟨_, rfl, h⟩
          · replace h := h.2 c20
            refine r_iload_n 5 dX8_setWindow_119 rfl rfl ?_
            refine r_iload 1 dX8_setWindow_120 rfl ?_
            obtain ⟨y23, ey23⟩ : ∃ z : Int, z = (if x3 = (s8 64 ((2 * x1) + y12).toNat) then (if x4 = (s8 65 ((2 * x1) + y12).toNat) then 0 else 1) else 1) := ⟨_, rfl⟩
            replace h := h y23 ey23
            have hj24 : MWi l G mX8_setWindow 137 [(0, vR 56)] [vI y23] s19 Q := by
              refine r_istore dX8_setWindow_137 (by decide) rfl ?_
              refine r_aload_n 1 dX8_setWindow_139 rfl rfl ?_
              refine r_iload 0 dX8_setWindow_140 rfl ?_
              obtain ⟨y29, ey29⟩ : ∃ z : Int, z = (if y23 = 0 then (s19 56 22) else 0) := ⟨_, rfl⟩
              replace h := h y29 ey29
              have hj30 : MWi l G mX8_setWindow 153 [(8, vI y23)] [vI y29, vR 56] s19 Q := by
                refine r_putI (j := 22) dX8_setWindow_153 sh_56 rfl kc_8 (by decide) lf_X8_79 rfl (by decide) ?_
                refine r_iload 0 dX8_setWindow_156 rfl ?_
                obtain ⟨y34, ey34⟩ : ∃ z : Int, z = (if y23 = 0 then 0 else 1) := ⟨_, rfl⟩
                replace h := h y34 ey34
                have hj35 : MWi l G mX8_setWindow 166 [] [vI y34] (stS s19 56 22 y29) Q := by
                  exact r_iret dX8_setWindow_166 rfl ⟨_, rfl, h⟩
                refine r_if_eq (tgt := 165) dX8_setWindow_158 (by decide) (fun (c33 : y23 = 0) => ?_) (fun (c33 : ¬ (y23 = 0)) => ?_)
                · refine r_iconst dX8_setWindow_165 (by decide) ?_
                  refine MWF.sub [] rfl ?_
                  have q36 : y34 = 0 := by rw [ey34, if_pos c33]
                  rw [q36] at hj35
                  exact hj35
                · refine r_iconst dX8_setWindow_161 (by decide) ?_
                  refine r_goto (tgt := 166) dX8_setWindow_162 (by decide) ?_
                  refine MWF.sub [] rfl ?_
                  have q37 : y34 = 1 := by rw [ey34, if_neg c33]
                  rw [q37] at hj35
                  exact hj35
              refine r_if_eq (tgt := 149) dX8_setWindow_142 (by decide) (fun (c28 : y23 = 0) => ?_) (fun (c28 : ¬ (y23 = 0)) => ?_)
              · refine r_aload_n 1 dX8_setWindow_149 rfl rfl ?_
                refine r_getI (j := 22) dX8_setWindow_150 sh_56 rfl kc_8 (by decide) lf_X8_79 ?_
                refine MWF.sub [0] rfl ?_
                have q31 : y29 = (s19 56 22) := by rw [ey29, if_pos c28]
                rw [q31] at hj30
                exact hj30
              · refine r_iconst dX8_setWindow_145 (by decide) ?_
                refine r_goto (tgt := 153) dX8_setWindow_146 (by decide) ?_
                refine MWF.sub [0] rfl ?_
                have q32 : y29 = 0 := by rw [ey29, if_neg c28]
                rw [q32] at hj30
                exact hj30
            refine r_icmp_ne (tgt := 132) dX8_setWindow_122 (by decide) (fun (c21 : x3 = (s8 64 ((2 * x1) + y12).toNat)) => ?_) (fun (c21 : ¬ (x3 = (s8 64 ((2 * x1) + y12).toNat))) => ?_)
            · refine r_iload 6 dX8_setWindow_125 rfl ?_
              refine r_iload 0 dX8_setWindow_127 rfl ?_
              refine r_icmp_eq (tgt := 136) dX8_setWindow_129 (by decide) (fun (c22 : x4 = (s8 65 ((2 * x1) + y12).toNat)) => ?_) (fun (c22 : ¬ (x4 = (s8 65 ((2 * x1) + y12).toNat))) => ?_)
              · refine r_iconst dX8_setWindow_136 (by decide) ?_
                refine MWF.sub [3] rfl ?_
                have q25 : y23 = 0 := by rw [ey23, if_pos c21, if_pos c22]
                rw [q25] at hj24
                exact hj24
              · refine r_iconst dX8_setWindow_132 (by decide) ?_
                refine r_goto (tgt := 137) dX8_setWindow_133 (by decide) ?_
                refine MWF.sub [3] rfl ?_
                have q26 : y23 = 1 := by rw [ey23, if_pos c21, if_neg c22]
                rw [q26] at hj24
                exact hj24
            · refine r_iconst dX8_setWindow_132 (by decide) ?_
              refine r_goto (tgt := 137) dX8_setWindow_133 (by decide) ?_
              refine MWF.sub [3] rfl ?_
              have q27 : y23 = 1 := by rw [ey23, if_neg c21]
              rw [q27] at hj24
              exact hj24
        refine r_if_eq (tgt := 50) dX8_setWindow_43 (by decide) (fun (c11 : x2 = 0) => ?_) (fun (c11 : ¬ (x2 = 0)) => ?_)
        · refine r_iconst dX8_setWindow_50 (by decide) ?_
          refine MWF.sub [0, 1, 3, 4] rfl ?_
          have q14 : y12 = 0 := by rw [ey12, if_pos c11]
          rw [q14] at hj13
          exact hj13
        · refine r_iconst dX8_setWindow_46 (by decide) ?_
          refine r_goto (tgt := 51) dX8_setWindow_47 (by decide) ?_
          refine MWF.sub [0, 1, 3, 4] rfl ?_
          have q15 : y12 = 1 := by rw [ey12, if_neg c11]
          rw [q15] at hj13
          exact hj13
  · replace h := h.2 c3
    refine r_sipush dX8_setWindow_8 (by decide) (by decide) ?_
    exact r_iret dX8_setWindow_11 rfl ⟨_, rfl, h⟩
set_option maxRecDepth 100000 in
set_option maxHeartbeats 4000000 in
theorem clX8_setLimit (l : Launch) (G : GT) (σ : Sto) (Q : Int → Sto → Prop) (x1 : Int) (x2 : Int)
    (h : CLi l G mX8_noRequest [vR 56, vI x1] σ (fun r1 s2 => (r1 = 0 → CLi l G mX8_in [vI x2, vI 0, vI 1000] s2 (fun r4 s5 => (r4 = 0 → Q (-1002) s5) ∧ (¬ (r4 = 0) → (0 ≤ x1 ∧ x1 < 12) ∧ CLi l G mX8_staysFeasible [vR 56, vI x1] (stS s5 67 x1.toNat x2) (fun r8 s9 => (r8 = 0 → Q (-1005) (stS s9 67 x1.toNat (s5 67 x1.toNat))) ∧ (¬ (r8 = 0) → ∀ y12 : Int, y12 = (if (s5 67 x1.toNat) = x2 then (s9 56 22) else 0) → Q (s5 67 x1.toNat) (stS s9 56 22 y12)))))) ∧ (¬ (r1 = 0) → Q (-1001) s2))) :
    CLi l G mX8_setLimit [vR 56, vI x1, vI x2] σ Q := by
  show MWi l G mX8_setLimit 0 [(0, vR 56), (1, vI x1), (2, vI x2)] [] σ Q
  refine r_aload_n 0 dX8_setLimit_0 rfl rfl ?_
  refine r_iload_n 1 dX8_setLimit_1 rfl rfl ?_
  refine r_callV [vI x1] [] dX8_setLimit_2 okX8_noRequest ivX8_noRequest seX8_noRequest lm_X8_120 rfl rfl sh_56 rfl ⟨Nat.le_of_ble_eq_true rfl, Nat.le_of_ble_eq_true rfl, Nat.le_of_ble_eq_true rfl, Nat.le_of_ble_eq_true rfl⟩ h ?_
  rintro _ s2 ⟨r1, rfl, h⟩
  refine r_if_eq (tgt := 12) dX8_setLimit_5 (by decide) (fun (c3 : r1 = 0) => ?_) (fun (c3 : ¬ (r1 = 0)) => ?_)
  · replace h := h.1 c3
    refine r_iload_n 2 dX8_setLimit_12 rfl rfl ?_
    refine r_iconst dX8_setLimit_13 (by decide) ?_
    refine r_sipush dX8_setLimit_14 (by decide) (by decide) ?_
    refine r_callS [vI x2, vI 0, vI 1000] [] dX8_setLimit_17 okX8_in ssX8_in lm_X8_65 rfl rfl ⟨Nat.le_of_ble_eq_true rfl, Nat.le_of_ble_eq_true rfl, Nat.le_of_ble_eq_true rfl, Nat.le_of_ble_eq_true rfl⟩ h ?_
    rintro _ s5 ⟨r4, rfl, h⟩
    refine r_if_ne (tgt := 27) dX8_setLimit_20 (by decide) (fun (c6 : r4 = 0) => ?_) (fun (c6 : ¬ (r4 = 0)) => ?_)
    · replace h := h.1 c6
      refine r_sipush dX8_setLimit_23 (by decide) (by decide) ?_
      exact r_iret dX8_setLimit_26 rfl ⟨_, rfl, h⟩
    · replace h := h.2 c6
      refine r_aload_n 0 dX8_setLimit_27 rfl rfl ?_
      refine r_getR (j := 13) dX8_setLimit_28 sh_56 rfl kc_8 (by decide) lf_X8_40 ?_
      refine r_iload_n 1 dX8_setLimit_31 rfl rfl ?_
      obtain ⟨b7, h⟩ := h
      refine r_iald dX8_setLimit_32 sh_67 b7.1 b7.2 ?_
      refine r_istore_n dX8_setLimit_33 rfl (by decide) rfl ?_
      refine r_aload_n 1 dX8_setLimit_34 rfl rfl ?_
      refine r_getR (j := 13) dX8_setLimit_35 sh_56 rfl kc_8 (by decide) lf_X8_40 ?_
      refine r_iload_n 2 dX8_setLimit_38 rfl rfl ?_
      refine r_iload_n 3 dX8_setLimit_39 rfl rfl ?_
      refine r_iast dX8_setLimit_40 sh_67 b7.1 b7.2 ?_
      refine r_aload_n 1 dX8_setLimit_41 rfl rfl ?_
      refine r_iload_n 2 dX8_setLimit_42 rfl rfl ?_
      refine r_callV [vI x1] [] dX8_setLimit_43 okX8_staysFeasible ivX8_staysFeasible seX8_staysFeasible lm_X8_123 rfl rfl sh_56 rfl ⟨Nat.le_of_ble_eq_true rfl, Nat.le_of_ble_eq_true rfl, Nat.le_of_ble_eq_true rfl, Nat.le_of_ble_eq_true rfl⟩ h ?_
      rintro _ s9 ⟨r8, rfl, h⟩
      refine r_if_ne (tgt := 60) dX8_setLimit_46 (by decide) (fun (c10 : r8 = 0) => ?_) (fun (c10 : ¬ (r8 = 0)) => ?_)
      · replace h := h.1 c10
        refine r_aload_n 1 dX8_setLimit_49 rfl rfl ?_
        refine r_getR (j := 13) dX8_setLimit_50 sh_56 rfl kc_8 (by decide) lf_X8_40 ?_
        refine r_iload_n 2 dX8_setLimit_53 rfl rfl ?_
        refine r_iload_n 0 dX8_setLimit_54 rfl rfl ?_
        refine r_iast dX8_setLimit_55 sh_67 b7.1 b7.2 ?_
        refine r_sipush dX8_setLimit_56 (by decide) (by decide) ?_
        exact r_iret dX8_setLimit_59 rfl ⟨_, rfl, h⟩
      · replace h := h.2 c10
        refine r_aload_n 1 dX8_setLimit_60 rfl rfl ?_
        refine r_iload_n 0 dX8_setLimit_61 rfl rfl ?_
        refine r_iload_n 3 dX8_setLimit_62 rfl rfl ?_
        obtain ⟨y12, ey12⟩ : ∃ z : Int, z = (if (s5 67 x1.toNat) = x2 then (s9 56 22) else 0) := ⟨_, rfl⟩
        replace h := h y12 ey12
        have hj13 : MWi l G mX8_setLimit 74 [(3, vI (s5 67 x1.toNat))] [vI y12, vR 56] s9 Q := by
          refine r_putI (j := 22) dX8_setLimit_74 sh_56 rfl kc_8 (by decide) lf_X8_79 rfl (by decide) ?_
          refine r_iload_n 0 dX8_setLimit_77 rfl rfl ?_
          exact r_iret dX8_setLimit_78 rfl ⟨_, rfl, h⟩
        refine r_icmp_eq (tgt := 70) dX8_setLimit_63 (by decide) (fun (c11 : (s5 67 x1.toNat) = x2) => ?_) (fun (c11 : ¬ ((s5 67 x1.toNat) = x2)) => ?_)
        · refine r_aload_n 1 dX8_setLimit_70 rfl rfl ?_
          refine r_getI (j := 22) dX8_setLimit_71 sh_56 rfl kc_8 (by decide) lf_X8_79 ?_
          refine MWF.sub [0] rfl ?_
          have q14 : y12 = (s9 56 22) := by rw [ey12, if_pos c11]
          rw [q14] at hj13
          exact hj13
        · refine r_iconst dX8_setLimit_66 (by decide) ?_
          refine r_goto (tgt := 74) dX8_setLimit_67 (by decide) ?_
          refine MWF.sub [0] rfl ?_
          have q15 : y12 = 0 := by rw [ey12, if_neg c11]
          rw [q15] at hj13
          exact hj13
  · replace h := h.2 c3
    refine r_sipush dX8_setLimit_8 (by decide) (by decide) ?_
    exact r_iret dX8_setLimit_11 rfl ⟨_, rfl, h⟩
set_option maxRecDepth 100000 in
set_option maxHeartbeats 4000000 in
theorem clX8_setLoad (l : Launch) (G : GT) (σ : Sto) (Q : Int → Sto → Prop) (x1 : Int) (x2 : Int)
    (h : CLi l G mX8_noRequest [vR 56, vI x1] σ (fun r1 s2 => (r1 = 0 → CLi l G mX8_in [vI x2, vI 1, vI 8] s2 (fun r4 s5 => (r4 = 0 → Q (-1002) s5) ∧ (¬ (r4 = 0) → (0 ≤ x1 ∧ x1 < 12) ∧ CLi l G mX8_staysFeasible [vR 56, vI x1] (stS s5 66 x1.toNat x2) (fun r8 s9 => (r8 = 0 → Q (-1005) (stS s9 66 x1.toNat (s5 66 x1.toNat))) ∧ (¬ (r8 = 0) → ∀ y12 : Int, y12 = (if (s5 66 x1.toNat) = x2 then (s9 56 22) else 0) → Q (s5 66 x1.toNat) (stS s9 56 22 y12)))))) ∧ (¬ (r1 = 0) → Q (-1001) s2))) :
    CLi l G mX8_setLoad [vR 56, vI x1, vI x2] σ Q := by
  show MWi l G mX8_setLoad 0 [(0, vR 56), (1, vI x1), (2, vI x2)] [] σ Q
  refine r_aload_n 0 dX8_setLoad_0 rfl rfl ?_
  refine r_iload_n 1 dX8_setLoad_1 rfl rfl ?_
  refine r_callV [vI x1] [] dX8_setLoad_2 okX8_noRequest ivX8_noRequest seX8_noRequest lm_X8_120 rfl rfl sh_56 rfl ⟨Nat.le_of_ble_eq_true rfl, Nat.le_of_ble_eq_true rfl, Nat.le_of_ble_eq_true rfl, Nat.le_of_ble_eq_true rfl⟩ h ?_
  rintro _ s2 ⟨r1, rfl, h⟩
  refine r_if_eq (tgt := 12) dX8_setLoad_5 (by decide) (fun (c3 : r1 = 0) => ?_) (fun (c3 : ¬ (r1 = 0)) => ?_)
  · replace h := h.1 c3
    refine r_iload_n 2 dX8_setLoad_12 rfl rfl ?_
    refine r_iconst dX8_setLoad_13 (by decide) ?_
    refine r_bipush dX8_setLoad_14 (by decide) (by decide) ?_
    refine r_callS [vI x2, vI 1, vI 8] [] dX8_setLoad_16 okX8_in ssX8_in lm_X8_65 rfl rfl ⟨Nat.le_of_ble_eq_true rfl, Nat.le_of_ble_eq_true rfl, Nat.le_of_ble_eq_true rfl, Nat.le_of_ble_eq_true rfl⟩ h ?_
    rintro _ s5 ⟨r4, rfl, h⟩
    refine r_if_ne (tgt := 26) dX8_setLoad_19 (by decide) (fun (c6 : r4 = 0) => ?_) (fun (c6 : ¬ (r4 = 0)) => ?_)
    · replace h := h.1 c6
      refine r_sipush dX8_setLoad_22 (by decide) (by decide) ?_
      exact r_iret dX8_setLoad_25 rfl ⟨_, rfl, h⟩
    · replace h := h.2 c6
      refine r_aload_n 0 dX8_setLoad_26 rfl rfl ?_
      refine r_getR (j := 12) dX8_setLoad_27 sh_56 rfl kc_8 (by decide) lf_X8_37 ?_
      refine r_iload_n 1 dX8_setLoad_30 rfl rfl ?_
      obtain ⟨b7, h⟩ := h
      refine r_iald dX8_setLoad_31 sh_66 b7.1 b7.2 ?_
      refine r_istore_n dX8_setLoad_32 rfl (by decide) rfl ?_
      refine r_aload_n 1 dX8_setLoad_33 rfl rfl ?_
      refine r_getR (j := 12) dX8_setLoad_34 sh_56 rfl kc_8 (by decide) lf_X8_37 ?_
      refine r_iload_n 2 dX8_setLoad_37 rfl rfl ?_
      refine r_iload_n 3 dX8_setLoad_38 rfl rfl ?_
      refine r_iast dX8_setLoad_39 sh_66 b7.1 b7.2 ?_
      refine r_aload_n 1 dX8_setLoad_40 rfl rfl ?_
      refine r_iload_n 2 dX8_setLoad_41 rfl rfl ?_
      refine r_callV [vI x1] [] dX8_setLoad_42 okX8_staysFeasible ivX8_staysFeasible seX8_staysFeasible lm_X8_123 rfl rfl sh_56 rfl ⟨Nat.le_of_ble_eq_true rfl, Nat.le_of_ble_eq_true rfl, Nat.le_of_ble_eq_true rfl, Nat.le_of_ble_eq_true rfl⟩ h ?_
      rintro _ s9 ⟨r8, rfl, h⟩
      refine r_if_ne (tgt := 59) dX8_setLoad_45 (by decide) (fun (c10 : r8 = 0) => ?_) (fun (c10 : ¬ (r8 = 0)) => ?_)
      · replace h := h.1 c10
        refine r_aload_n 1 dX8_setLoad_48 rfl rfl ?_
        refine r_getR (j := 12) dX8_setLoad_49 sh_56 rfl kc_8 (by decide) lf_X8_37 ?_
        refine r_iload_n 2 dX8_setLoad_52 rfl rfl ?_
        refine r_iload_n 0 dX8_setLoad_53 rfl rfl ?_
        refine r_iast dX8_setLoad_54 sh_66 b7.1 b7.2 ?_
        refine r_sipush dX8_setLoad_55 (by decide) (by decide) ?_
        exact r_iret dX8_setLoad_58 rfl ⟨_, rfl, h⟩
      · replace h := h.2 c10
        refine r_aload_n 1 dX8_setLoad_59 rfl rfl ?_
        refine r_iload_n 0 dX8_setLoad_60 rfl rfl ?_
        refine r_iload_n 3 dX8_setLoad_61 rfl rfl ?_
        obtain ⟨y12, ey12⟩ : ∃ z : Int, z = (if (s5 66 x1.toNat) = x2 then (s9 56 22) else 0) := ⟨_, rfl⟩
        replace h := h y12 ey12
        have hj13 : MWi l G mX8_setLoad 73 [(3, vI (s5 66 x1.toNat))] [vI y12, vR 56] s9 Q := by
          refine r_putI (j := 22) dX8_setLoad_73 sh_56 rfl kc_8 (by decide) lf_X8_79 rfl (by decide) ?_
          refine r_iload_n 0 dX8_setLoad_76 rfl rfl ?_
          exact r_iret dX8_setLoad_77 rfl ⟨_, rfl, h⟩
        refine r_icmp_eq (tgt := 69) dX8_setLoad_62 (by decide) (fun (c11 : (s5 66 x1.toNat) = x2) => ?_) (fun (c11 : ¬ ((s5 66 x1.toNat) = x2)) => ?_)
        · refine r_aload_n 1 dX8_setLoad_69 rfl rfl ?_
          refine r_getI (j := 22) dX8_setLoad_70 sh_56 rfl kc_8 (by decide) lf_X8_79 ?_
          refine MWF.sub [0] rfl ?_
          have q14 : y12 = (s9 56 22) := by rw [ey12, if_pos c11]
          rw [q14] at hj13
          exact hj13
        · refine r_iconst dX8_setLoad_65 (by decide) ?_
          refine r_goto (tgt := 73) dX8_setLoad_66 (by decide) ?_
          refine MWF.sub [0] rfl ?_
          have q15 : y12 = 0 := by rw [ey12, if_neg c11]
          rw [q15] at hj13
          exact hj13
  · replace h := h.2 c3
    refine r_sipush dX8_setLoad_8 (by decide) (by decide) ?_
    exact r_iret dX8_setLoad_11 rfl ⟨_, rfl, h⟩
set_option maxRecDepth 100000 in
set_option maxHeartbeats 4000000 in
theorem clX8_setService (l : Launch) (G : GT) (σ : Sto) (Q : Int → Sto → Prop) (x1 : Int)
    (h : CLi l G mX8_in [vI x1, vI 0, vI 10] σ (fun r1 s2 => (r1 = 0 → Q (-1002) s2) ∧ (¬ (r1 = 0) → MWi l G mX8_setService 26 [(0, vR 56), (1, vI x1), (2, vI (s2 56 0)), (3, vI 0)] [] (stS s2 56 0 x1) Q))) :
    CLi l G mX8_setService [vR 56, vI x1] σ Q := by
  show MWi l G mX8_setService 0 [(0, vR 56), (1, vI x1)] [] σ Q
  refine r_iload_n 1 dX8_setService_0 rfl rfl ?_
  refine r_iconst dX8_setService_1 (by decide) ?_
  refine r_bipush dX8_setService_2 (by decide) (by decide) ?_
  refine r_callS [vI x1, vI 0, vI 10] [] dX8_setService_4 okX8_in ssX8_in lm_X8_65 rfl rfl ⟨Nat.le_of_ble_eq_true rfl, Nat.le_of_ble_eq_true rfl, Nat.le_of_ble_eq_true rfl, Nat.le_of_ble_eq_true rfl⟩ h ?_
  rintro _ s2 ⟨r1, rfl, h⟩
  refine r_if_ne (tgt := 14) dX8_setService_7 (by decide) (fun (c3 : r1 = 0) => ?_) (fun (c3 : ¬ (r1 = 0)) => ?_)
  · replace h := h.1 c3
    refine r_sipush dX8_setService_10 (by decide) (by decide) ?_
    exact r_iret dX8_setService_13 rfl ⟨_, rfl, h⟩
  · replace h := h.2 c3
    refine r_aload_n 0 dX8_setService_14 rfl rfl ?_
    refine r_getI (j := 0) dX8_setService_15 sh_56 rfl kc_8 (by decide) lf_X8_61 ?_
    refine r_istore_n dX8_setService_18 rfl (by decide) rfl ?_
    refine r_aload_n 1 dX8_setService_19 rfl rfl ?_
    refine r_iload_n 2 dX8_setService_20 rfl rfl ?_
    refine r_putI (j := 0) dX8_setService_21 sh_56 rfl kc_8 (by decide) lf_X8_61 rfl (by decide) ?_
    refine r_iconst dX8_setService_24 (by decide) ?_
    refine r_istore_n dX8_setService_25 rfl (by decide) rfl ?_
    refine MWF.sub [2, 3, 1, 0] rfl ?_
    exact h
set_option maxRecDepth 100000 in
set_option maxHeartbeats 4000000 in
theorem vcX8_setService_26 (l : Launch) (G : GT) (σ : Sto) (Q : Int → Sto → Prop) (x1 : Int) (x2 : Int) (x3 : Int)
    (h : ((σ 56 1) ≤ x3 → ∀ y6 : Int, y6 = (if x2 = x1 then (σ 56 22) else 0) → Q x2 (stS σ 56 22 y6)) ∧ (¬ ((σ 56 1) ≤ x3) → CLi l G mX8_isRowFeasible [vR 56, vI x3] σ (fun r10 s11 => (r10 = 0 → Q (-1005) (stS s11 56 0 x2)) ∧ (¬ (r10 = 0) → (-2147483648 ≤ x3 + 1 ∧ x3 + 1 ≤ 2147483647) ∧ MWi l G mX8_setService 26 [(0, vR 56), (1, vI x1), (2, vI x2), (3, vI (x3 + 1))] [] s11 Q)))) :
    MWi l G mX8_setService 26 [(0, vR 56), (1, vI x1), (2, vI x2), (3, vI x3)] [] σ Q := by
  refine r_iload_n 3 dX8_setService_26 rfl rfl ?_
  refine r_aload_n 0 dX8_setService_27 rfl rfl ?_
  refine r_getI (j := 1) dX8_setService_28 sh_56 rfl kc_8 (by decide) lf_X8_69 ?_
  refine r_icmp_ge (tgt := 57) dX8_setService_31 (by decide) (fun (c4 : (σ 56 1) ≤ x3) => ?_) (fun (c4 : ¬ ((σ 56 1) ≤ x3)) => ?_)
  · replace h := h.1 c4
    refine r_aload_n 0 dX8_setService_57 rfl rfl ?_
    refine r_iload_n 2 dX8_setService_58 rfl rfl ?_
    refine r_iload_n 1 dX8_setService_59 rfl rfl ?_
    obtain ⟨y6, ey6⟩ : ∃ z : Int, z = (if x2 = x1 then (σ 56 22) else 0) := ⟨_, rfl⟩
    replace h := h y6 ey6
    have hj7 : MWi l G mX8_setService 71 [(2, vI x2)] [vI y6, vR 56] σ Q := by
      refine r_putI (j := 22) dX8_setService_71 sh_56 rfl kc_8 (by decide) lf_X8_79 rfl (by decide) ?_
      refine r_iload_n 0 dX8_setService_74 rfl rfl ?_
      exact r_iret dX8_setService_75 rfl ⟨_, rfl, h⟩
    refine r_icmp_eq (tgt := 67) dX8_setService_60 (by decide) (fun (c5 : x2 = x1) => ?_) (fun (c5 : ¬ (x2 = x1)) => ?_)
    · refine r_aload_n 0 dX8_setService_67 rfl rfl ?_
      refine r_getI (j := 22) dX8_setService_68 sh_56 rfl kc_8 (by decide) lf_X8_79 ?_
      refine MWF.sub [2] rfl ?_
      have q8 : y6 = (σ 56 22) := by rw [ey6, if_pos c5]
      rw [q8] at hj7
      exact hj7
    · refine r_iconst dX8_setService_63 (by decide) ?_
      refine r_goto (tgt := 71) dX8_setService_64 (by decide) ?_
      refine MWF.sub [2] rfl ?_
      have q9 : y6 = 0 := by rw [ey6, if_neg c5]
      rw [q9] at hj7
      exact hj7
  · replace h := h.2 c4
    refine r_aload_n 0 dX8_setService_34 rfl rfl ?_
    refine r_iload_n 3 dX8_setService_35 rfl rfl ?_
    refine r_callV [vI x3] [] dX8_setService_36 okX8_isRowFeasible ivX8_isRowFeasible seX8_isRowFeasible lm_X8_117 rfl rfl sh_56 rfl ⟨Nat.le_of_ble_eq_true rfl, Nat.le_of_ble_eq_true rfl, Nat.le_of_ble_eq_true rfl, Nat.le_of_ble_eq_true rfl⟩ h ?_
    rintro _ s11 ⟨r10, rfl, h⟩
    refine r_if_ne (tgt := 51) dX8_setService_39 (by decide) (fun (c12 : r10 = 0) => ?_) (fun (c12 : ¬ (r10 = 0)) => ?_)
    · replace h := h.1 c12
      refine r_aload_n 0 dX8_setService_42 rfl rfl ?_
      refine r_iload_n 2 dX8_setService_43 rfl rfl ?_
      refine r_putI (j := 0) dX8_setService_44 sh_56 rfl kc_8 (by decide) lf_X8_61 rfl (by decide) ?_
      refine r_sipush dX8_setService_47 (by decide) (by decide) ?_
      exact r_iret dX8_setService_50 rfl ⟨_, rfl, h⟩
    · replace h := h.2 c12
      obtain ⟨b13, h⟩ := h
      refine r_iinc 3 dX8_setService_51 rfl (by decide) b13 rfl ?_
      refine r_goto (tgt := 26) dX8_setService_54 (by decide) ?_
      refine MWF.sub [1, 2, 3, 0] rfl ?_
      exact h
set_option maxRecDepth 100000 in
set_option maxHeartbeats 4000000 in
theorem clX8_total (l : Launch) (G : GT) (σ : Sto) (Q : Int → Sto → Prop) 
    (h : MWi l G mX8_total 4 [(0, vR 56), (1, vI 0), (2, vI 0)] [] σ Q) :
    CLi l G mX8_total [vR 56] σ Q := by
  show MWi l G mX8_total 0 [(0, vR 56)] [] σ Q
  refine r_iconst dX8_total_0 (by decide) ?_
  refine r_istore_n dX8_total_1 rfl (by decide) rfl ?_
  refine r_iconst dX8_total_2 (by decide) ?_
  refine r_istore_n dX8_total_3 rfl (by decide) rfl ?_
  refine MWF.sub [2, 1, 0] rfl ?_
  exact h
set_option maxRecDepth 100000 in
set_option maxHeartbeats 4000000 in
theorem vcX8_total_4 (l : Launch) (G : GT) (σ : Sto) (Q : Int → Sto → Prop) (x1 : Int) (x2 : Int)
    (h : ((σ 56 1) ≤ x2 → Q x1 σ) ∧ (¬ ((σ 56 1) ≤ x2) → CLv l G mX8_take [vR 56, vI x2] σ (fun s3 => CLi l G mX8_length [vR 56, vI x2] s3 (fun r4 s5 => (-2147483648 ≤ x1 + r4 ∧ x1 + r4 ≤ 2147483647) ∧ (-2147483648 ≤ x2 + 1 ∧ x2 + 1 ≤ 2147483647) ∧ MWi l G mX8_total 4 [(0, vR 56), (1, vI (x1 + r4)), (2, vI (x2 + 1))] [] s5 Q)))) :
    MWi l G mX8_total 4 [(0, vR 56), (1, vI x1), (2, vI x2)] [] σ Q := by
  refine r_iload_n 2 dX8_total_4 rfl rfl ?_
  refine r_aload_n 0 dX8_total_5 rfl rfl ?_
  refine r_getI (j := 1) dX8_total_6 sh_56 rfl kc_8 (by decide) lf_X8_69 ?_
  refine r_icmp_ge (tgt := 31) dX8_total_9 (by decide) (fun (c1 : (σ 56 1) ≤ x2) => ?_) (fun (c1 : ¬ ((σ 56 1) ≤ x2)) => ?_)
  · replace h := h.1 c1
    refine r_iload_n 1 dX8_total_31 rfl rfl ?_
    exact r_iret dX8_total_32 rfl ⟨_, rfl, h⟩
  · replace h := h.2 c1
    refine r_aload_n 0 dX8_total_12 rfl rfl ?_
    refine r_iload_n 2 dX8_total_13 rfl rfl ?_
    refine r_callV [vI x2] [] dX8_total_14 okX8_take ivX8_take seX8_take lm_X8_107 rfl rfl sh_56 rfl ⟨Nat.le_of_ble_eq_true rfl, Nat.le_of_ble_eq_true rfl, Nat.le_of_ble_eq_true rfl, Nat.le_of_ble_eq_true rfl⟩ h ?_
    rintro _ s3 ⟨rfl, h⟩
    refine r_iload_n 1 dX8_total_17 rfl rfl ?_
    refine r_aload_n 0 dX8_total_18 rfl rfl ?_
    refine r_iload_n 2 dX8_total_19 rfl rfl ?_
    refine r_callV [vI x2] [vI x1] dX8_total_20 okX8_length ivX8_length seX8_length lm_X8_126 rfl rfl sh_56 rfl ⟨Nat.le_of_ble_eq_true rfl, Nat.le_of_ble_eq_true rfl, Nat.le_of_ble_eq_true rfl, Nat.le_of_ble_eq_true rfl⟩ h ?_
    rintro _ s5 ⟨r4, rfl, h⟩
    obtain ⟨b6, h⟩ := h
    refine r_iadd dX8_total_23 b6 ?_
    refine r_istore_n dX8_total_24 rfl (by decide) rfl ?_
    obtain ⟨b7, h⟩ := h
    refine r_iinc 2 dX8_total_25 rfl (by decide) b7 rfl ?_
    refine r_goto (tgt := 4) dX8_total_28 (by decide) ?_
    refine MWF.sub [2, 1, 0] rfl ?_
    exact h
set_option maxRecDepth 100000 in
set_option maxHeartbeats 4000000 in
theorem clX8_count (l : Launch) (G : GT) (σ : Sto) (Q : Int → Sto → Prop) (x1 : Int)
    (h : MWi l G mX8_count 4 [(0, vR 56), (1, vI x1), (2, vI 0), (3, vI 0)] [] σ Q) :
    CLi l G mX8_count [vR 56, vI x1] σ Q := by
  show MWi l G mX8_count 0 [(0, vR 56), (1, vI x1)] [] σ Q
  refine r_iconst dX8_count_0 (by decide) ?_
  refine r_istore_n dX8_count_1 rfl (by decide) rfl ?_
  refine r_iconst dX8_count_2 (by decide) ?_
  refine r_istore_n dX8_count_3 rfl (by decide) rfl ?_
  refine MWF.sub [2, 3, 1, 0] rfl ?_
  exact h
set_option maxRecDepth 100000 in
set_option maxHeartbeats 4000000 in
theorem vcX8_count_4 (l : Launch) (G : GT) (σ : Sto) (Q : Int → Sto → Prop) (x1 : Int) (x2 : Int) (x3 : Int)
    (h : ((σ 56 7) ≤ x3 → (x1 = 0 → Q (σ 56 1) σ) ∧ (x1 = 1 → Q (σ 56 7) σ) ∧ (x1 = 2 → Q x2 σ) ∧ (x1 = 3 → CLi l G mX8_total [vR 56] σ (fun r6 s7 => Q r6 s7)) ∧ (x1 = 4 → Q (σ 56 0) σ) ∧ (x1 = 5 → Q (σ 56 22) σ) ∧ (x1 < 0 ∨ 5 < x1 → Q (-1002) σ)) ∧ (¬ ((σ 56 7) ≤ x3) → CLi l G mX8_vehicleOf [vR 56, vI x3] σ (fun r11 s12 => ∀ y14 : Int, y14 = (if 0 ≤ r11 then 0 else 1) → (-2147483648 ≤ x2 + y14 ∧ x2 + y14 ≤ 2147483647) ∧ (-2147483648 ≤ x3 + 1 ∧ x3 + 1 ≤ 2147483647) ∧ MWi l G mX8_count 4 [(0, vR 56), (1, vI x1), (2, vI (x2 + y14)), (3, vI (x3 + 1))] [] s12 Q))) :
    MWi l G mX8_count 4 [(0, vR 56), (1, vI x1), (2, vI x2), (3, vI x3)] [] σ Q := by
  refine r_iload_n 3 dX8_count_4 rfl rfl ?_
  refine r_aload_n 0 dX8_count_5 rfl rfl ?_
  refine r_getI (j := 7) dX8_count_6 sh_56 rfl kc_8 (by decide) lf_X8_72 ?_
  refine r_icmp_ge (tgt := 34) dX8_count_9 (by decide) (fun (c1 : (σ 56 7) ≤ x3) => ?_) (fun (c1 : ¬ ((σ 56 7) ≤ x3)) => ?_)
  · replace h := h.1 c1
    refine r_iload_n 1 dX8_count_34 rfl rfl ?_
    by_cases c2 : x1 = 0
    · replace h := h.1 c2
      refine r_tableIn (tgt := 72) dX8_count_35 (by omega) (by omega) (by rw [c2]; rfl) (by decide) ?_
      refine r_aload_n 0 dX8_count_72 rfl rfl ?_
      refine r_getI (j := 1) dX8_count_73 sh_56 rfl kc_8 (by decide) lf_X8_69 ?_
      exact r_iret dX8_count_76 rfl ⟨_, rfl, h⟩
    replace h := h.2
    by_cases c3 : x1 = 1
    · replace h := h.1 c3
      refine r_tableIn (tgt := 77) dX8_count_35 (by omega) (by omega) (by rw [c3]; rfl) (by decide) ?_
      refine r_aload_n 0 dX8_count_77 rfl rfl ?_
      refine r_getI (j := 7) dX8_count_78 sh_56 rfl kc_8 (by decide) lf_X8_72 ?_
      exact r_iret dX8_count_81 rfl ⟨_, rfl, h⟩
    replace h := h.2
    by_cases c4 : x1 = 2
    · replace h := h.1 c4
      refine r_tableIn (tgt := 82) dX8_count_35 (by omega) (by omega) (by rw [c4]; rfl) (by decide) ?_
      refine r_iload_n 2 dX8_count_82 rfl rfl ?_
      exact r_iret dX8_count_83 rfl ⟨_, rfl, h⟩
    replace h := h.2
    by_cases c5 : x1 = 3
    · replace h := h.1 c5
      refine r_tableIn (tgt := 84) dX8_count_35 (by omega) (by omega) (by rw [c5]; rfl) (by decide) ?_
      refine r_aload_n 0 dX8_count_84 rfl rfl ?_
      refine r_callV [] [] dX8_count_85 okX8_total ivX8_total seX8_total lm_X8_129 rfl rfl sh_56 rfl ⟨Nat.le_of_ble_eq_true rfl, Nat.le_of_ble_eq_true rfl, Nat.le_of_ble_eq_true rfl, Nat.le_of_ble_eq_true rfl⟩ h ?_
      rintro _ s7 ⟨r6, rfl, h⟩
      exact r_iret dX8_count_88 rfl ⟨_, rfl, h⟩
    replace h := h.2
    by_cases c8 : x1 = 4
    · replace h := h.1 c8
      refine r_tableIn (tgt := 89) dX8_count_35 (by omega) (by omega) (by rw [c8]; rfl) (by decide) ?_
      refine r_aload_n 0 dX8_count_89 rfl rfl ?_
      refine r_getI (j := 0) dX8_count_90 sh_56 rfl kc_8 (by decide) lf_X8_61 ?_
      exact r_iret dX8_count_93 rfl ⟨_, rfl, h⟩
    replace h := h.2
    by_cases c9 : x1 = 5
    · replace h := h.1 c9
      refine r_tableIn (tgt := 94) dX8_count_35 (by omega) (by omega) (by rw [c9]; rfl) (by decide) ?_
      refine r_aload_n 0 dX8_count_94 rfl rfl ?_
      refine r_getI (j := 22) dX8_count_95 sh_56 rfl kc_8 (by decide) lf_X8_79 ?_
      exact r_iret dX8_count_98 rfl ⟨_, rfl, h⟩
    replace h := h.2
    have o10 : x1 < 0 ∨ 5 < x1 := by omega
    replace h := h o10
    refine r_tableOut (tgt := 99) dX8_count_35 o10 (by decide) ?_
    refine r_sipush dX8_count_99 (by decide) (by decide) ?_
    exact r_iret dX8_count_102 rfl ⟨_, rfl, h⟩
  · replace h := h.2 c1
    refine r_iload_n 2 dX8_count_12 rfl rfl ?_
    refine r_aload_n 0 dX8_count_13 rfl rfl ?_
    refine r_iload_n 3 dX8_count_14 rfl rfl ?_
    refine r_callV [vI x3] [vI x2] dX8_count_15 okX8_vehicleOf ivX8_vehicleOf seX8_vehicleOf lm_X8_114 rfl rfl sh_56 rfl ⟨Nat.le_of_ble_eq_true rfl, Nat.le_of_ble_eq_true rfl, Nat.le_of_ble_eq_true rfl, Nat.le_of_ble_eq_true rfl⟩ h ?_
    rintro _ s12 ⟨r11, rfl, h⟩
    obtain ⟨y14, ey14⟩ : ∃ z : Int, z = (if 0 ≤ r11 then 0 else 1) := ⟨_, rfl⟩
    replace h := h y14 ey14
    have hj15 : MWi l G mX8_count 26 [(0, vR 56), (1, vI x1), (3, vI x3)] [vI y14, vI x2] s12 Q := by
      obtain ⟨b18, h⟩ := h
      refine r_iadd dX8_count_26 b18 ?_
      refine r_istore_n dX8_count_27 rfl (by decide) rfl ?_
      obtain ⟨b19, h⟩ := h
      refine r_iinc 3 dX8_count_28 rfl (by decide) b19 rfl ?_
      refine r_goto (tgt := 4) dX8_count_31 (by decide) ?_
      refine MWF.sub [2, 3, 1, 0] rfl ?_
      exact h
    refine r_if_ge (tgt := 25) dX8_count_18 (by decide) (fun (c13 : 0 ≤ r11) => ?_) (fun (c13 : ¬ (0 ≤ r11)) => ?_)
    · refine r_iconst dX8_count_25 (by decide) ?_
      refine MWF.sub [0, 1, 3] rfl ?_
      have q16 : y14 = 0 := by rw [ey14, if_pos c13]
      rw [q16] at hj15
      exact hj15
    · refine r_iconst dX8_count_21 (by decide) ?_
      refine r_goto (tgt := 26) dX8_count_22 (by decide) ?_
      refine MWF.sub [0, 1, 3] rfl ?_
      have q17 : y14 = 1 := by rw [ey14, if_neg c13]
      rw [q17] at hj15
      exact hj15
set_option maxRecDepth 100000 in
set_option maxHeartbeats 4000000 in
theorem clX8_request (l : Launch) (G : GT) (σ : Sto) (Q : Int → Sto → Prop) (x1 : Int) (x2 : Int)
    (h : CLi l G mX8_noRequest [vR 56, vI x1] σ (fun r1 s2 => (r1 = 0 → (x2 = 0 → CLi l G mX8_vehicleOf [vR 56, vI x1] s2 (fun r5 s6 => (0 ≤ r5 → CLi l G mX8_vehicleOf [vR 56, vI x1] s6 (fun r8 s9 => Q r8 s9)) ∧ (¬ (0 ≤ r5) → Q (-1007) s6))) ∧ (x2 = 1 → (0 ≤ x1 ∧ x1 < 12) ∧ Q (s2 66 x1.toNat) s2) ∧ (x2 = 2 → (0 ≤ x1 ∧ x1 < 12) ∧ Q (s2 67 x1.toNat) s2) ∧ (x2 = 3 → (-2147483648 ≤ 2 * x1 ∧ 2 * x1 ≤ 2147483647) ∧ (0 ≤ (2 * x1) ∧ (2 * x1) < 24) ∧ Q (s2 64 (2 * x1).toNat) s2) ∧ (x2 = 4 → (-2147483648 ≤ 2 * x1 ∧ 2 * x1 ≤ 2147483647) ∧ (0 ≤ (2 * x1) ∧ (2 * x1) < 24) ∧ Q (s2 65 (2 * x1).toNat) s2) ∧ (x2 = 5 → (-2147483648 ≤ 2 * x1 ∧ 2 * x1 ≤ 2147483647) ∧ (-2147483648 ≤ (2 * x1) + 1 ∧ (2 * x1) + 1 ≤ 2147483647) ∧ (0 ≤ ((2 * x1) + 1) ∧ ((2 * x1) + 1) < 24) ∧ Q (s2 64 ((2 * x1) + 1).toNat) s2) ∧ (x2 = 6 → (-2147483648 ≤ 2 * x1 ∧ 2 * x1 ≤ 2147483647) ∧ (-2147483648 ≤ (2 * x1) + 1 ∧ (2 * x1) + 1 ≤ 2147483647) ∧ (0 ≤ ((2 * x1) + 1) ∧ ((2 * x1) + 1) < 24) ∧ Q (s2 65 ((2 * x1) + 1).toNat) s2) ∧ (x2 = 7 → (-2147483648 ≤ 2 * x1 ∧ 2 * x1 ≤ 2147483647) ∧ (-2147483648 ≤ (2 * x1) + 1 ∧ (2 * x1) + 1 ≤ 2147483647) ∧ CLi l G mX8_between [vR 56, vI (2 * x1), vI ((2 * x1) + 1)] s2 (fun r31 s32 => Q r31 s32)) ∧ (x2 < 0 ∨ 7 < x2 → Q (-1002) s2)) ∧ (¬ (r1 = 0) → Q (-1001) s2))) :
    CLi l G mX8_request [vR 56, vI x1, vI x2] σ Q := by
  show MWi l G mX8_request 0 [(0, vR 56), (1, vI x1), (2, vI x2)] [] σ Q
  refine r_aload_n 0 dX8_request_0 rfl rfl ?_
  refine r_iload_n 1 dX8_request_1 rfl rfl ?_
  refine r_callV [vI x1] [] dX8_request_2 okX8_noRequest ivX8_noRequest seX8_noRequest lm_X8_120 rfl rfl sh_56 rfl ⟨Nat.le_of_ble_eq_true rfl, Nat.le_of_ble_eq_true rfl, Nat.le_of_ble_eq_true rfl, Nat.le_of_ble_eq_true rfl⟩ h ?_
  rintro _ s2 ⟨r1, rfl, h⟩
  refine r_if_eq (tgt := 12) dX8_request_5 (by decide) (fun (c3 : r1 = 0) => ?_) (fun (c3 : ¬ (r1 = 0)) => ?_)
  · replace h := h.1 c3
    refine r_iload_n 2 dX8_request_12 rfl rfl ?_
    by_cases c4 : x2 = 0
    · replace h := h.1 c4
      refine r_tableIn (tgt := 60) dX8_request_13 (by omega) (by omega) (by rw [c4]; rfl) (by decide) ?_
      refine r_aload_n 0 dX8_request_60 rfl rfl ?_
      refine r_iload_n 1 dX8_request_61 rfl rfl ?_
      refine r_callV [vI x1] [] dX8_request_62 okX8_vehicleOf ivX8_vehicleOf seX8_vehicleOf lm_X8_114 rfl rfl sh_56 rfl ⟨Nat.le_of_ble_eq_true rfl, Nat.le_of_ble_eq_true rfl, Nat.le_of_ble_eq_true rfl, Nat.le_of_ble_eq_true rfl⟩ h ?_
      rintro _ s6 ⟨r5, rfl, h⟩
      refine r_if_ge (tgt := 74) dX8_request_65 (by decide) (fun (c7 : 0 ≤ r5) => ?_) (fun (c7 : ¬ (0 ≤ r5)) => ?_)
      · replace h := h.1 c7
        refine r_aload_n 0 dX8_request_74 rfl rfl ?_
        refine r_iload_n 1 dX8_request_75 rfl rfl ?_
        refine r_callV [vI x1] [] dX8_request_76 okX8_vehicleOf ivX8_vehicleOf seX8_vehicleOf lm_X8_114 rfl rfl sh_56 rfl ⟨Nat.le_of_ble_eq_true rfl, Nat.le_of_ble_eq_true rfl, Nat.le_of_ble_eq_true rfl, Nat.le_of_ble_eq_true rfl⟩ h ?_
        rintro _ s9 ⟨r8, rfl, h⟩
        exact r_iret dX8_request_79 rfl ⟨_, rfl, h⟩
      · replace h := h.2 c7
        refine r_sipush dX8_request_68 (by decide) (by decide) ?_
        refine r_goto (tgt := 79) dX8_request_71 (by decide) ?_
        exact r_iret dX8_request_79 rfl ⟨_, rfl, h⟩
    replace h := h.2
    by_cases c10 : x2 = 1
    · replace h := h.1 c10
      refine r_tableIn (tgt := 80) dX8_request_13 (by omega) (by omega) (by rw [c10]; rfl) (by decide) ?_
      refine r_aload_n 0 dX8_request_80 rfl rfl ?_
      refine r_getR (j := 12) dX8_request_81 sh_56 rfl kc_8 (by decide) lf_X8_37 ?_
      refine r_iload_n 1 dX8_request_84 rfl rfl ?_
      obtain ⟨b11, h⟩ := h
      refine r_iald dX8_request_85 sh_66 b11.1 b11.2 ?_
      exact r_iret dX8_request_86 rfl ⟨_, rfl, h⟩
    replace h := h.2
    by_cases c12 : x2 = 2
    · replace h := h.1 c12
      refine r_tableIn (tgt := 87) dX8_request_13 (by omega) (by omega) (by rw [c12]; rfl) (by decide) ?_
      refine r_aload_n 0 dX8_request_87 rfl rfl ?_
      refine r_getR (j := 13) dX8_request_88 sh_56 rfl kc_8 (by decide) lf_X8_40 ?_
      refine r_iload_n 1 dX8_request_91 rfl rfl ?_
      obtain ⟨b13, h⟩ := h
      refine r_iald dX8_request_92 sh_67 b13.1 b13.2 ?_
      exact r_iret dX8_request_93 rfl ⟨_, rfl, h⟩
    replace h := h.2
    by_cases c14 : x2 = 3
    · replace h := h.1 c14
      refine r_tableIn (tgt := 94) dX8_request_13 (by omega) (by omega) (by rw [c14]; rfl) (by decide) ?_
      refine r_aload_n 0 dX8_request_94 rfl rfl ?_
      refine r_getR (j := 10) dX8_request_95 sh_56 rfl kc_8 (by decide) lf_X8_31 ?_
      refine r_iconst dX8_request_98 (by decide) ?_
      refine r_iload_n 1 dX8_request_99 rfl rfl ?_
      obtain ⟨b15, h⟩ := h
      refine r_imul dX8_request_100 b15 ?_
      obtain ⟨b16, h⟩ := h
      refine r_iald dX8_request_101 sh_64 b16.1 b16.2 ?_
      exact r_iret dX8_request_102 rfl ⟨_, rfl, h⟩
    replace h := h.2
    by_cases c17 : x2 = 4
    · replace h := h.1 c17
      refine r_tableIn (tgt := 103) dX8_request_13 (by omega) (by omega) (by rw [c17]; rfl) (by decide) ?_
      refine r_aload_n 0 dX8_request_103 rfl rfl ?_
      refine r_getR (j := 11) dX8_request_104 sh_56 rfl kc_8 (by decide) lf_X8_34 ?_
      refine r_iconst dX8_request_107 (by decide) ?_
      refine r_iload_n 1 dX8_request_108 rfl rfl ?_
      obtain ⟨b18, h⟩ := h
      refine r_imul dX8_request_109 b18 ?_
      obtain ⟨b19, h⟩ := h
      refine r_iald dX8_request_110 sh_65 b19.1 b19.2 ?_
      exact r_iret dX8_request_111 rfl ⟨_, rfl, h⟩
    replace h := h.2
    by_cases c20 : x2 = 5
    · replace h := h.1 c20
      refine r_tableIn (tgt := 112) dX8_request_13 (by omega) (by omega) (by rw [c20]; rfl) (by decide) ?_
      refine r_aload_n 0 dX8_request_112 rfl rfl ?_
      refine r_getR (j := 10) dX8_request_113 sh_56 rfl kc_8 (by decide) lf_X8_31 ?_
      refine r_iconst dX8_request_116 (by decide) ?_
      refine r_iload_n 1 dX8_request_117 rfl rfl ?_
      obtain ⟨b21, h⟩ := h
      refine r_imul dX8_request_118 b21 ?_
      refine r_iconst dX8_request_119 (by decide) ?_
      obtain ⟨b22, h⟩ := h
      refine r_iadd dX8_request_120 b22 ?_
      obtain ⟨b23, h⟩ := h
      refine r_iald dX8_request_121 sh_64 b23.1 b23.2 ?_
      exact r_iret dX8_request_122 rfl ⟨_, rfl, h⟩
    replace h := h.2
    by_cases c24 : x2 = 6
    · replace h := h.1 c24
      refine r_tableIn (tgt := 123) dX8_request_13 (by omega) (by omega) (by rw [c24]; rfl) (by decide) ?_
      refine r_aload_n 0 dX8_request_123 rfl rfl ?_
      refine r_getR (j := 11) dX8_request_124 sh_56 rfl kc_8 (by decide) lf_X8_34 ?_
      refine r_iconst dX8_request_127 (by decide) ?_
      refine r_iload_n 1 dX8_request_128 rfl rfl ?_
      obtain ⟨b25, h⟩ := h
      refine r_imul dX8_request_129 b25 ?_
      refine r_iconst dX8_request_130 (by decide) ?_
      obtain ⟨b26, h⟩ := h
      refine r_iadd dX8_request_131 b26 ?_
      obtain ⟨b27, h⟩ := h
      refine r_iald dX8_request_132 sh_65 b27.1 b27.2 ?_
      exact r_iret dX8_request_133 rfl ⟨_, rfl, h⟩
    replace h := h.2
    by_cases c28 : x2 = 7
    · replace h := h.1 c28
      refine r_tableIn (tgt := 134) dX8_request_13 (by omega) (by omega) (by rw [c28]; rfl) (by decide) ?_
      refine r_aload_n 0 dX8_request_134 rfl rfl ?_
      refine r_iconst dX8_request_135 (by decide) ?_
      refine r_iload_n 1 dX8_request_136 rfl rfl ?_
      obtain ⟨b29, h⟩ := h
      refine r_imul dX8_request_137 b29 ?_
      refine r_iconst dX8_request_138 (by decide) ?_
      refine r_iload_n 1 dX8_request_139 rfl rfl ?_
      refine r_imul dX8_request_140 b29 ?_
      refine r_iconst dX8_request_141 (by decide) ?_
      obtain ⟨b30, h⟩ := h
      refine r_iadd dX8_request_142 b30 ?_
      refine r_callV [vI (2 * x1), vI ((2 * x1) + 1)] [] dX8_request_143 okX8_between ivX8_between seX8_between lm_X8_93 rfl rfl sh_56 rfl ⟨Nat.le_of_ble_eq_true rfl, Nat.le_of_ble_eq_true rfl, Nat.le_of_ble_eq_true rfl, Nat.le_of_ble_eq_true rfl⟩ h ?_
      rintro _ s32 ⟨r31, rfl, h⟩
      exact r_iret dX8_request_146 rfl ⟨_, rfl, h⟩
    replace h := h.2
    have o33 : x2 < 0 ∨ 7 < x2 := by omega
    replace h := h o33
    refine r_tableOut (tgt := 147) dX8_request_13 o33 (by decide) ?_
    refine r_sipush dX8_request_147 (by decide) (by decide) ?_
    exact r_iret dX8_request_150 rfl ⟨_, rfl, h⟩
  · replace h := h.2 c3
    refine r_sipush dX8_request_8 (by decide) (by decide) ?_
    exact r_iret dX8_request_11 rfl ⟨_, rfl, h⟩
set_option maxRecDepth 100000 in
set_option maxHeartbeats 4000000 in
theorem clX8_vehicle (l : Launch) (G : GT) (σ : Sto) (Q : Int → Sto → Prop) (x1 : Int) (x2 : Int)
    (h : CLi l G mX8_noVehicle [vR 56, vI x1] σ (fun r1 s2 => (r1 = 0 → CLv l G mX8_take [vR 56, vI x1] s2 (fun s5 => MWi l G mX8_vehicle 22 [(0, vR 56), (1, vI x1), (2, vI x2), (3, vI 0), (4, vI 0)] [] s5 Q)) ∧ (¬ (r1 = 0) → Q (-1001) s2))) :
    CLi l G mX8_vehicle [vR 56, vI x1, vI x2] σ Q := by
  show MWi l G mX8_vehicle 0 [(0, vR 56), (1, vI x1), (2, vI x2)] [] σ Q
  refine r_aload_n 0 dX8_vehicle_0 rfl rfl ?_
  refine r_iload_n 1 dX8_vehicle_1 rfl rfl ?_
  refine r_callV [vI x1] [] dX8_vehicle_2 okX8_noVehicle ivX8_noVehicle seX8_noVehicle lm_X8_132 rfl rfl sh_56 rfl ⟨Nat.le_of_ble_eq_true rfl, Nat.le_of_ble_eq_true rfl, Nat.le_of_ble_eq_true rfl, Nat.le_of_ble_eq_true rfl⟩ h ?_
  rintro _ s2 ⟨r1, rfl, h⟩
  refine r_if_eq (tgt := 12) dX8_vehicle_5 (by decide) (fun (c3 : r1 = 0) => ?_) (fun (c3 : ¬ (r1 = 0)) => ?_)
  · replace h := h.1 c3
    refine r_aload_n 0 dX8_vehicle_12 rfl rfl ?_
    refine r_iload_n 1 dX8_vehicle_13 rfl rfl ?_
    refine r_callV [vI x1] [] dX8_vehicle_14 okX8_take ivX8_take seX8_take lm_X8_107 rfl rfl sh_56 rfl ⟨Nat.le_of_ble_eq_true rfl, Nat.le_of_ble_eq_true rfl, Nat.le_of_ble_eq_true rfl, Nat.le_of_ble_eq_true rfl⟩ h ?_
    rintro _ s5 ⟨rfl, h⟩
    refine r_iconst dX8_vehicle_17 (by decide) ?_
    refine r_istore_n dX8_vehicle_18 rfl (by decide) rfl ?_
    refine r_iconst dX8_vehicle_19 (by decide) ?_
    refine r_istore dX8_vehicle_20 (by decide) rfl ?_
    refine MWF.sub [2, 3, 4, 1, 0] rfl ?_
    exact h
  · replace h := h.2 c3
    refine r_sipush dX8_vehicle_8 (by decide) (by decide) ?_
    exact r_iret dX8_vehicle_11 rfl ⟨_, rfl, h⟩
set_option maxRecDepth 100000 in
set_option maxHeartbeats 4000000 in
theorem vcX8_vehicle_22 (l : Launch) (G : GT) (σ : Sto) (Q : Int → Sto → Prop) (x1 : Int) (x2 : Int) (x3 : Int) (x4 : Int)
    (h : ((σ 56 15) ≤ x4 → (x2 = 0 → (0 ≤ x1 ∧ x1 < 4) ∧ Q (σ 59 x1.toNat) σ) ∧ (x2 = 1 → (0 ≤ x1 ∧ x1 < 4) ∧ Q (σ 60 x1.toNat) σ) ∧ (x2 = 2 → (0 ≤ x1 ∧ x1 < 4) ∧ Q (σ 61 x1.toNat) σ) ∧ (x2 = 3 → Q (σ 56 15) σ) ∧ (x2 = 4 → CLi l G mX8_length [vR 56, vI x1] σ (fun r15 s16 => Q r15 s16)) ∧ (x2 = 5 → CLi l G mX8_greatestLoad [vR 56] σ (fun r18 s19 => Q r18 s19)) ∧ (x2 = 6 → Q x3 σ) ∧ (x2 < 0 ∨ 6 < x2 → Q (-1002) σ)) ∧ (¬ ((σ 56 15) ≤ x4) → (0 ≤ x4 ∧ x4 < 26) ∧ (0 ≤ (σ 69 x4.toNat)) ∧ (0 ≤ ((σ 69 x4.toNat) / 2) ∧ ((σ 69 x4.toNat) / 2) < 31) ∧ (0 ≤ x3) ∧ (0 ≤ ((2 ^ ((σ 69 x4.toNat) / 2).toNat : Nat) : Int)) ∧ (-2147483648 ≤ x4 + 1 ∧ x4 + 1 ≤ 2147483647) ∧ MWi l G mX8_vehicle 22 [(0, vR 56), (1, vI x1), (2, vI x2), (3, vI ((x3.toNat ||| ((2 ^ ((σ 69 x4.toNat) / 2).toNat : Nat) : Int).toNat : Nat) : Int)), (4, vI (x4 + 1))] [] σ Q)) :
    MWi l G mX8_vehicle 22 [(0, vR 56), (1, vI x1), (2, vI x2), (3, vI x3), (4, vI x4)] [] σ Q := by
  refine r_iload 4 dX8_vehicle_22 rfl ?_
  refine r_aload_n 0 dX8_vehicle_24 rfl rfl ?_
  refine r_getI (j := 15) dX8_vehicle_25 sh_56 rfl kc_8 (by decide) lf_X8_82 ?_
  refine r_icmp_ge (tgt := 51) dX8_vehicle_28 (by decide) (fun (c6 : (σ 56 15) ≤ x4) => ?_) (fun (c6 : ¬ ((σ 56 15) ≤ x4)) => ?_)
  · replace h := h.1 c6
    refine r_iload_n 2 dX8_vehicle_51 rfl rfl ?_
    by_cases c7 : x2 = 0
    · replace h := h.1 c7
      refine r_tableIn (tgt := 96) dX8_vehicle_52 (by omega) (by omega) (by rw [c7]; rfl) (by decide) ?_
      refine r_aload_n 0 dX8_vehicle_96 rfl rfl ?_
      refine r_getR (j := 4) dX8_vehicle_97 sh_56 rfl kc_8 (by decide) lf_X8_16 ?_
      refine r_iload_n 1 dX8_vehicle_100 rfl rfl ?_
      obtain ⟨b8, h⟩ := h
      refine r_iald dX8_vehicle_101 sh_59 b8.1 b8.2 ?_
      exact r_iret dX8_vehicle_102 rfl ⟨_, rfl, h⟩
    replace h := h.2
    by_cases c9 : x2 = 1
    · replace h := h.1 c9
      refine r_tableIn (tgt := 103) dX8_vehicle_52 (by omega) (by omega) (by rw [c9]; rfl) (by decide) ?_
      refine r_aload_n 0 dX8_vehicle_103 rfl rfl ?_
      refine r_getR (j := 5) dX8_vehicle_104 sh_56 rfl kc_8 (by decide) lf_X8_19 ?_
      refine r_iload_n 1 dX8_vehicle_107 rfl rfl ?_
      obtain ⟨b10, h⟩ := h
      refine r_iald dX8_vehicle_108 sh_60 b10.1 b10.2 ?_
      exact r_iret dX8_vehicle_109 rfl ⟨_, rfl, h⟩
    replace h := h.2
    by_cases c11 : x2 = 2
    · replace h := h.1 c11
      refine r_tableIn (tgt := 110) dX8_vehicle_52 (by omega) (by omega) (by rw [c11]; rfl) (by decide) ?_
      refine r_aload_n 0 dX8_vehicle_110 rfl rfl ?_
      refine r_getR (j := 6) dX8_vehicle_111 sh_56 rfl kc_8 (by decide) lf_X8_22 ?_
      refine r_iload_n 1 dX8_vehicle_114 rfl rfl ?_
      obtain ⟨b12, h⟩ := h
      refine r_iald dX8_vehicle_115 sh_61 b12.1 b12.2 ?_
      exact r_iret dX8_vehicle_116 rfl ⟨_, rfl, h⟩
    replace h := h.2
    by_cases c13 : x2 = 3
    · replace h := h.1 c13
      refine r_tableIn (tgt := 117) dX8_vehicle_52 (by omega) (by omega) (by rw [c13]; rfl) (by decide) ?_
      refine r_aload_n 0 dX8_vehicle_117 rfl rfl ?_
      refine r_getI (j := 15) dX8_vehicle_118 sh_56 rfl kc_8 (by decide) lf_X8_82 ?_
      exact r_iret dX8_vehicle_121 rfl ⟨_, rfl, h⟩
    replace h := h.2
    by_cases c14 : x2 = 4
    · replace h := h.1 c14
      refine r_tableIn (tgt := 122) dX8_vehicle_52 (by omega) (by omega) (by rw [c14]; rfl) (by decide) ?_
      refine r_aload_n 0 dX8_vehicle_122 rfl rfl ?_
      refine r_iload_n 1 dX8_vehicle_123 rfl rfl ?_
      refine r_callV [vI x1] [] dX8_vehicle_124 okX8_length ivX8_length seX8_length lm_X8_126 rfl rfl sh_56 rfl ⟨Nat.le_of_ble_eq_true rfl, Nat.le_of_ble_eq_true rfl, Nat.le_of_ble_eq_true rfl, Nat.le_of_ble_eq_true rfl⟩ h ?_
      rintro _ s16 ⟨r15, rfl, h⟩
      exact r_iret dX8_vehicle_127 rfl ⟨_, rfl, h⟩
    replace h := h.2
    by_cases c17 : x2 = 5
    · replace h := h.1 c17
      refine r_tableIn (tgt := 128) dX8_vehicle_52 (by omega) (by omega) (by rw [c17]; rfl) (by decide) ?_
      refine r_aload_n 0 dX8_vehicle_128 rfl rfl ?_
      refine r_callV [] [] dX8_vehicle_129 okX8_greatestLoad ivX8_greatestLoad seX8_greatestLoad lm_X8_99 rfl rfl sh_56 rfl ⟨Nat.le_of_ble_eq_true rfl, Nat.le_of_ble_eq_true rfl, Nat.le_of_ble_eq_true rfl, Nat.le_of_ble_eq_true rfl⟩ h ?_
      rintro _ s19 ⟨r18, rfl, h⟩
      exact r_iret dX8_vehicle_132 rfl ⟨_, rfl, h⟩
    replace h := h.2
    by_cases c20 : x2 = 6
    · replace h := h.1 c20
      refine r_tableIn (tgt := 133) dX8_vehicle_52 (by omega) (by omega) (by rw [c20]; rfl) (by decide) ?_
      refine r_iload_n 3 dX8_vehicle_133 rfl rfl ?_
      exact r_iret dX8_vehicle_134 rfl ⟨_, rfl, h⟩
    replace h := h.2
    have o21 : x2 < 0 ∨ 6 < x2 := by omega
    replace h := h o21
    refine r_tableOut (tgt := 135) dX8_vehicle_52 o21 (by decide) ?_
    refine r_sipush dX8_vehicle_135 (by decide) (by decide) ?_
    exact r_iret dX8_vehicle_138 rfl ⟨_, rfl, h⟩
  · replace h := h.2 c6
    refine r_iload_n 3 dX8_vehicle_31 rfl rfl ?_
    refine r_iconst dX8_vehicle_32 (by decide) ?_
    refine r_aload_n 0 dX8_vehicle_33 rfl rfl ?_
    refine r_getR (j := 16) dX8_vehicle_34 sh_56 rfl kc_8 (by decide) lf_X8_46 ?_
    refine r_iload 4 dX8_vehicle_37 rfl ?_
    obtain ⟨b22, h⟩ := h
    refine r_iald dX8_vehicle_39 sh_69 b22.1 b22.2 ?_
    refine r_iconst dX8_vehicle_40 (by decide) ?_
    obtain ⟨b23, h⟩ := h
    refine r_idiv dX8_vehicle_41 b23 (by decide) ?_
    obtain ⟨b24, h⟩ := h
    refine r_shl1 dX8_vehicle_42 b24.1 b24.2 ?_
    obtain ⟨b25, h⟩ := h
    obtain ⟨b26, h⟩ := h
    refine r_ior dX8_vehicle_43 b25 b26 ?_
    refine r_istore_n dX8_vehicle_44 rfl (by decide) rfl ?_
    obtain ⟨b27, h⟩ := h
    refine r_iinc 4 dX8_vehicle_45 rfl (by decide) b27 rfl ?_
    refine r_goto (tgt := 22) dX8_vehicle_48 (by decide) ?_
    refine MWF.sub [2, 3, 4, 1, 0] rfl ?_
    exact h
set_option maxRecDepth 100000 in
set_option maxHeartbeats 4000000 in
theorem clX8_schedule (l : Launch) (G : GT) (σ : Sto) (Q : Sto → Prop) (x1 : Int)
    (h : CLv l G mX8_take [vR 56, vI x1] σ (fun s2 => CLi l G mX8_layEarly [vR 56, vI x1] s2 (fun r3 s4 => CLv l G mX8_layLate [vR 56, vI x1] s4 (fun s6 => Q s6)))) :
    CLv l G mX8_schedule [vR 56, vI x1] σ Q := by
  show MWv l G mX8_schedule 0 [(0, vR 56), (1, vI x1)] [] σ Q
  refine r_aload_n 0 dX8_schedule_0 rfl rfl ?_
  refine r_iload_n 1 dX8_schedule_1 rfl rfl ?_
  refine r_callV [vI x1] [] dX8_schedule_2 okX8_take ivX8_take seX8_take lm_X8_107 rfl rfl sh_56 rfl ⟨Nat.le_of_ble_eq_true rfl, Nat.le_of_ble_eq_true rfl, Nat.le_of_ble_eq_true rfl, Nat.le_of_ble_eq_true rfl⟩ h ?_
  rintro _ s2 ⟨rfl, h⟩
  refine r_aload_n 0 dX8_schedule_5 rfl rfl ?_
  refine r_iload_n 1 dX8_schedule_6 rfl rfl ?_
  refine r_callV [vI x1] [] dX8_schedule_7 okX8_layEarly ivX8_layEarly seX8_layEarly lm_X8_103 rfl rfl sh_56 rfl ⟨Nat.le_of_ble_eq_true rfl, Nat.le_of_ble_eq_true rfl, Nat.le_of_ble_eq_true rfl, Nat.le_of_ble_eq_true rfl⟩ h ?_
  rintro _ s4 ⟨r3, rfl, h⟩
  refine r_pop dX8_schedule_10 ?_
  refine r_aload_n 0 dX8_schedule_11 rfl rfl ?_
  refine r_iload_n 1 dX8_schedule_12 rfl rfl ?_
  refine r_callV [vI x1] [] dX8_schedule_13 okX8_layLate ivX8_layLate seX8_layLate lm_X8_135 rfl rfl sh_56 rfl ⟨Nat.le_of_ble_eq_true rfl, Nat.le_of_ble_eq_true rfl, Nat.le_of_ble_eq_true rfl, Nat.le_of_ble_eq_true rfl⟩ h ?_
  rintro _ s6 ⟨rfl, h⟩
  exact r_vret dX8_schedule_16 rfl ⟨rfl, h⟩
set_option maxRecDepth 100000 in
set_option maxHeartbeats 4000000 in
theorem clX8_stop (l : Launch) (G : GT) (σ : Sto) (Q : Int → Sto → Prop) (x1 : Int) (x2 : Int) (x3 : Int)
    (h : CLi l G mX8_noVehicle [vR 56, vI x1] σ (fun r1 s2 => (r1 = 0 → (-2147483648 ≤ 96 + x1 ∧ 96 + x1 ≤ 2147483647) ∧ (0 ≤ (96 + x1) ∧ (96 + x1) < 100) ∧ (-2147483648 ≤ (s2 68 (96 + x1).toNat) - 1 ∧ (s2 68 (96 + x1).toNat) - 1 ≤ 2147483647) ∧ CLi l G mX8_in [vI x2, vI 0, vI ((s2 68 (96 + x1).toNat) - 1)] s2 (fun r7 s8 => (r7 = 0 → Q (-1001) s8) ∧ (¬ (r7 = 0) → CLv l G mX8_schedule [vR 56, vI x1] s8 (fun s11 => MWi l G mX8_stop 42 [(0, vR 56), (1, vI x1), (2, vI x2), (3, vI x3), (4, vI 0), (5, vI 0)] [] s11 Q)))) ∧ (¬ (r1 = 0) → Q (-1001) s2))) :
    CLi l G mX8_stop [vR 56, vI x1, vI x2, vI x3] σ Q := by
  show MWi l G mX8_stop 0 [(0, vR 56), (1, vI x1), (2, vI x2), (3, vI x3)] [] σ Q
  refine r_aload_n 0 dX8_stop_0 rfl rfl ?_
  refine r_iload_n 1 dX8_stop_1 rfl rfl ?_
  refine r_callV [vI x1] [] dX8_stop_2 okX8_noVehicle ivX8_noVehicle seX8_noVehicle lm_X8_132 rfl rfl sh_56 rfl ⟨Nat.le_of_ble_eq_true rfl, Nat.le_of_ble_eq_true rfl, Nat.le_of_ble_eq_true rfl, Nat.le_of_ble_eq_true rfl⟩ h ?_
  rintro _ s2 ⟨r1, rfl, h⟩
  refine r_if_ne (tgt := 27) dX8_stop_5 (by decide) (fun (c3 : r1 = 0) => ?_) (fun (c3 : ¬ (r1 = 0)) => ?_)
  · replace h := h.1 c3
    refine r_iload_n 2 dX8_stop_8 rfl rfl ?_
    refine r_iconst dX8_stop_9 (by decide) ?_
    refine r_aload_n 0 dX8_stop_10 rfl rfl ?_
    refine r_getR (j := 14) dX8_stop_11 sh_56 rfl kc_8 (by decide) lf_X8_43 ?_
    refine r_bipush dX8_stop_14 (by decide) (by decide) ?_
    refine r_iload_n 1 dX8_stop_16 rfl rfl ?_
    obtain ⟨b4, h⟩ := h
    refine r_iadd dX8_stop_17 b4 ?_
    obtain ⟨b5, h⟩ := h
    refine r_iald dX8_stop_18 sh_68 b5.1 b5.2 ?_
    refine r_iconst dX8_stop_19 (by decide) ?_
    obtain ⟨b6, h⟩ := h
    refine r_isub dX8_stop_20 b6 ?_
    refine r_callS [vI x2, vI 0, vI ((s2 68 (96 + x1).toNat) - 1)] [] dX8_stop_21 okX8_in ssX8_in lm_X8_65 rfl rfl ⟨Nat.le_of_ble_eq_true rfl, Nat.le_of_ble_eq_true rfl, Nat.le_of_ble_eq_true rfl, Nat.le_of_ble_eq_true rfl⟩ h ?_
    rintro _ s8 ⟨r7, rfl, h⟩
    refine r_if_ne (tgt := 31) dX8_stop_24 (by decide) (fun (c9 : r7 = 0) => ?_) (fun (c9 : ¬ (r7 = 0)) => ?_)
    · replace h := h.1 c9
      refine r_sipush dX8_stop_27 (by decide) (by decide) ?_
      exact r_iret dX8_stop_30 rfl ⟨_, rfl, h⟩
    · replace h := h.2 c9
      refine r_aload_n 0 dX8_stop_31 rfl rfl ?_
      refine r_iload_n 1 dX8_stop_32 rfl rfl ?_
      refine r_callV [vI x1] [] dX8_stop_33 okX8_schedule ivX8_schedule seX8_schedule lm_X8_138 rfl rfl sh_56 rfl ⟨Nat.le_of_ble_eq_true rfl, Nat.le_of_ble_eq_true rfl, Nat.le_of_ble_eq_true rfl, Nat.le_of_ble_eq_true rfl⟩ h ?_
      rintro _ s11 ⟨rfl, h⟩
      refine r_iconst dX8_stop_36 (by decide) ?_
      refine r_istore dX8_stop_37 (by decide) rfl ?_
      refine r_iconst dX8_stop_39 (by decide) ?_
      refine r_istore dX8_stop_40 (by decide) rfl ?_
      refine MWF.sub [2, 3, 4, 5, 1, 0] rfl ?_
      exact h
  · replace h := h.2 c3
    refine r_sipush dX8_stop_27 (by decide) (by decide) ?_
    exact r_iret dX8_stop_30 rfl ⟨_, rfl, h⟩
set_option maxRecDepth 100000 in
set_option maxHeartbeats 4000000 in
theorem vcX8_stop_42 (l : Launch) (G : GT) (σ : Sto) (Q : Int → Sto → Prop) (x1 : Int) (x2 : Int) (x3 : Int) (x4 : Int) (x5 : Int)
    (h : (x2 < x5 → (x2 = 0 → (0 ≤ x1 ∧ x1 < 4) ∧ CLi l G mX8_fromDepot [vR 56, vI x1, vI (σ 69 0)] σ (fun r15 s16 => (-2147483648 ≤ (σ 60 x1.toNat) + r15 ∧ (σ 60 x1.toNat) + r15 ≤ 2147483647) ∧ (x3 = 0 → (0 ≤ x2 ∧ x2 < 26) ∧ (0 ≤ (s16 69 x2.toNat)) ∧ Q ((s16 69 x2.toNat) / 2) s16) ∧ (x3 = 1 → (0 ≤ x2 ∧ x2 < 26) ∧ (0 ≤ (s16 69 x2.toNat)) ∧ Q ((s16 69 x2.toNat) % 2) s16) ∧ (x3 = 2 → (0 ≤ x2 ∧ x2 < 26) ∧ Q (s16 70 x2.toNat) s16) ∧ (x3 = 3 → (0 ≤ x2 ∧ x2 < 26) ∧ Q (s16 71 x2.toNat) s16) ∧ (x3 = 4 → Q x4 s16) ∧ (x3 = 5 → (0 ≤ x2 ∧ x2 < 26) ∧ (-2147483648 ≤ (s16 70 x2.toNat) - ((σ 60 x1.toNat) + r15) ∧ (s16 70 x2.toNat) - ((σ 60 x1.toNat) + r15) ≤ 2147483647) ∧ Q ((s16 70 x2.toNat) - ((σ 60 x1.toNat) + r15)) s16) ∧ (x3 < 0 ∨ 5 < x3 → Q (-1002) s16))) ∧ (¬ (x2 = 0) → (-2147483648 ≤ x2 - 1 ∧ x2 - 1 ≤ 2147483647) ∧ (0 ≤ (x2 - 1) ∧ (x2 - 1) < 26) ∧ (-2147483648 ≤ (σ 70 (x2 - 1).toNat) + (σ 56 0) ∧ (σ 70 (x2 - 1).toNat) + (σ 56 0) ≤ 2147483647) ∧ (0 ≤ x2 ∧ x2 < 26) ∧ CLi l G mX8_between [vR 56, vI (σ 69 (x2 - 1).toNat), vI (σ 69 x2.toNat)] σ (fun r37 s38 => (-2147483648 ≤ ((σ 70 (x2 - 1).toNat) + (σ 56 0)) + r37 ∧ ((σ 70 (x2 - 1).toNat) + (σ 56 0)) + r37 ≤ 2147483647) ∧ (x3 = 0 → (0 ≤ (s38 69 x2.toNat)) ∧ Q ((s38 69 x2.toNat) / 2) s38) ∧ (x3 = 1 → (0 ≤ (s38 69 x2.toNat)) ∧ Q ((s38 69 x2.toNat) % 2) s38) ∧ (x3 = 2 → Q (s38 70 x2.toNat) s38) ∧ (x3 = 3 → Q (s38 71 x2.toNat) s38) ∧ (x3 = 4 → Q x4 s38) ∧ (x3 = 5 → (-2147483648 ≤ (s38 70 x2.toNat) - (((σ 70 (x2 - 1).toNat) + (σ 56 0)) + r37) ∧ (s38 70 x2.toNat) - (((σ 70 (x2 - 1).toNat) + (σ 56 0)) + r37) ≤ 2147483647) ∧ Q ((s38 70 x2.toNat) - (((σ 70 (x2 - 1).toNat) + (σ 56 0)) + r37)) s38) ∧ (x3 < 0 ∨ 5 < x3 → Q (-1002) s38)))) ∧ (¬ (x2 < x5) → (0 ≤ x5 ∧ x5 < 26) ∧ (0 ≤ (σ 69 x5.toNat)) ∧ ((((σ 69 x5.toNat) % 2) = 0 → (0 ≤ ((σ 69 x5.toNat) / 2) ∧ ((σ 69 x5.toNat) / 2) < 12) ∧ True) ∧ (¬ (((σ 69 x5.toNat) % 2) = 0) → (0 ≤ ((σ 69 x5.toNat) / 2) ∧ ((σ 69 x5.toNat) / 2) < 12) ∧ (-2147483648 ≤ -(σ 66 ((σ 69 x5.toNat) / 2).toNat) ∧ -(σ 66 ((σ 69 x5.toNat) / 2).toNat) ≤ 2147483647) ∧ True)) ∧ ∀ y57 : Int, y57 = (if ((σ 69 x5.toNat) % 2) = 0 then (σ 66 ((σ 69 x5.toNat) / 2).toNat) else (-(σ 66 ((σ 69 x5.toNat) / 2).toNat))) → (-2147483648 ≤ x4 + y57 ∧ x4 + y57 ≤ 2147483647) ∧ (-2147483648 ≤ x5 + 1 ∧ x5 + 1 ≤ 2147483647) ∧ MWi l G mX8_stop 42 [(0, vR 56), (1, vI x1), (2, vI x2), (3, vI x3), (4, vI (x4 + y57)), (5, vI (x5 + 1))] [] σ Q)) :
    MWi l G mX8_stop 42 [(0, vR 56), (1, vI x1), (2, vI x2), (3, vI x3), (4, vI x4), (5, vI x5)] [] σ Q := by
  refine r_iload 5 dX8_stop_42 rfl ?_
  refine r_iload_n 2 dX8_stop_44 rfl rfl ?_
  refine r_icmp_gt (tgt := 103) dX8_stop_45 (by decide) (fun (c12 : x2 < x5) => ?_) (fun (c12 : ¬ (x2 < x5)) => ?_)
  · replace h := h.1 c12
    refine r_iload_n 2 dX8_stop_103 rfl rfl ?_
    refine r_if_ne (tgt := 128) dX8_stop_104 (by decide) (fun (c13 : x2 = 0) => ?_) (fun (c13 : ¬ (x2 = 0)) => ?_)
    · replace h := h.1 c13
      refine r_aload_n 0 dX8_stop_107 rfl rfl ?_
      refine r_getR (j := 5) dX8_stop_108 sh_56 rfl kc_8 (by decide) lf_X8_19 ?_
      refine r_iload_n 1 dX8_stop_111 rfl rfl ?_
      obtain ⟨b14, h⟩ := h
      refine r_iald dX8_stop_112 sh_60 b14.1 b14.2 ?_
      refine r_aload_n 0 dX8_stop_113 rfl rfl ?_
      refine r_iload_n 1 dX8_stop_114 rfl rfl ?_
      refine r_aload_n 0 dX8_stop_115 rfl rfl ?_
      refine r_getR (j := 16) dX8_stop_116 sh_56 rfl kc_8 (by decide) lf_X8_46 ?_
      refine r_iconst dX8_stop_119 (by decide) ?_
      refine r_iald dX8_stop_120 sh_69 (by decide) (by decide) ?_
      refine r_callV [vI x1, vI (σ 69 0)] [vI (σ 60 x1.toNat)] dX8_stop_121 okX8_fromDepot ivX8_fromDepot seX8_fromDepot lm_X8_89 rfl rfl sh_56 rfl ⟨Nat.le_of_ble_eq_true rfl, Nat.le_of_ble_eq_true rfl, Nat.le_of_ble_eq_true rfl, Nat.le_of_ble_eq_true rfl⟩ h ?_
      rintro _ s16 ⟨r15, rfl, h⟩
      obtain ⟨b17, h⟩ := h
      refine r_iadd dX8_stop_124 b17 ?_
      refine r_goto (tgt := 160) dX8_stop_125 (by decide) ?_
      refine r_istore dX8_stop_160 (by decide) rfl ?_
      refine r_iload_n 4 dX8_stop_162 rfl rfl ?_
      by_cases c18 : x3 = 0
      · replace h := h.1 c18
        refine r_tableIn (tgt := 200) dX8_stop_163 (by omega) (by omega) (by rw [c18]; rfl) (by decide) ?_
        refine r_aload_n 1 dX8_stop_200 rfl rfl ?_
        refine r_getR (j := 16) dX8_stop_201 sh_56 rfl kc_8 (by decide) lf_X8_46 ?_
        refine r_iload_n 3 dX8_stop_204 rfl rfl ?_
        obtain ⟨b19, h⟩ := h
        refine r_iald dX8_stop_205 sh_69 b19.1 b19.2 ?_
        refine r_iconst dX8_stop_206 (by decide) ?_
        obtain ⟨b20, h⟩ := h
        refine r_idiv dX8_stop_207 b20 (by decide) ?_
        exact r_iret dX8_stop_208 rfl ⟨_, rfl, h⟩
      replace h := h.2
      by_cases c21 : x3 = 1
      · replace h := h.1 c21
        refine r_tableIn (tgt := 209) dX8_stop_163 (by omega) (by omega) (by rw [c21]; rfl) (by decide) ?_
        refine r_aload_n 1 dX8_stop_209 rfl rfl ?_
        refine r_getR (j := 16) dX8_stop_210 sh_56 rfl kc_8 (by decide) lf_X8_46 ?_
        refine r_iload_n 3 dX8_stop_213 rfl rfl ?_
        obtain ⟨b22, h⟩ := h
        refine r_iald dX8_stop_214 sh_69 b22.1 b22.2 ?_
        refine r_iconst dX8_stop_215 (by decide) ?_
        obtain ⟨b23, h⟩ := h
        refine r_irem dX8_stop_216 b23 (by decide) ?_
        exact r_iret dX8_stop_217 rfl ⟨_, rfl, h⟩
      replace h := h.2
      by_cases c24 : x3 = 2
      · replace h := h.1 c24
        refine r_tableIn (tgt := 218) dX8_stop_163 (by omega) (by omega) (by rw [c24]; rfl) (by decide) ?_
        refine r_aload_n 1 dX8_stop_218 rfl rfl ?_
        refine r_getR (j := 17) dX8_stop_219 sh_56 rfl kc_8 (by decide) lf_X8_49 ?_
        refine r_iload_n 3 dX8_stop_222 rfl rfl ?_
        obtain ⟨b25, h⟩ := h
        refine r_iald dX8_stop_223 sh_70 b25.1 b25.2 ?_
        exact r_iret dX8_stop_224 rfl ⟨_, rfl, h⟩
      replace h := h.2
      by_cases c26 : x3 = 3
      · replace h := h.1 c26
        refine r_tableIn (tgt := 225) dX8_stop_163 (by omega) (by omega) (by rw [c26]; rfl) (by decide) ?_
        refine r_aload_n 1 dX8_stop_225 rfl rfl ?_
        refine r_getR (j := 18) dX8_stop_226 sh_56 rfl kc_8 (by decide) lf_X8_52 ?_
        refine r_iload_n 3 dX8_stop_229 rfl rfl ?_
        obtain ⟨b27, h⟩ := h
        refine r_iald dX8_stop_230 sh_71 b27.1 b27.2 ?_
        exact r_iret dX8_stop_231 rfl ⟨_, rfl, h⟩
      replace h := h.2
      by_cases c28 : x3 = 4
      · replace h := h.1 c28
        refine r_tableIn (tgt := 232) dX8_stop_163 (by omega) (by omega) (by rw [c28]; rfl) (by decide) ?_
        refine r_iload 5 dX8_stop_232 rfl ?_
        exact r_iret dX8_stop_234 rfl ⟨_, rfl, h⟩
      replace h := h.2
      by_cases c29 : x3 = 5
      · replace h := h.1 c29
        refine r_tableIn (tgt := 235) dX8_stop_163 (by omega) (by omega) (by rw [c29]; rfl) (by decide) ?_
        refine r_aload_n 1 dX8_stop_235 rfl rfl ?_
        refine r_getR (j := 17) dX8_stop_236 sh_56 rfl kc_8 (by decide) lf_X8_49 ?_
        refine r_iload_n 3 dX8_stop_239 rfl rfl ?_
        obtain ⟨b30, h⟩ := h
        refine r_iald dX8_stop_240 sh_70 b30.1 b30.2 ?_
        refine r_iload 0 dX8_stop_241 rfl ?_
        obtain ⟨b31, h⟩ := h
        refine r_isub dX8_stop_243 b31 ?_
        exact r_iret dX8_stop_244 rfl ⟨_, rfl, h⟩
      replace h := h.2
      have o32 : x3 < 0 ∨ 5 < x3 := by omega
      replace h := h o32
      refine r_tableOut (tgt := 245) dX8_stop_163 o32 (by decide) ?_
      refine r_sipush dX8_stop_245 (by decide) (by decide) ?_
      exact r_iret dX8_stop_248 rfl ⟨_, rfl, h⟩
    · replace h := h.2 c13
      refine r_aload_n 0 dX8_stop_128 rfl rfl ?_
      refine r_getR (j := 17) dX8_stop_129 sh_56 rfl kc_8 (by decide) lf_X8_49 ?_
      refine r_iload_n 2 dX8_stop_132 rfl rfl ?_
      refine r_iconst dX8_stop_133 (by decide) ?_
      obtain ⟨b33, h⟩ := h
      refine r_isub dX8_stop_134 b33 ?_
      obtain ⟨b34, h⟩ := h
      refine r_iald dX8_stop_135 sh_70 b34.1 b34.2 ?_
      refine r_aload_n 0 dX8_stop_136 rfl rfl ?_
      refine r_getI (j := 0) dX8_stop_137 sh_56 rfl kc_8 (by decide) lf_X8_61 ?_
      obtain ⟨b35, h⟩ := h
      refine r_iadd dX8_stop_140 b35 ?_
      refine r_aload_n 0 dX8_stop_141 rfl rfl ?_
      refine r_aload_n 0 dX8_stop_142 rfl rfl ?_
      refine r_getR (j := 16) dX8_stop_143 sh_56 rfl kc_8 (by decide) lf_X8_46 ?_
      refine r_iload_n 2 dX8_stop_146 rfl rfl ?_
      refine r_iconst dX8_stop_147 (by decide) ?_
      refine r_isub dX8_stop_148 b33 ?_
      refine r_iald dX8_stop_149 sh_69 b34.1 b34.2 ?_
      refine r_aload_n 0 dX8_stop_150 rfl rfl ?_
      refine r_getR (j := 16) dX8_stop_151 sh_56 rfl kc_8 (by decide) lf_X8_46 ?_
      refine r_iload_n 2 dX8_stop_154 rfl rfl ?_
      obtain ⟨b36, h⟩ := h
      refine r_iald dX8_stop_155 sh_69 b36.1 b36.2 ?_
      refine r_callV [vI (σ 69 (x2 - 1).toNat), vI (σ 69 x2.toNat)] [vI ((σ 70 (x2 - 1).toNat) + (σ 56 0))] dX8_stop_156 okX8_between ivX8_between seX8_between lm_X8_93 rfl rfl sh_56 rfl ⟨Nat.le_of_ble_eq_true rfl, Nat.le_of_ble_eq_true rfl, Nat.le_of_ble_eq_true rfl, Nat.le_of_ble_eq_true rfl⟩ h ?_
      rintro _ s38 ⟨r37, rfl, h⟩
      obtain ⟨b39, h⟩ := h
      refine r_iadd dX8_stop_159 b39 ?_
      refine r_istore dX8_stop_160 (by decide) rfl ?_
      refine r_iload_n 4 dX8_stop_162 rfl rfl ?_
      by_cases c40 : x3 = 0
      · replace h := h.1 c40
        refine r_tableIn (tgt := 200) dX8_stop_163 (by omega) (by omega) (by rw [c40]; rfl) (by decide) ?_
        refine r_aload_n 1 dX8_stop_200 rfl rfl ?_
        refine r_getR (j := 16) dX8_stop_201 sh_56 rfl kc_8 (by decide) lf_X8_46 ?_
        refine r_iload_n 3 dX8_stop_204 rfl rfl ?_
        refine r_iald dX8_stop_205 sh_69 b36.1 b36.2 ?_
        refine r_iconst dX8_stop_206 (by decide) ?_
        obtain ⟨b41, h⟩ := h
        refine r_idiv dX8_stop_207 b41 (by decide) ?_
        exact r_iret dX8_stop_208 rfl ⟨_, rfl, h⟩
      replace h := h.2
      by_cases c42 : x3 = 1
      · replace h := h.1 c42
        refine r_tableIn (tgt := 209) dX8_stop_163 (by omega) (by omega) (by rw [c42]; rfl) (by decide) ?_
        refine r_aload_n 1 dX8_stop_209 rfl rfl ?_
        refine r_getR (j := 16) dX8_stop_210 sh_56 rfl kc_8 (by decide) lf_X8_46 ?_
        refine r_iload_n 3 dX8_stop_213 rfl rfl ?_
        refine r_iald dX8_stop_214 sh_69 b36.1 b36.2 ?_
        refine r_iconst dX8_stop_215 (by decide) ?_
        obtain ⟨b43, h⟩ := h
        refine r_irem dX8_stop_216 b43 (by decide) ?_
        exact r_iret dX8_stop_217 rfl ⟨_, rfl, h⟩
      replace h := h.2
      by_cases c44 : x3 = 2
      · replace h := h.1 c44
        refine r_tableIn (tgt := 218) dX8_stop_163 (by omega) (by omega) (by rw [c44]; rfl) (by decide) ?_
        refine r_aload_n 1 dX8_stop_218 rfl rfl ?_
        refine r_getR (j := 17) dX8_stop_219 sh_56 rfl kc_8 (by decide) lf_X8_49 ?_
        refine r_iload_n 3 dX8_stop_222 rfl rfl ?_
        refine r_iald dX8_stop_223 sh_70 b36.1 b36.2 ?_
        exact r_iret dX8_stop_224 rfl ⟨_, rfl, h⟩
      replace h := h.2
      by_cases c45 : x3 = 3
      · replace h := h.1 c45
        refine r_tableIn (tgt := 225) dX8_stop_163 (by omega) (by omega) (by rw [c45]; rfl) (by decide) ?_
        refine r_aload_n 1 dX8_stop_225 rfl rfl ?_
        refine r_getR (j := 18) dX8_stop_226 sh_56 rfl kc_8 (by decide) lf_X8_52 ?_
        refine r_iload_n 3 dX8_stop_229 rfl rfl ?_
        refine r_iald dX8_stop_230 sh_71 b36.1 b36.2 ?_
        exact r_iret dX8_stop_231 rfl ⟨_, rfl, h⟩
      replace h := h.2
      by_cases c46 : x3 = 4
      · replace h := h.1 c46
        refine r_tableIn (tgt := 232) dX8_stop_163 (by omega) (by omega) (by rw [c46]; rfl) (by decide) ?_
        refine r_iload 5 dX8_stop_232 rfl ?_
        exact r_iret dX8_stop_234 rfl ⟨_, rfl, h⟩
      replace h := h.2
      by_cases c47 : x3 = 5
      · replace h := h.1 c47
        refine r_tableIn (tgt := 235) dX8_stop_163 (by omega) (by omega) (by rw [c47]; rfl) (by decide) ?_
        refine r_aload_n 1 dX8_stop_235 rfl rfl ?_
        refine r_getR (j := 17) dX8_stop_236 sh_56 rfl kc_8 (by decide) lf_X8_49 ?_
        refine r_iload_n 3 dX8_stop_239 rfl rfl ?_
        refine r_iald dX8_stop_240 sh_70 b36.1 b36.2 ?_
        refine r_iload 0 dX8_stop_241 rfl ?_
        obtain ⟨b48, h⟩ := h
        refine r_isub dX8_stop_243 b48 ?_
        exact r_iret dX8_stop_244 rfl ⟨_, rfl, h⟩
      replace h := h.2
      have o49 : x3 < 0 ∨ 5 < x3 := by omega
      replace h := h o49
      refine r_tableOut (tgt := 245) dX8_stop_163 o49 (by decide) ?_
      refine r_sipush dX8_stop_245 (by decide) (by decide) ?_
      exact r_iret dX8_stop_248 rfl ⟨_, rfl, h⟩
  · replace h := h.2 c12
    refine r_iload 4 dX8_stop_48 rfl ?_
    refine r_aload_n 0 dX8_stop_50 rfl rfl ?_
    refine r_getR (j := 16) dX8_stop_51 sh_56 rfl kc_8 (by decide) lf_X8_46 ?_
    refine r_iload 5 dX8_stop_54 rfl ?_
    obtain ⟨b50, h⟩ := h
    refine r_iald dX8_stop_56 sh_69 b50.1 b50.2 ?_
    refine r_iconst dX8_stop_57 (by decide) ?_
    obtain ⟨b51, h⟩ := h
    refine r_irem dX8_stop_58 b51 (by decide) ?_
    obtain ⟨q56, h⟩ := h
    obtain ⟨y57, ey57⟩ : ∃ z : Int, z = (if ((σ 69 x5.toNat) % 2) = 0 then (σ 66 ((σ 69 x5.toNat) / 2).toNat) else (-(σ 66 ((σ 69 x5.toNat) / 2).toNat))) := ⟨_, rfl⟩
    replace h := h y57 ey57
    have hj58 : MWi l G mX8_stop 94 [(0, vR 56), (1, vI x1), (2, vI x2), (3, vI x3), (5, vI x5)] [vI y57, vI x4] σ Q := by
      obtain ⟨b61, h⟩ := h
      refine r_iadd dX8_stop_94 b61 ?_
      refine r_istore dX8_stop_95 (by decide) rfl ?_
      obtain ⟨b62, h⟩ := h
      refine r_iinc 5 dX8_stop_97 rfl (by decide) b62 rfl ?_
      refine r_goto (tgt := 42) dX8_stop_100 (by decide) ?_
      refine MWF.sub [2, 3, 4, 5, 1, 0] rfl ?_
      exact h
    replace h := q56
    refine r_if_ne (tgt := 79) dX8_stop_59 (by decide) (fun (c52 : ((σ 69 x5.toNat) % 2) = 0) => ?_) (fun (c52 : ¬ (((σ 69 x5.toNat) % 2) = 0)) => ?_)
    · replace h := h.1 c52
      refine r_aload_n 0 dX8_stop_62 rfl rfl ?_
      refine r_getR (j := 12) dX8_stop_63 sh_56 rfl kc_8 (by decide) lf_X8_37 ?_
      refine r_aload_n 0 dX8_stop_66 rfl rfl ?_
      refine r_getR (j := 16) dX8_stop_67 sh_56 rfl kc_8 (by decide) lf_X8_46 ?_
      refine r_iload 5 dX8_stop_70 rfl ?_
      refine r_iald dX8_stop_72 sh_69 b50.1 b50.2 ?_
      refine r_iconst dX8_stop_73 (by decide) ?_
      refine r_idiv dX8_stop_74 b51 (by decide) ?_
      obtain ⟨b53, h⟩ := h
      refine r_iald dX8_stop_75 sh_66 b53.1 b53.2 ?_
      refine r_goto (tgt := 94) dX8_stop_76 (by decide) ?_
      refine MWF.sub [0, 1, 2, 3, 5] rfl ?_
      have q59 : y57 = (σ 66 ((σ 69 x5.toNat) / 2).toNat) := by rw [ey57, if_pos c52]
      rw [q59] at hj58
      exact hj58
    · replace h := h.2 c52
      refine r_aload_n 0 dX8_stop_79 rfl rfl ?_
      refine r_getR (j := 12) dX8_stop_80 sh_56 rfl kc_8 (by decide) lf_X8_37 ?_
      refine r_aload_n 0 dX8_stop_83 rfl rfl ?_
      refine r_getR (j := 16) dX8_stop_84 sh_56 rfl kc_8 (by decide) lf_X8_46 ?_
      refine r_iload 5 dX8_stop_87 rfl ?_
      refine r_iald dX8_stop_89 sh_69 b50.1 b50.2 ?_
      refine r_iconst dX8_stop_90 (by decide) ?_
      refine r_idiv dX8_stop_91 b51 (by decide) ?_
      obtain ⟨b54, h⟩ := h
      refine r_iald dX8_stop_92 sh_66 b54.1 b54.2 ?_
      obtain ⟨b55, h⟩ := h
      refine r_ineg dX8_stop_93 b55 ?_
      refine MWF.sub [0, 1, 2, 3, 5] rfl ?_
      have q60 : y57 = (-(σ 66 ((σ 69 x5.toNat) / 2).toNat)) := by rw [ey57, if_neg c52]
      rw [q60] at hj58
      exact hj58
set_option maxRecDepth 100000 in
set_option maxHeartbeats 4000000 in
theorem clX8_rideTime (l : Launch) (G : GT) (σ : Sto) (Q : Int → Sto → Prop) (x1 : Int) (x2 : Int)
    (h : CLi l G mX8_noRequest [vR 56, vI x1] σ (fun r1 s2 => (r1 = 0 → CLi l G mX8_vehicleOf [vR 56, vI x1] s2 (fun r4 s5 => (0 ≤ r4 → CLv l G mX8_schedule [vR 56, vI r4] s5 (fun s8 => (-2147483648 ≤ 2 * x1 ∧ 2 * x1 ≤ 2147483647) ∧ CLi l G mX8_placeOf [vR 56, vI (2 * x1)] s8 (fun r10 s11 => (-2147483648 ≤ (2 * x1) + 1 ∧ (2 * x1) + 1 ≤ 2147483647) ∧ CLi l G mX8_placeOf [vR 56, vI ((2 * x1) + 1)] s11 (fun r13 s14 => ((x2 = 0 → (0 ≤ r13 ∧ r13 < 26) ∧ (0 ≤ r10 ∧ r10 < 26) ∧ (-2147483648 ≤ (s14 70 r13.toNat) - (s14 70 r10.toNat) ∧ (s14 70 r13.toNat) - (s14 70 r10.toNat) ≤ 2147483647) ∧ True) ∧ (¬ (x2 = 0) → (0 ≤ r13 ∧ r13 < 26) ∧ (0 ≤ r10 ∧ r10 < 26) ∧ (-2147483648 ≤ (s14 71 r13.toNat) - (s14 71 r10.toNat) ∧ (s14 71 r13.toNat) - (s14 71 r10.toNat) ≤ 2147483647) ∧ True)) ∧ ∀ y23 : Int, y23 = (if x2 = 0 then ((s14 70 r13.toNat) - (s14 70 r10.toNat)) else ((s14 71 r13.toNat) - (s14 71 r10.toNat))) → (-2147483648 ≤ y23 - (s14 56 0) ∧ y23 - (s14 56 0) ≤ 2147483647) ∧ Q (y23 - (s14 56 0)) s14)))) ∧ (¬ (0 ≤ r4) → Q (-1004) s5))) ∧ (¬ (r1 = 0) → Q (-1001) s2))) :
    CLi l G mX8_rideTime [vR 56, vI x1, vI x2] σ Q := by
  show MWi l G mX8_rideTime 0 [(0, vR 56), (1, vI x1), (2, vI x2)] [] σ Q
  refine r_aload_n 0 dX8_rideTime_0 rfl rfl ?_
  refine r_iload_n 1 dX8_rideTime_1 rfl rfl ?_
  refine r_callV [vI x1] [] dX8_rideTime_2 okX8_noRequest ivX8_noRequest seX8_noRequest lm_X8_120 rfl rfl sh_56 rfl ⟨Nat.le_of_ble_eq_true rfl, Nat.le_of_ble_eq_true rfl, Nat.le_of_ble_eq_true rfl, Nat.le_of_ble_eq_true rfl⟩ h ?_
  rintro _ s2 ⟨r1, rfl, h⟩
  refine r_if_eq (tgt := 12) dX8_rideTime_5 (by decide) (fun (c3 : r1 = 0) => ?_) (fun (c3 : ¬ (r1 = 0)) => ?_)
  · replace h := h.1 c3
    refine r_aload_n 0 dX8_rideTime_12 rfl rfl ?_
    refine r_iload_n 1 dX8_rideTime_13 rfl rfl ?_
    refine r_callV [vI x1] [] dX8_rideTime_14 okX8_vehicleOf ivX8_vehicleOf seX8_vehicleOf lm_X8_114 rfl rfl sh_56 rfl ⟨Nat.le_of_ble_eq_true rfl, Nat.le_of_ble_eq_true rfl, Nat.le_of_ble_eq_true rfl, Nat.le_of_ble_eq_true rfl⟩ h ?_
    rintro _ s5 ⟨r4, rfl, h⟩
    refine r_istore_n dX8_rideTime_17 rfl (by decide) rfl ?_
    refine r_iload_n 0 dX8_rideTime_18 rfl rfl ?_
    refine r_if_ge (tgt := 26) dX8_rideTime_19 (by decide) (fun (c6 : 0 ≤ r4) => ?_) (fun (c6 : ¬ (0 ≤ r4)) => ?_)
    · replace h := h.1 c6
      refine r_aload_n 1 dX8_rideTime_26 rfl rfl ?_
      refine r_iload_n 0 dX8_rideTime_27 rfl rfl ?_
      refine r_callV [vI r4] [] dX8_rideTime_28 okX8_schedule ivX8_schedule seX8_schedule lm_X8_138 rfl rfl sh_56 rfl ⟨Nat.le_of_ble_eq_true rfl, Nat.le_of_ble_eq_true rfl, Nat.le_of_ble_eq_true rfl, Nat.le_of_ble_eq_true rfl⟩ h ?_
      rintro _ s8 ⟨rfl, h⟩
      refine r_aload_n 1 dX8_rideTime_31 rfl rfl ?_
      refine r_iconst dX8_rideTime_32 (by decide) ?_
      refine r_iload_n 2 dX8_rideTime_33 rfl rfl ?_
      obtain ⟨b9, h⟩ := h
      refine r_imul dX8_rideTime_34 b9 ?_
      refine r_callV [vI (2 * x1)] [] dX8_rideTime_35 okX8_placeOf ivX8_placeOf seX8_placeOf lm_X8_96 rfl rfl sh_56 rfl ⟨Nat.le_of_ble_eq_true rfl, Nat.le_of_ble_eq_true rfl, Nat.le_of_ble_eq_true rfl, Nat.le_of_ble_eq_true rfl⟩ h ?_
      rintro _ s11 ⟨r10, rfl, h⟩
      refine r_istore dX8_rideTime_38 (by decide) rfl ?_
      refine r_aload_n 2 dX8_rideTime_40 rfl rfl ?_
      refine r_iconst dX8_rideTime_41 (by decide) ?_
      refine r_iload_n 3 dX8_rideTime_42 rfl rfl ?_
      refine r_imul dX8_rideTime_43 b9 ?_
      refine r_iconst dX8_rideTime_44 (by decide) ?_
      obtain ⟨b12, h⟩ := h
      refine r_iadd dX8_rideTime_45 b12 ?_
      refine r_callV [vI ((2 * x1) + 1)] [] dX8_rideTime_46 okX8_placeOf ivX8_placeOf seX8_placeOf lm_X8_96 rfl rfl sh_56 rfl ⟨Nat.le_of_ble_eq_true rfl, Nat.le_of_ble_eq_true rfl, Nat.le_of_ble_eq_true rfl, Nat.le_of_ble_eq_true rfl⟩ h ?_
      rintro _ s14 ⟨r13, rfl, h⟩
      refine r_istore dX8_rideTime_49 (by decide) rfl ?_
      refine r_iload_n 5 dX8_rideTime_51 rfl rfl ?_
      obtain ⟨q22, h⟩ := h
      obtain ⟨y23, ey23⟩ : ∃ z : Int, z = (if x2 = 0 then ((s14 70 r13.toNat) - (s14 70 r10.toNat)) else ((s14 71 r13.toNat) - (s14 71 r10.toNat))) := ⟨_, rfl⟩
      replace h := h y23 ey23
      have hj24 : MWi l G mX8_rideTime 88 [(0, vR 56)] [vI y23] s14 Q := by
        refine r_aload_n 0 dX8_rideTime_88 rfl rfl ?_
        refine r_getI (j := 0) dX8_rideTime_89 sh_56 rfl kc_8 (by decide) lf_X8_61 ?_
        obtain ⟨b27, h⟩ := h
        refine r_isub dX8_rideTime_92 b27 ?_
        exact r_iret dX8_rideTime_93 rfl ⟨_, rfl, h⟩
      replace h := q22
      refine r_if_eq (tgt := 73) dX8_rideTime_52 (by decide) (fun (c15 : x2 = 0) => ?_) (fun (c15 : ¬ (x2 = 0)) => ?_)
      · replace h := h.1 c15
        refine r_aload_n 3 dX8_rideTime_73 rfl rfl ?_
        refine r_getR (j := 17) dX8_rideTime_74 sh_56 rfl kc_8 (by decide) lf_X8_49 ?_
        refine r_iload 0 dX8_rideTime_77 rfl ?_
        obtain ⟨b16, h⟩ := h
        refine r_iald dX8_rideTime_79 sh_70 b16.1 b16.2 ?_
        refine r_aload_n 3 dX8_rideTime_80 rfl rfl ?_
        refine r_getR (j := 17) dX8_rideTime_81 sh_56 rfl kc_8 (by decide) lf_X8_49 ?_
        refine r_iload 1 dX8_rideTime_84 rfl ?_
        obtain ⟨b17, h⟩ := h
        refine r_iald dX8_rideTime_86 sh_70 b17.1 b17.2 ?_
        obtain ⟨b18, h⟩ := h
        refine r_isub dX8_rideTime_87 b18 ?_
        refine MWF.sub [3] rfl ?_
        have q25 : y23 = ((s14 70 r13.toNat) - (s14 70 r10.toNat)) := by rw [ey23, if_pos c15]
        rw [q25] at hj24
        exact hj24
      · replace h := h.2 c15
        refine r_aload_n 3 dX8_rideTime_55 rfl rfl ?_
        refine r_getR (j := 18) dX8_rideTime_56 sh_56 rfl kc_8 (by decide) lf_X8_52 ?_
        refine r_iload 0 dX8_rideTime_59 rfl ?_
        obtain ⟨b19, h⟩ := h
        refine r_iald dX8_rideTime_61 sh_71 b19.1 b19.2 ?_
        refine r_aload_n 3 dX8_rideTime_62 rfl rfl ?_
        refine r_getR (j := 18) dX8_rideTime_63 sh_56 rfl kc_8 (by decide) lf_X8_52 ?_
        refine r_iload 1 dX8_rideTime_66 rfl ?_
        obtain ⟨b20, h⟩ := h
        refine r_iald dX8_rideTime_68 sh_71 b20.1 b20.2 ?_
        obtain ⟨b21, h⟩ := h
        refine r_isub dX8_rideTime_69 b21 ?_
        refine r_goto (tgt := 88) dX8_rideTime_70 (by decide) ?_
        refine MWF.sub [3] rfl ?_
        have q26 : y23 = ((s14 71 r13.toNat) - (s14 71 r10.toNat)) := by rw [ey23, if_neg c15]
        rw [q26] at hj24
        exact hj24
    · replace h := h.2 c6
      refine r_sipush dX8_rideTime_22 (by decide) (by decide) ?_
      exact r_iret dX8_rideTime_25 rfl ⟨_, rfl, h⟩
  · replace h := h.2 c3
    refine r_sipush dX8_rideTime_8 (by decide) (by decide) ?_
    exact r_iret dX8_rideTime_11 rfl ⟨_, rfl, h⟩
set_option maxRecDepth 100000 in
set_option maxHeartbeats 4000000 in
theorem clX8_depotTime (l : Launch) (G : GT) (σ : Sto) (Q : Int → Sto → Prop) (x1 : Int) (x2 : Int)
    (h : CLi l G mX8_noVehicle [vR 56, vI x1] σ (fun r1 s2 => (r1 = 0 → CLv l G mX8_schedule [vR 56, vI x1] s2 (fun s5 => ((s5 56 15) = 0 → Q (-1007) s5) ∧ (¬ ((s5 56 15) = 0) → (x2 = 0 → CLi l G mX8_fromDepot [vR 56, vI x1, vI (s5 69 0)] s5 (fun r8 s9 => (-2147483648 ≤ (s5 71 0) - r8 ∧ (s5 71 0) - r8 ≤ 2147483647) ∧ Q ((s5 71 0) - r8) s9)) ∧ (¬ (x2 = 0) → (-2147483648 ≤ (s5 56 15) - 1 ∧ (s5 56 15) - 1 ≤ 2147483647) ∧ (0 ≤ ((s5 56 15) - 1) ∧ ((s5 56 15) - 1) < 26) ∧ (-2147483648 ≤ (s5 70 ((s5 56 15) - 1).toNat) + (s5 56 0) ∧ (s5 70 ((s5 56 15) - 1).toNat) + (s5 56 0) ≤ 2147483647) ∧ CLi l G mX8_fromDepot [vR 56, vI x1, vI (s5 69 ((s5 56 15) - 1).toNat)] s5 (fun r14 s15 => (-2147483648 ≤ ((s5 70 ((s5 56 15) - 1).toNat) + (s5 56 0)) + r14 ∧ ((s5 70 ((s5 56 15) - 1).toNat) + (s5 56 0)) + r14 ≤ 2147483647) ∧ Q (((s5 70 ((s5 56 15) - 1).toNat) + (s5 56 0)) + r14) s15))))) ∧ (¬ (r1 = 0) → Q (-1001) s2))) :
    CLi l G mX8_depotTime [vR 56, vI x1, vI x2] σ Q := by
  show MWi l G mX8_depotTime 0 [(0, vR 56), (1, vI x1), (2, vI x2)] [] σ Q
  refine r_aload_n 0 dX8_depotTime_0 rfl rfl ?_
  refine r_iload_n 1 dX8_depotTime_1 rfl rfl ?_
  refine r_callV [vI x1] [] dX8_depotTime_2 okX8_noVehicle ivX8_noVehicle seX8_noVehicle lm_X8_132 rfl rfl sh_56 rfl ⟨Nat.le_of_ble_eq_true rfl, Nat.le_of_ble_eq_true rfl, Nat.le_of_ble_eq_true rfl, Nat.le_of_ble_eq_true rfl⟩ h ?_
  rintro _ s2 ⟨r1, rfl, h⟩
  refine r_if_eq (tgt := 12) dX8_depotTime_5 (by decide) (fun (c3 : r1 = 0) => ?_) (fun (c3 : ¬ (r1 = 0)) => ?_)
  · replace h := h.1 c3
    refine r_aload_n 0 dX8_depotTime_12 rfl rfl ?_
    refine r_iload_n 1 dX8_depotTime_13 rfl rfl ?_
    refine r_callV [vI x1] [] dX8_depotTime_14 okX8_schedule ivX8_schedule seX8_schedule lm_X8_138 rfl rfl sh_56 rfl ⟨Nat.le_of_ble_eq_true rfl, Nat.le_of_ble_eq_true rfl, Nat.le_of_ble_eq_true rfl, Nat.le_of_ble_eq_true rfl⟩ h ?_
    rintro _ s5 ⟨rfl, h⟩
    refine r_aload_n 0 dX8_depotTime_17 rfl rfl ?_
    refine r_getI (j := 15) dX8_depotTime_18 sh_56 rfl kc_8 (by decide) lf_X8_82 ?_
    refine r_if_ne (tgt := 28) dX8_depotTime_21 (by decide) (fun (c6 : (s5 56 15) = 0) => ?_) (fun (c6 : ¬ ((s5 56 15) = 0)) => ?_)
    · replace h := h.1 c6
      refine r_sipush dX8_depotTime_24 (by decide) (by decide) ?_
      exact r_iret dX8_depotTime_27 rfl ⟨_, rfl, h⟩
    · replace h := h.2 c6
      refine r_iload_n 2 dX8_depotTime_28 rfl rfl ?_
      refine r_if_eq (tgt := 68) dX8_depotTime_29 (by decide) (fun (c7 : x2 = 0) => ?_) (fun (c7 : ¬ (x2 = 0)) => ?_)
      · replace h := h.1 c7
        refine r_aload_n 0 dX8_depotTime_68 rfl rfl ?_
        refine r_getR (j := 18) dX8_depotTime_69 sh_56 rfl kc_8 (by decide) lf_X8_52 ?_
        refine r_iconst dX8_depotTime_72 (by decide) ?_
        refine r_iald dX8_depotTime_73 sh_71 (by decide) (by decide) ?_
        refine r_aload_n 0 dX8_depotTime_74 rfl rfl ?_
        refine r_iload_n 1 dX8_depotTime_75 rfl rfl ?_
        refine r_aload_n 0 dX8_depotTime_76 rfl rfl ?_
        refine r_getR (j := 16) dX8_depotTime_77 sh_56 rfl kc_8 (by decide) lf_X8_46 ?_
        refine r_iconst dX8_depotTime_80 (by decide) ?_
        refine r_iald dX8_depotTime_81 sh_69 (by decide) (by decide) ?_
        refine r_callV [vI x1, vI (s5 69 0)] [vI (s5 71 0)] dX8_depotTime_82 okX8_fromDepot ivX8_fromDepot seX8_fromDepot lm_X8_89 rfl rfl sh_56 rfl ⟨Nat.le_of_ble_eq_true rfl, Nat.le_of_ble_eq_true rfl, Nat.le_of_ble_eq_true rfl, Nat.le_of_ble_eq_true rfl⟩ h ?_
        rintro _ s9 ⟨r8, rfl, h⟩
        obtain ⟨b10, h⟩ := h
        refine r_isub dX8_depotTime_85 b10 ?_
        exact r_iret dX8_depotTime_86 rfl ⟨_, rfl, h⟩
      · replace h := h.2 c7
        refine r_aload_n 0 dX8_depotTime_32 rfl rfl ?_
        refine r_getR (j := 17) dX8_depotTime_33 sh_56 rfl kc_8 (by decide) lf_X8_49 ?_
        refine r_aload_n 0 dX8_depotTime_36 rfl rfl ?_
        refine r_getI (j := 15) dX8_depotTime_37 sh_56 rfl kc_8 (by decide) lf_X8_82 ?_
        refine r_iconst dX8_depotTime_40 (by decide) ?_
        obtain ⟨b11, h⟩ := h
        refine r_isub dX8_depotTime_41 b11 ?_
        obtain ⟨b12, h⟩ := h
        refine r_iald dX8_depotTime_42 sh_70 b12.1 b12.2 ?_
        refine r_aload_n 0 dX8_depotTime_43 rfl rfl ?_
        refine r_getI (j := 0) dX8_depotTime_44 sh_56 rfl kc_8 (by decide) lf_X8_61 ?_
        obtain ⟨b13, h⟩ := h
        refine r_iadd dX8_depotTime_47 b13 ?_
        refine r_aload_n 0 dX8_depotTime_48 rfl rfl ?_
        refine r_iload_n 1 dX8_depotTime_49 rfl rfl ?_
        refine r_aload_n 0 dX8_depotTime_50 rfl rfl ?_
        refine r_getR (j := 16) dX8_depotTime_51 sh_56 rfl kc_8 (by decide) lf_X8_46 ?_
        refine r_aload_n 0 dX8_depotTime_54 rfl rfl ?_
        refine r_getI (j := 15) dX8_depotTime_55 sh_56 rfl kc_8 (by decide) lf_X8_82 ?_
        refine r_iconst dX8_depotTime_58 (by decide) ?_
        refine r_isub dX8_depotTime_59 b11 ?_
        refine r_iald dX8_depotTime_60 sh_69 b12.1 b12.2 ?_
        refine r_callV [vI x1, vI (s5 69 ((s5 56 15) - 1).toNat)] [vI ((s5 70 ((s5 56 15) - 1).toNat) + (s5 56 0))] dX8_depotTime_61 okX8_fromDepot ivX8_fromDepot seX8_fromDepot lm_X8_89 rfl rfl sh_56 rfl ⟨Nat.le_of_ble_eq_true rfl, Nat.le_of_ble_eq_true rfl, Nat.le_of_ble_eq_true rfl, Nat.le_of_ble_eq_true rfl⟩ h ?_
        rintro _ s15 ⟨r14, rfl, h⟩
        obtain ⟨b16, h⟩ := h
        refine r_iadd dX8_depotTime_64 b16 ?_
        refine r_goto (tgt := 86) dX8_depotTime_65 (by decide) ?_
        exact r_iret dX8_depotTime_86 rfl ⟨_, rfl, h⟩
  · replace h := h.2 c3
    refine r_sipush dX8_depotTime_8 (by decide) (by decide) ?_
    exact r_iret dX8_depotTime_11 rfl ⟨_, rfl, h⟩
set_option maxRecDepth 100000 in
set_option maxHeartbeats 4000000 in
theorem clX8_takeWith (l : Launch) (G : GT) (σ : Sto) (Q : Sto → Prop) (x1 : Int) (x2 : Int) (x3 : Int) (x4 : Int)
    (h : (-2147483648 ≤ 96 + x1 ∧ 96 + x1 ≤ 2147483647) ∧ (0 ≤ (96 + x1) ∧ (96 + x1) < 100) ∧ (-2147483648 ≤ (σ 68 (96 + x1).toNat) + 2 ∧ (σ 68 (96 + x1).toNat) + 2 ≤ 2147483647) ∧ MWv l G mX8_takeWith 21 [(0, vR 56), (1, vI x1), (2, vI x2), (3, vI x3), (4, vI x4), (5, vI 0), (6, vI 0)] [] (stS σ 56 15 ((σ 68 (96 + x1).toNat) + 2)) Q) :
    CLv l G mX8_takeWith [vR 56, vI x1, vI x2, vI x3, vI x4] σ Q := by
  show MWv l G mX8_takeWith 0 [(0, vR 56), (1, vI x1), (2, vI x2), (3, vI x3), (4, vI x4)] [] σ Q
  refine r_aload_n 0 dX8_takeWith_0 rfl rfl ?_
  refine r_aload_n 0 dX8_takeWith_1 rfl rfl ?_
  refine r_getR (j := 14) dX8_takeWith_2 sh_56 rfl kc_8 (by decide) lf_X8_43 ?_
  refine r_bipush dX8_takeWith_5 (by decide) (by decide) ?_
  refine r_iload_n 1 dX8_takeWith_7 rfl rfl ?_
  obtain ⟨b1, h⟩ := h
  refine r_iadd dX8_takeWith_8 b1 ?_
  obtain ⟨b2, h⟩ := h
  refine r_iald dX8_takeWith_9 sh_68 b2.1 b2.2 ?_
  refine r_iconst dX8_takeWith_10 (by decide) ?_
  obtain ⟨b3, h⟩ := h
  refine r_iadd dX8_takeWith_11 b3 ?_
  refine r_putI (j := 15) dX8_takeWith_12 sh_56 rfl kc_8 (by decide) lf_X8_82 rfl (by decide) ?_
  refine r_iconst dX8_takeWith_15 (by decide) ?_
  refine r_istore dX8_takeWith_16 (by decide) rfl ?_
  refine r_iconst dX8_takeWith_18 (by decide) ?_
  refine r_istore dX8_takeWith_19 (by decide) rfl ?_
  refine MWF.sub [2, 3, 4, 5, 6, 1, 0] rfl ?_
  exact h
set_option maxRecDepth 100000 in
set_option maxHeartbeats 4000000 in
theorem vcX8_takeWith_21 (l : Launch) (G : GT) (σ : Sto) (Q : Sto → Prop) (x1 : Int) (x2 : Int) (x3 : Int) (x4 : Int) (x5 : Int) (x6 : Int)
    (h : ((σ 56 15) ≤ x6 → Q σ) ∧ (¬ ((σ 56 15) ≤ x6) → (x6 = x3 → (-2147483648 ≤ 2 * x2 ∧ 2 * x2 ≤ 2147483647) ∧ ∀ y8 : Int, y8 = (if x6 = x4 then 1 else 0) → (-2147483648 ≤ (2 * x2) + y8 ∧ (2 * x2) + y8 ≤ 2147483647) ∧ (0 ≤ x6 ∧ x6 < 26) ∧ (-2147483648 ≤ x6 + 1 ∧ x6 + 1 ≤ 2147483647) ∧ MWv l G mX8_takeWith 21 [(0, vR 56), (1, vI x1), (2, vI x2), (3, vI x3), (4, vI x4), (5, vI x5), (6, vI (x6 + 1))] [] (stS σ 69 x6.toNat ((2 * x2) + y8)) Q) ∧ (¬ (x6 = x3) → (x6 = x4 → (-2147483648 ≤ 2 * x2 ∧ 2 * x2 ≤ 2147483647) ∧ ∀ y18 : Int, y18 = (if x6 = x4 then 1 else 0) → (-2147483648 ≤ (2 * x2) + y18 ∧ (2 * x2) + y18 ≤ 2147483647) ∧ (0 ≤ x6 ∧ x6 < 26) ∧ (-2147483648 ≤ x6 + 1 ∧ x6 + 1 ≤ 2147483647) ∧ MWv l G mX8_takeWith 21 [(0, vR 56), (1, vI x1), (2, vI x2), (3, vI x3), (4, vI x4), (5, vI x5), (6, vI (x6 + 1))] [] (stS σ 69 x6.toNat ((2 * x2) + y18)) Q) ∧ (¬ (x6 = x4) → (-2147483648 ≤ 24 * x1 ∧ 24 * x1 ≤ 2147483647) ∧ (-2147483648 ≤ (24 * x1) + x5 ∧ (24 * x1) + x5 ≤ 2147483647) ∧ (0 ≤ ((24 * x1) + x5) ∧ ((24 * x1) + x5) < 100) ∧ (0 ≤ x6 ∧ x6 < 26) ∧ (-2147483648 ≤ x5 + 1 ∧ x5 + 1 ≤ 2147483647) ∧ (-2147483648 ≤ x6 + 1 ∧ x6 + 1 ≤ 2147483647) ∧ MWv l G mX8_takeWith 21 [(0, vR 56), (1, vI x1), (2, vI x2), (3, vI x3), (4, vI x4), (5, vI (x5 + 1)), (6, vI (x6 + 1))] [] (stS σ 69 x6.toNat (σ 68 ((24 * x1) + x5).toNat)) Q)))) :
    MWv l G mX8_takeWith 21 [(0, vR 56), (1, vI x1), (2, vI x2), (3, vI x3), (4, vI x4), (5, vI x5), (6, vI x6)] [] σ Q := by
  refine r_iload 6 dX8_takeWith_21 rfl ?_
  refine r_aload_n 0 dX8_takeWith_23 rfl rfl ?_
  refine r_getI (j := 15) dX8_takeWith_24 sh_56 rfl kc_8 (by decide) lf_X8_82 ?_
  refine r_icmp_ge (tgt := 97) dX8_takeWith_27 (by decide) (fun (c4 : (σ 56 15) ≤ x6) => ?_) (fun (c4 : ¬ ((σ 56 15) ≤ x6)) => ?_)
  · replace h := h.1 c4
    exact r_vret dX8_takeWith_97 rfl ⟨rfl, h⟩
  · replace h := h.2 c4
    refine r_iload 6 dX8_takeWith_30 rfl ?_
    refine r_iload_n 3 dX8_takeWith_32 rfl rfl ?_
    refine r_icmp_eq (tgt := 43) dX8_takeWith_33 (by decide) (fun (c5 : x6 = x3) => ?_) (fun (c5 : ¬ (x6 = x3)) => ?_)
    · replace h := h.1 c5
      refine r_aload_n 0 dX8_takeWith_43 rfl rfl ?_
      refine r_getR (j := 16) dX8_takeWith_44 sh_56 rfl kc_8 (by decide) lf_X8_46 ?_
      refine r_iload 6 dX8_takeWith_47 rfl ?_
      refine r_iconst dX8_takeWith_49 (by decide) ?_
      refine r_iload_n 2 dX8_takeWith_50 rfl rfl ?_
      obtain ⟨b6, h⟩ := h
      refine r_imul dX8_takeWith_51 b6 ?_
      refine r_iload 6 dX8_takeWith_52 rfl ?_
      refine r_iload 4 dX8_takeWith_54 rfl ?_
      obtain ⟨y8, ey8⟩ : ∃ z : Int, z = (if x6 = x4 then 1 else 0) := ⟨_, rfl⟩
      replace h := h y8 ey8
      have hj9 : MWv l G mX8_takeWith 64 [(0, vR 56), (1, vI x1), (2, vI x2), (3, vI x3), (4, vI x4), (5, vI x5), (6, vI x6)] [vI y8, vI (2 * x2), vI x6, vR 69] σ Q := by
        obtain ⟨b12, h⟩ := h
        refine r_iadd dX8_takeWith_64 b12 ?_
        obtain ⟨b13, h⟩ := h
        refine r_iast dX8_takeWith_65 sh_69 b13.1 b13.2 ?_
        refine r_goto (tgt := 91) dX8_takeWith_66 (by decide) ?_
        obtain ⟨b14, h⟩ := h
        refine r_iinc 6 dX8_takeWith_91 rfl (by decide) b14 rfl ?_
        refine r_goto (tgt := 21) dX8_takeWith_94 (by decide) ?_
        refine MWF.sub [1, 2, 3, 4, 5, 6, 0] rfl ?_
        exact h
      refine r_icmp_ne (tgt := 63) dX8_takeWith_56 (by decide) (fun (c7 : x6 = x4) => ?_) (fun (c7 : ¬ (x6 = x4)) => ?_)
      · refine r_iconst dX8_takeWith_59 (by decide) ?_
        refine r_goto (tgt := 64) dX8_takeWith_60 (by decide) ?_
        refine MWF.sub [0, 1, 2, 3, 4, 5, 6] rfl ?_
        have q10 : y8 = 1 := by rw [ey8, if_pos c7]
        rw [q10] at hj9
        exact hj9
      · refine r_iconst dX8_takeWith_63 (by decide) ?_
        refine MWF.sub [0, 1, 2, 3, 4, 5, 6] rfl ?_
        have q11 : y8 = 0 := by rw [ey8, if_neg c7]
        rw [q11] at hj9
        exact hj9
    · replace h := h.2 c5
      refine r_iload 6 dX8_takeWith_36 rfl ?_
      refine r_iload 4 dX8_takeWith_38 rfl ?_
      refine r_icmp_ne (tgt := 69) dX8_takeWith_40 (by decide) (fun (c15 : x6 = x4) => ?_) (fun (c15 : ¬ (x6 = x4)) => ?_)
      · replace h := h.1 c15
        refine r_aload_n 0 dX8_takeWith_43 rfl rfl ?_
        refine r_getR (j := 16) dX8_takeWith_44 sh_56 rfl kc_8 (by decide) lf_X8_46 ?_
        refine r_iload 6 dX8_takeWith_47 rfl ?_
        refine r_iconst dX8_takeWith_49 (by decide) ?_
        refine r_iload_n 2 dX8_takeWith_50 rfl rfl ?_
        obtain ⟨b16, h⟩ := h
        refine r_imul dX8_takeWith_51 b16 ?_
        refine r_iload 6 dX8_takeWith_52 rfl ?_
        refine r_iload 4 dX8_takeWith_54 rfl ?_
        obtain ⟨y18, ey18⟩ : ∃ z : Int, z = (if x6 = x4 then 1 else 0) := ⟨_, rfl⟩
        replace h := h y18 ey18
        have hj19 : MWv l G mX8_takeWith 64 [(0, vR 56), (1, vI x1), (2, vI x2), (3, vI x3), (4, vI x4), (5, vI x5), (6, vI x6)] [vI y18, vI (2 * x2), vI x6, vR 69] σ Q := by
          obtain ⟨b22, h⟩ := h
          refine r_iadd dX8_takeWith_64 b22 ?_
          obtain ⟨b23, h⟩ := h
          refine r_iast dX8_takeWith_65 sh_69 b23.1 b23.2 ?_
          refine r_goto (tgt := 91) dX8_takeWith_66 (by decide) ?_
          obtain ⟨b24, h⟩ := h
          refine r_iinc 6 dX8_takeWith_91 rfl (by decide) b24 rfl ?_
          refine r_goto (tgt := 21) dX8_takeWith_94 (by decide) ?_
          refine MWF.sub [1, 2, 3, 4, 5, 6, 0] rfl ?_
          exact h
        refine r_icmp_ne (tgt := 63) dX8_takeWith_56 (by decide) (fun (c17 : x6 = x4) => ?_) (fun (c17 : ¬ (x6 = x4)) => ?_)
        · refine r_iconst dX8_takeWith_59 (by decide) ?_
          refine r_goto (tgt := 64) dX8_takeWith_60 (by decide) ?_
          refine MWF.sub [0, 1, 2, 3, 4, 5, 6] rfl ?_
          have q20 : y18 = 1 := by rw [ey18, if_pos c17]
          rw [q20] at hj19
          exact hj19
        · refine r_iconst dX8_takeWith_63 (by decide) ?_
          refine MWF.sub [0, 1, 2, 3, 4, 5, 6] rfl ?_
          have q21 : y18 = 0 := by rw [ey18, if_neg c17]
          rw [q21] at hj19
          exact hj19
      · replace h := h.2 c15
        refine r_aload_n 0 dX8_takeWith_69 rfl rfl ?_
        refine r_getR (j := 16) dX8_takeWith_70 sh_56 rfl kc_8 (by decide) lf_X8_46 ?_
        refine r_iload 6 dX8_takeWith_73 rfl ?_
        refine r_aload_n 0 dX8_takeWith_75 rfl rfl ?_
        refine r_getR (j := 14) dX8_takeWith_76 sh_56 rfl kc_8 (by decide) lf_X8_43 ?_
        refine r_bipush dX8_takeWith_79 (by decide) (by decide) ?_
        refine r_iload_n 1 dX8_takeWith_81 rfl rfl ?_
        obtain ⟨b25, h⟩ := h
        refine r_imul dX8_takeWith_82 b25 ?_
        refine r_iload 5 dX8_takeWith_83 rfl ?_
        obtain ⟨b26, h⟩ := h
        refine r_iadd dX8_takeWith_85 b26 ?_
        obtain ⟨b27, h⟩ := h
        refine r_iald dX8_takeWith_86 sh_68 b27.1 b27.2 ?_
        obtain ⟨b28, h⟩ := h
        refine r_iast dX8_takeWith_87 sh_69 b28.1 b28.2 ?_
        obtain ⟨b29, h⟩ := h
        refine r_iinc 5 dX8_takeWith_88 rfl (by decide) b29 rfl ?_
        obtain ⟨b30, h⟩ := h
        refine r_iinc 6 dX8_takeWith_91 rfl (by decide) b30 rfl ?_
        refine r_goto (tgt := 21) dX8_takeWith_94 (by decide) ?_
        refine MWF.sub [2, 3, 4, 5, 6, 1, 0] rfl ?_
        exact h
set_option maxRecDepth 100000 in
set_option maxHeartbeats 4000000 in
theorem clX8_lay (l : Launch) (G : GT) (σ : Sto) (Q : Sto → Prop) (x1 : Int)
    (h : (-2147483648 ≤ 96 + x1 ∧ 96 + x1 ≤ 2147483647) ∧ (0 ≤ (96 + x1) ∧ (96 + x1) < 100) ∧ MWv l G mX8_lay 15 [(0, vR 56), (1, vI x1), (2, vI 0)] [] (stS σ 68 (96 + x1).toNat (σ 56 15)) Q) :
    CLv l G mX8_lay [vR 56, vI x1] σ Q := by
  show MWv l G mX8_lay 0 [(0, vR 56), (1, vI x1)] [] σ Q
  refine r_aload_n 0 dX8_lay_0 rfl rfl ?_
  refine r_getR (j := 14) dX8_lay_1 sh_56 rfl kc_8 (by decide) lf_X8_43 ?_
  refine r_bipush dX8_lay_4 (by decide) (by decide) ?_
  refine r_iload_n 1 dX8_lay_6 rfl rfl ?_
  obtain ⟨b1, h⟩ := h
  refine r_iadd dX8_lay_7 b1 ?_
  refine r_aload_n 0 dX8_lay_8 rfl rfl ?_
  refine r_getI (j := 15) dX8_lay_9 sh_56 rfl kc_8 (by decide) lf_X8_82 ?_
  obtain ⟨b2, h⟩ := h
  refine r_iast dX8_lay_12 sh_68 b2.1 b2.2 ?_
  refine r_iconst dX8_lay_13 (by decide) ?_
  refine r_istore_n dX8_lay_14 rfl (by decide) rfl ?_
  refine MWF.sub [1, 2, 0] rfl ?_
  exact h
set_option maxRecDepth 100000 in
set_option maxHeartbeats 4000000 in
theorem vcX8_lay_15 (l : Launch) (G : GT) (σ : Sto) (Q : Sto → Prop) (x1 : Int) (x2 : Int)
    (h : ((σ 56 15) ≤ x2 → Q σ) ∧ (¬ ((σ 56 15) ≤ x2) → (-2147483648 ≤ 24 * x1 ∧ 24 * x1 ≤ 2147483647) ∧ (-2147483648 ≤ (24 * x1) + x2 ∧ (24 * x1) + x2 ≤ 2147483647) ∧ (0 ≤ x2 ∧ x2 < 26) ∧ (0 ≤ ((24 * x1) + x2) ∧ ((24 * x1) + x2) < 100) ∧ (-2147483648 ≤ x2 + 1 ∧ x2 + 1 ≤ 2147483647) ∧ MWv l G mX8_lay 15 [(0, vR 56), (1, vI x1), (2, vI (x2 + 1))] [] (stS σ 68 ((24 * x1) + x2).toNat (σ 69 x2.toNat)) Q)) :
    MWv l G mX8_lay 15 [(0, vR 56), (1, vI x1), (2, vI x2)] [] σ Q := by
  refine r_iload_n 2 dX8_lay_15 rfl rfl ?_
  refine r_aload_n 0 dX8_lay_16 rfl rfl ?_
  refine r_getI (j := 15) dX8_lay_17 sh_56 rfl kc_8 (by decide) lf_X8_82 ?_
  refine r_icmp_ge (tgt := 46) dX8_lay_20 (by decide) (fun (c3 : (σ 56 15) ≤ x2) => ?_) (fun (c3 : ¬ ((σ 56 15) ≤ x2)) => ?_)
  · replace h := h.1 c3
    exact r_vret dX8_lay_46 rfl ⟨rfl, h⟩
  · replace h := h.2 c3
    refine r_aload_n 0 dX8_lay_23 rfl rfl ?_
    refine r_getR (j := 14) dX8_lay_24 sh_56 rfl kc_8 (by decide) lf_X8_43 ?_
    refine r_bipush dX8_lay_27 (by decide) (by decide) ?_
    refine r_iload_n 1 dX8_lay_29 rfl rfl ?_
    obtain ⟨b4, h⟩ := h
    refine r_imul dX8_lay_30 b4 ?_
    refine r_iload_n 2 dX8_lay_31 rfl rfl ?_
    obtain ⟨b5, h⟩ := h
    refine r_iadd dX8_lay_32 b5 ?_
    refine r_aload_n 0 dX8_lay_33 rfl rfl ?_
    refine r_getR (j := 16) dX8_lay_34 sh_56 rfl kc_8 (by decide) lf_X8_46 ?_
    refine r_iload_n 2 dX8_lay_37 rfl rfl ?_
    obtain ⟨b6, h⟩ := h
    refine r_iald dX8_lay_38 sh_69 b6.1 b6.2 ?_
    obtain ⟨b7, h⟩ := h
    refine r_iast dX8_lay_39 sh_68 b7.1 b7.2 ?_
    obtain ⟨b8, h⟩ := h
    refine r_iinc 2 dX8_lay_40 rfl (by decide) b8 rfl ?_
    refine r_goto (tgt := 15) dX8_lay_43 (by decide) ?_
    refine MWF.sub [1, 2, 0] rfl ?_
    exact h
set_option maxRecDepth 100000 in
set_option maxHeartbeats 4000000 in
theorem clX8_findBest (l : Launch) (G : GT) (σ : Sto) (Q : Int → Sto → Prop) (x1 : Int) (x2 : Int)
    (h : CLv l G mX8_take [vR 56, vI x2] σ (fun s2 => CLi l G mX8_length [vR 56, vI x2] s2 (fun r3 s4 => MWi l G mX8_findBest 23 [(0, vR 56), (1, vI x1), (2, vI x2), (3, vI 0), (4, vI r3), (5, vI (s4 56 15)), (6, vI 0)] [] s4 Q))) :
    CLi l G mX8_findBest [vR 56, vI x1, vI x2] σ Q := by
  show MWi l G mX8_findBest 0 [(0, vR 56), (1, vI x1), (2, vI x2)] [] σ Q
  refine r_iconst dX8_findBest_0 (by decide) ?_
  refine r_istore_n dX8_findBest_1 rfl (by decide) rfl ?_
  refine r_aload_n 1 dX8_findBest_2 rfl rfl ?_
  refine r_iload_n 3 dX8_findBest_3 rfl rfl ?_
  refine r_callV [vI x2] [] dX8_findBest_4 okX8_take ivX8_take seX8_take lm_X8_107 rfl rfl sh_56 rfl ⟨Nat.le_of_ble_eq_true rfl, Nat.le_of_ble_eq_true rfl, Nat.le_of_ble_eq_true rfl, Nat.le_of_ble_eq_true rfl⟩ h ?_
  rintro _ s2 ⟨rfl, h⟩
  refine r_aload_n 1 dX8_findBest_7 rfl rfl ?_
  refine r_iload_n 3 dX8_findBest_8 rfl rfl ?_
  refine r_callV [vI x2] [] dX8_findBest_9 okX8_length ivX8_length seX8_length lm_X8_126 rfl rfl sh_56 rfl ⟨Nat.le_of_ble_eq_true rfl, Nat.le_of_ble_eq_true rfl, Nat.le_of_ble_eq_true rfl, Nat.le_of_ble_eq_true rfl⟩ h ?_
  rintro _ s4 ⟨r3, rfl, h⟩
  refine r_istore dX8_findBest_12 (by decide) rfl ?_
  refine r_aload_n 2 dX8_findBest_14 rfl rfl ?_
  refine r_getI (j := 15) dX8_findBest_15 sh_56 rfl kc_8 (by decide) lf_X8_82 ?_
  refine r_istore dX8_findBest_18 (by decide) rfl ?_
  refine r_iconst dX8_findBest_20 (by decide) ?_
  refine r_istore dX8_findBest_21 (by decide) rfl ?_
  refine MWF.sub [4, 5, 6, 3, 2, 1, 0] rfl ?_
  exact h
set_option maxRecDepth 100000 in
set_option maxHeartbeats 4000000 in
theorem vcX8_findBest_23 (l : Launch) (G : GT) (σ : Sto) (Q : Int → Sto → Prop) (x1 : Int) (x2 : Int) (x3 : Int) (x4 : Int) (x5 : Int) (x6 : Int)
    (h : (x5 < x6 → (x3 = 0 ∨ x3 = 1) ∧ Q x3 σ) ∧ (¬ (x5 < x6) → (-2147483648 ≤ x6 + 1 ∧ x6 + 1 ≤ 2147483647) ∧ MWi l G mX8_findBest 36 [(0, vR 56), (1, vI x1), (2, vI x2), (3, vI x3), (4, vI x4), (5, vI x5), (6, vI x6), (7, vI (x6 + 1))] [] σ Q)) :
    MWi l G mX8_findBest 23 [(0, vR 56), (1, vI x1), (2, vI x2), (3, vI x3), (4, vI x4), (5, vI x5), (6, vI x6)] [] σ Q := by
  refine r_iload 6 dX8_findBest_23 rfl ?_
  refine r_iload 5 dX8_findBest_25 rfl ?_
  refine r_icmp_gt (tgt := 118) dX8_findBest_27 (by decide) (fun (c5 : x5 < x6) => ?_) (fun (c5 : ¬ (x5 < x6)) => ?_)
  · replace h := h.1 c5
    refine r_iload_n 3 dX8_findBest_118 rfl rfl ?_
    obtain ⟨b6, h⟩ := h
    exact r_zret dX8_findBest_119 rfl b6 ⟨_, rfl, h⟩
  · replace h := h.2 c5
    refine r_iload 6 dX8_findBest_30 rfl ?_
    refine r_iconst dX8_findBest_32 (by decide) ?_
    obtain ⟨b7, h⟩ := h
    refine r_iadd dX8_findBest_33 b7 ?_
    refine r_istore dX8_findBest_34 (by decide) rfl ?_
    refine MWF.sub [1, 2, 3, 4, 5, 6, 7, 0] rfl ?_
    exact h
set_option maxRecDepth 100000 in
set_option maxHeartbeats 4000000 in
theorem vcX8_findBest_36 (l : Launch) (G : GT) (σ : Sto) (Q : Int → Sto → Prop) (x1 : Int) (x2 : Int) (x3 : Int) (x4 : Int) (x5 : Int) (x6 : Int) (x7 : Int)
    (h : (-2147483648 ≤ x5 + 1 ∧ x5 + 1 ≤ 2147483647) ∧ ((x5 + 1) < x7 → (-2147483648 ≤ x6 + 1 ∧ x6 + 1 ≤ 2147483647) ∧ MWi l G mX8_findBest 23 [(0, vR 56), (1, vI x1), (2, vI x2), (3, vI x3), (4, vI x4), (5, vI x5), (6, vI (x6 + 1))] [] σ Q) ∧ (¬ ((x5 + 1) < x7) → CLv l G mX8_takeWith [vR 56, vI x2, vI x1, vI x6, vI x7] σ (fun s12 => CLi l G mX8_length [vR 56, vI x2] s12 (fun r13 s14 => (-2147483648 ≤ r13 - x4 ∧ r13 - x4 ≤ 2147483647) ∧ (x3 = 0 → CLi l G mX8_isFeasible [vR 56, vI x2] s14 (fun r17 s18 => ∀ y20 : Int, y20 = (if r17 = 0 then x3 else 1) → ∀ s21 : Sto, s21 = (if r17 = 0 then s18 else (stS (stS (stS s18 56 19 x6) 56 20 x7) 56 21 (r13 - x4))) → (-2147483648 ≤ x7 + 1 ∧ x7 + 1 ≤ 2147483647) ∧ MWi l G mX8_findBest 36 [(0, vR 56), (1, vI x1), (2, vI x2), (3, vI y20), (4, vI x4), (5, vI x5), (6, vI x6), (7, vI (x7 + 1))] [] s21 Q)) ∧ (¬ (x3 = 0) → ((s14 56 21) ≤ (r13 - x4) → (-2147483648 ≤ x7 + 1 ∧ x7 + 1 ≤ 2147483647) ∧ MWi l G mX8_findBest 36 [(0, vR 56), (1, vI x1), (2, vI x2), (3, vI x3), (4, vI x4), (5, vI x5), (6, vI x6), (7, vI (x7 + 1))] [] s14 Q) ∧ (¬ ((s14 56 21) ≤ (r13 - x4)) → CLi l G mX8_isFeasible [vR 56, vI x2] s14 (fun r30 s31 => ∀ y33 : Int, y33 = (if r30 = 0 then x3 else 1) → ∀ s34 : Sto, s34 = (if r30 = 0 then s31 else (stS (stS (stS s31 56 19 x6) 56 20 x7) 56 21 (r13 - x4))) → (-2147483648 ≤ x7 + 1 ∧ x7 + 1 ≤ 2147483647) ∧ MWi l G mX8_findBest 36 [(0, vR 56), (1, vI x1), (2, vI x2), (3, vI y33), (4, vI x4), (5, vI x5), (6, vI x6), (7, vI (x7 + 1))] [] s34 Q))))))) :
    MWi l G mX8_findBest 36 [(0, vR 56), (1, vI x1), (2, vI x2), (3, vI x3), (4, vI x4), (5, vI x5), (6, vI x6), (7, vI x7)] [] σ Q := by
  refine r_iload 7 dX8_findBest_36 rfl ?_
  refine r_iload 5 dX8_findBest_38 rfl ?_
  refine r_iconst dX8_findBest_40 (by decide) ?_
  obtain ⟨b8, h⟩ := h
  refine r_iadd dX8_findBest_41 b8 ?_
  refine r_icmp_gt (tgt := 112) dX8_findBest_42 (by decide) (fun (c9 : (x5 + 1) < x7) => ?_) (fun (c9 : ¬ ((x5 + 1) < x7)) => ?_)
  · replace h := h.1 c9
    obtain ⟨b10, h⟩ := h
    refine r_iinc 6 dX8_findBest_112 rfl (by decide) b10 rfl ?_
    refine r_goto (tgt := 23) dX8_findBest_115 (by decide) ?_
    refine MWF.sub [1, 2, 3, 4, 5, 6, 0] rfl ?_
    exact h
  · replace h := h.2 c9
    refine r_aload_n 0 dX8_findBest_45 rfl rfl ?_
    refine r_iload_n 2 dX8_findBest_46 rfl rfl ?_
    refine r_iload_n 1 dX8_findBest_47 rfl rfl ?_
    refine r_iload 6 dX8_findBest_48 rfl ?_
    refine r_iload 7 dX8_findBest_50 rfl ?_
    refine r_callV [vI x2, vI x1, vI x6, vI x7] [] dX8_findBest_52 okX8_takeWith ivX8_takeWith seX8_takeWith lm_X8_141 rfl rfl sh_56 rfl ⟨Nat.le_of_ble_eq_true rfl, Nat.le_of_ble_eq_true rfl, Nat.le_of_ble_eq_true rfl, Nat.le_of_ble_eq_true rfl⟩ h ?_
    rintro _ s12 ⟨rfl, h⟩
    refine r_aload_n 0 dX8_findBest_55 rfl rfl ?_
    refine r_iload_n 2 dX8_findBest_56 rfl rfl ?_
    refine r_callV [vI x2] [] dX8_findBest_57 okX8_length ivX8_length seX8_length lm_X8_126 rfl rfl sh_56 rfl ⟨Nat.le_of_ble_eq_true rfl, Nat.le_of_ble_eq_true rfl, Nat.le_of_ble_eq_true rfl, Nat.le_of_ble_eq_true rfl⟩ h ?_
    rintro _ s14 ⟨r13, rfl, h⟩
    refine r_iload 4 dX8_findBest_60 rfl ?_
    obtain ⟨b15, h⟩ := h
    refine r_isub dX8_findBest_62 b15 ?_
    refine r_istore dX8_findBest_63 (by decide) rfl ?_
    refine r_iload_n 4 dX8_findBest_65 rfl rfl ?_
    refine r_if_eq (tgt := 78) dX8_findBest_66 (by decide) (fun (c16 : x3 = 0) => ?_) (fun (c16 : ¬ (x3 = 0)) => ?_)
    · replace h := h.1 c16
      refine r_aload_n 1 dX8_findBest_78 rfl rfl ?_
      refine r_iload_n 3 dX8_findBest_79 rfl rfl ?_
      refine r_callV [vI x2] [] dX8_findBest_80 okX8_isFeasible ivX8_isFeasible seX8_isFeasible lm_X8_111 rfl rfl sh_56 rfl ⟨Nat.le_of_ble_eq_true rfl, Nat.le_of_ble_eq_true rfl, Nat.le_of_ble_eq_true rfl, Nat.le_of_ble_eq_true rfl⟩ h ?_
      rintro _ s18 ⟨r17, rfl, h⟩
      obtain ⟨y20, ey20⟩ : ∃ z : Int, z = (if r17 = 0 then x3 else 1) := ⟨_, rfl⟩
      replace h := h y20 ey20
      obtain ⟨s21, es21⟩ : ∃ z : Sto, z = (if r17 = 0 then s18 else (stS (stS (stS s18 56 19 x6) 56 20 x7) 56 21 (r13 - x4))) := ⟨_, rfl⟩
      replace h := h s21 es21
      have hj22 : MWi l G mX8_findBest 106 [(0, vR 56), (1, vI x1), (2, vI x2), (3, vI y20), (4, vI x4), (5, vI x5), (6, vI x6), (7, vI x7)] [] s21 Q := by
        obtain ⟨b27, h⟩ := h
        refine r_iinc 7 dX8_findBest_106 rfl (by decide) b27 rfl ?_
        refine r_goto (tgt := 36) dX8_findBest_109 (by decide) ?_
        refine MWF.sub [1, 2, 3, 4, 5, 6, 7, 0] rfl ?_
        exact h
      refine r_if_eq (tgt := 106) dX8_findBest_83 (by decide) (fun (c19 : r17 = 0) => ?_) (fun (c19 : ¬ (r17 = 0)) => ?_)
      · refine MWF.sub [1, 2, 3, 4, 5, 6, 7, 8] rfl ?_
        have q23 : y20 = x3 := by rw [ey20, if_pos c19]
        rw [q23] at hj22
        have q24 : s21 = s18 := by rw [es21, if_pos c19]
        rw [q24] at hj22
        exact hj22
      · refine r_iconst dX8_findBest_86 (by decide) ?_
        refine r_istore_n dX8_findBest_87 rfl (by decide) rfl ?_
        refine r_aload_n 2 dX8_findBest_88 rfl rfl ?_
        refine r_iload 7 dX8_findBest_89 rfl ?_
        refine r_putI (j := 19) dX8_findBest_91 sh_56 rfl kc_8 (by decide) lf_X8_148 rfl (by decide) ?_
        refine r_aload_n 2 dX8_findBest_94 rfl rfl ?_
        refine r_iload 8 dX8_findBest_95 rfl ?_
        refine r_putI (j := 20) dX8_findBest_97 sh_56 rfl kc_8 (by decide) lf_X8_151 rfl (by decide) ?_
        refine r_aload_n 2 dX8_findBest_100 rfl rfl ?_
        refine r_iload 1 dX8_findBest_101 rfl ?_
        refine r_putI (j := 21) dX8_findBest_103 sh_56 rfl kc_8 (by decide) lf_X8_145 rfl (by decide) ?_
        refine MWF.sub [2, 3, 4, 0, 5, 6, 7, 8] rfl ?_
        have q25 : y20 = 1 := by rw [ey20, if_neg c19]
        rw [q25] at hj22
        have q26 : s21 = (stS (stS (stS s18 56 19 x6) 56 20 x7) 56 21 (r13 - x4)) := by rw [es21, if_neg c19]
        rw [q26] at hj22
        exact hj22
    · replace h := h.2 c16
      refine r_iload 0 dX8_findBest_69 rfl ?_
      refine r_aload_n 1 dX8_findBest_71 rfl rfl ?_
      refine r_getI (j := 21) dX8_findBest_72 sh_56 rfl kc_8 (by decide) lf_X8_145 ?_
      refine r_icmp_ge (tgt := 106) dX8_findBest_75 (by decide) (fun (c28 : (s14 56 21) ≤ (r13 - x4)) => ?_) (fun (c28 : ¬ ((s14 56 21) ≤ (r13 - x4))) => ?_)
      · replace h := h.1 c28
        obtain ⟨b29, h⟩ := h
        refine r_iinc 8 dX8_findBest_106 rfl (by decide) b29 rfl ?_
        refine r_goto (tgt := 36) dX8_findBest_109 (by decide) ?_
        refine MWF.sub [2, 3, 4, 5, 6, 7, 8, 0] rfl ?_
        exact h
      · replace h := h.2 c28
        refine r_aload_n 1 dX8_findBest_78 rfl rfl ?_
        refine r_iload_n 3 dX8_findBest_79 rfl rfl ?_
        refine r_callV [vI x2] [] dX8_findBest_80 okX8_isFeasible ivX8_isFeasible seX8_isFeasible lm_X8_111 rfl rfl sh_56 rfl ⟨Nat.le_of_ble_eq_true rfl, Nat.le_of_ble_eq_true rfl, Nat.le_of_ble_eq_true rfl, Nat.le_of_ble_eq_true rfl⟩ h ?_
        rintro _ s31 ⟨r30, rfl, h⟩
        obtain ⟨y33, ey33⟩ : ∃ z : Int, z = (if r30 = 0 then x3 else 1) := ⟨_, rfl⟩
        replace h := h y33 ey33
        obtain ⟨s34, es34⟩ : ∃ z : Sto, z = (if r30 = 0 then s31 else (stS (stS (stS s31 56 19 x6) 56 20 x7) 56 21 (r13 - x4))) := ⟨_, rfl⟩
        replace h := h s34 es34
        have hj35 : MWi l G mX8_findBest 106 [(0, vR 56), (1, vI x1), (2, vI x2), (3, vI y33), (4, vI x4), (5, vI x5), (6, vI x6), (7, vI x7)] [] s34 Q := by
          obtain ⟨b40, h⟩ := h
          refine r_iinc 7 dX8_findBest_106 rfl (by decide) b40 rfl ?_
          refine r_goto (tgt := 36) dX8_findBest_109 (by decide) ?_
          refine MWF.sub [1, 2, 3, 4, 5, 6, 7, 0] rfl ?_
          exact h
        refine r_if_eq (tgt := 106) dX8_findBest_83 (by decide) (fun (c32 : r30 = 0) => ?_) (fun (c32 : ¬ (r30 = 0)) => ?_)
        · refine MWF.sub [1, 2, 3, 4, 5, 6, 7, 8] rfl ?_
          have q36 : y33 = x3 := by rw [ey33, if_pos c32]
          rw [q36] at hj35
          have q37 : s34 = s31 := by rw [es34, if_pos c32]
          rw [q37] at hj35
          exact hj35
        · refine r_iconst dX8_findBest_86 (by decide) ?_
          refine r_istore_n dX8_findBest_87 rfl (by decide) rfl ?_
          refine r_aload_n 2 dX8_findBest_88 rfl rfl ?_
          refine r_iload 7 dX8_findBest_89 rfl ?_
          refine r_putI (j := 19) dX8_findBest_91 sh_56 rfl kc_8 (by decide) lf_X8_148 rfl (by decide) ?_
          refine r_aload_n 2 dX8_findBest_94 rfl rfl ?_
          refine r_iload 8 dX8_findBest_95 rfl ?_
          refine r_putI (j := 20) dX8_findBest_97 sh_56 rfl kc_8 (by decide) lf_X8_151 rfl (by decide) ?_
          refine r_aload_n 2 dX8_findBest_100 rfl rfl ?_
          refine r_iload 1 dX8_findBest_101 rfl ?_
          refine r_putI (j := 21) dX8_findBest_103 sh_56 rfl kc_8 (by decide) lf_X8_145 rfl (by decide) ?_
          refine MWF.sub [2, 3, 4, 0, 5, 6, 7, 8] rfl ?_
          have q38 : y33 = 1 := by rw [ey33, if_neg c32]
          rw [q38] at hj35
          have q39 : s34 = (stS (stS (stS s31 56 19 x6) 56 20 x7) 56 21 (r13 - x4)) := by rw [es34, if_neg c32]
          rw [q39] at hj35
          exact hj35
set_option maxRecDepth 100000 in
set_option maxHeartbeats 4000000 in
theorem clX8_putBest (l : Launch) (G : GT) (σ : Sto) (Q : Int → Sto → Prop) (x1 : Int) (x2 : Int)
    (h : CLi l G mX8_findBest [vR 56, vI x1, vI x2] σ (fun r1 s2 => (r1 = 0 → (r1 = 0 ∨ r1 = 1) ∧ Q r1 s2) ∧ (¬ (r1 = 0) → CLv l G mX8_takeWith [vR 56, vI x2, vI x1, vI (s2 56 19), vI (s2 56 20)] s2 (fun s6 => CLv l G mX8_lay [vR 56, vI x2] s6 (fun s8 => (r1 = 0 ∨ r1 = 1) ∧ Q r1 s8))))) :
    CLi l G mX8_putBest [vR 56, vI x1, vI x2] σ Q := by
  show MWi l G mX8_putBest 0 [(0, vR 56), (1, vI x1), (2, vI x2)] [] σ Q
  refine r_aload_n 0 dX8_putBest_0 rfl rfl ?_
  refine r_iload_n 1 dX8_putBest_1 rfl rfl ?_
  refine r_iload_n 2 dX8_putBest_2 rfl rfl ?_
  refine r_callV [vI x1, vI x2] [] dX8_putBest_3 okX8_findBest ivX8_findBest seX8_findBest lm_X8_154 rfl rfl sh_56 rfl ⟨Nat.le_of_ble_eq_true rfl, Nat.le_of_ble_eq_true rfl, Nat.le_of_ble_eq_true rfl, Nat.le_of_ble_eq_true rfl⟩ h ?_
  rintro _ s2 ⟨r1, rfl, h⟩
  refine r_istore_n dX8_putBest_6 rfl (by decide) rfl ?_
  refine r_iload_n 0 dX8_putBest_7 rfl rfl ?_
  refine r_if_eq (tgt := 30) dX8_putBest_8 (by decide) (fun (c3 : r1 = 0) => ?_) (fun (c3 : ¬ (r1 = 0)) => ?_)
  · replace h := h.1 c3
    refine r_iload_n 0 dX8_putBest_30 rfl rfl ?_
    obtain ⟨b4, h⟩ := h
    exact r_zret dX8_putBest_31 rfl b4 ⟨_, rfl, h⟩
  · replace h := h.2 c3
    refine r_aload_n 1 dX8_putBest_11 rfl rfl ?_
    refine r_iload_n 3 dX8_putBest_12 rfl rfl ?_
    refine r_iload_n 2 dX8_putBest_13 rfl rfl ?_
    refine r_aload_n 1 dX8_putBest_14 rfl rfl ?_
    refine r_getI (j := 19) dX8_putBest_15 sh_56 rfl kc_8 (by decide) lf_X8_148 ?_
    refine r_aload_n 1 dX8_putBest_18 rfl rfl ?_
    refine r_getI (j := 20) dX8_putBest_19 sh_56 rfl kc_8 (by decide) lf_X8_151 ?_
    refine r_callV [vI x2, vI x1, vI (s2 56 19), vI (s2 56 20)] [] dX8_putBest_22 okX8_takeWith ivX8_takeWith seX8_takeWith lm_X8_141 rfl rfl sh_56 rfl ⟨Nat.le_of_ble_eq_true rfl, Nat.le_of_ble_eq_true rfl, Nat.le_of_ble_eq_true rfl, Nat.le_of_ble_eq_true rfl⟩ h ?_
    rintro _ s6 ⟨rfl, h⟩
    refine r_aload_n 1 dX8_putBest_25 rfl rfl ?_
    refine r_iload_n 3 dX8_putBest_26 rfl rfl ?_
    refine r_callV [vI x2] [] dX8_putBest_27 okX8_lay ivX8_lay seX8_lay lm_X8_157 rfl rfl sh_56 rfl ⟨Nat.le_of_ble_eq_true rfl, Nat.le_of_ble_eq_true rfl, Nat.le_of_ble_eq_true rfl, Nat.le_of_ble_eq_true rfl⟩ h ?_
    rintro _ s8 ⟨rfl, h⟩
    refine r_iload_n 0 dX8_putBest_30 rfl rfl ?_
    obtain ⟨b9, h⟩ := h
    exact r_zret dX8_putBest_31 rfl b9 ⟨_, rfl, h⟩
set_option maxRecDepth 100000 in
set_option maxHeartbeats 4000000 in
theorem clX8_putAnywhere (l : Launch) (G : GT) (σ : Sto) (Q : Int → Sto → Prop) (x1 : Int) (x2 : Int)
    (h : MWi l G mX8_putAnywhere 8 [(0, vR 56), (1, vI x1), (2, vI x2), (3, vI (-1)), (4, vI 0), (5, vI 0)] [] σ Q) :
    CLi l G mX8_putAnywhere [vR 56, vI x1, vI x2] σ Q := by
  show MWi l G mX8_putAnywhere 0 [(0, vR 56), (1, vI x1), (2, vI x2)] [] σ Q
  refine r_iconst dX8_putAnywhere_0 (by decide) ?_
  refine r_istore_n dX8_putAnywhere_1 rfl (by decide) rfl ?_
  refine r_iconst dX8_putAnywhere_2 (by decide) ?_
  refine r_istore dX8_putAnywhere_3 (by decide) rfl ?_
  refine r_iconst dX8_putAnywhere_5 (by decide) ?_
  refine r_istore dX8_putAnywhere_6 (by decide) rfl ?_
  refine MWF.sub [3, 4, 5, 2, 1, 0] rfl ?_
  exact h
set_option maxRecDepth 100000 in
set_option maxHeartbeats 4000000 in
theorem vcX8_putAnywhere_8 (l : Launch) (G : GT) (σ : Sto) (Q : Int → Sto → Prop) (x1 : Int) (x2 : Int) (x3 : Int) (x4 : Int) (x5 : Int)
    (h : ((σ 56 1) ≤ x5 → (x3 < 0 → Q x3 σ) ∧ (¬ (x3 < 0) → CLi l G mX8_putBest [vR 56, vI x1, vI x3] σ (fun r3 s4 => Q x3 s4))) ∧ (¬ ((σ 56 1) ≤ x5) → (x5 = x2 → (-2147483648 ≤ x5 + 1 ∧ x5 + 1 ≤ 2147483647) ∧ MWi l G mX8_putAnywhere 8 [(0, vR 56), (1, vI x1), (2, vI x2), (3, vI x3), (4, vI x4), (5, vI (x5 + 1))] [] σ Q) ∧ (¬ (x5 = x2) → CLi l G mX8_findBest [vR 56, vI x1, vI x5] σ (fun r7 s8 => ∀ y12 : Int, y12 = (if r7 = 0 then x3 else (if x3 < 0 then x5 else (if x4 ≤ (s8 56 21) then x3 else x5))) → ∀ y13 : Int, y13 = (if r7 = 0 then x4 else (if x3 < 0 then (s8 56 21) else (if x4 ≤ (s8 56 21) then x4 else (s8 56 21)))) → (-2147483648 ≤ x5 + 1 ∧ x5 + 1 ≤ 2147483647) ∧ MWi l G mX8_putAnywhere 8 [(0, vR 56), (1, vI x1), (2, vI x2), (3, vI y12), (4, vI y13), (5, vI (x5 + 1))] [] s8 Q)))) :
    MWi l G mX8_putAnywhere 8 [(0, vR 56), (1, vI x1), (2, vI x2), (3, vI x3), (4, vI x4), (5, vI x5)] [] σ Q := by
  refine r_iload 5 dX8_putAnywhere_8 rfl ?_
  refine r_aload_n 0 dX8_putAnywhere_10 rfl rfl ?_
  refine r_getI (j := 1) dX8_putAnywhere_11 sh_56 rfl kc_8 (by decide) lf_X8_69 ?_
  refine r_icmp_ge (tgt := 61) dX8_putAnywhere_14 (by decide) (fun (c1 : (σ 56 1) ≤ x5) => ?_) (fun (c1 : ¬ ((σ 56 1) ≤ x5)) => ?_)
  · replace h := h.1 c1
    refine r_iload_n 3 dX8_putAnywhere_61 rfl rfl ?_
    refine r_if_lt (tgt := 72) dX8_putAnywhere_62 (by decide) (fun (c2 : x3 < 0) => ?_) (fun (c2 : ¬ (x3 < 0)) => ?_)
    · replace h := h.1 c2
      refine r_iload_n 3 dX8_putAnywhere_72 rfl rfl ?_
      exact r_iret dX8_putAnywhere_73 rfl ⟨_, rfl, h⟩
    · replace h := h.2 c2
      refine r_aload_n 0 dX8_putAnywhere_65 rfl rfl ?_
      refine r_iload_n 1 dX8_putAnywhere_66 rfl rfl ?_
      refine r_iload_n 3 dX8_putAnywhere_67 rfl rfl ?_
      refine r_callV [vI x1, vI x3] [] dX8_putAnywhere_68 okX8_putBest ivX8_putBest seX8_putBest lm_X8_160 rfl rfl sh_56 rfl ⟨Nat.le_of_ble_eq_true rfl, Nat.le_of_ble_eq_true rfl, Nat.le_of_ble_eq_true rfl, Nat.le_of_ble_eq_true rfl⟩ h ?_
      rintro _ s4 ⟨r3, rfl, h⟩
      refine r_pop dX8_putAnywhere_71 ?_
      refine r_iload_n 3 dX8_putAnywhere_72 rfl rfl ?_
      exact r_iret dX8_putAnywhere_73 rfl ⟨_, rfl, h⟩
  · replace h := h.2 c1
    refine r_iload 5 dX8_putAnywhere_17 rfl ?_
    refine r_iload_n 2 dX8_putAnywhere_19 rfl rfl ?_
    refine r_icmp_eq (tgt := 55) dX8_putAnywhere_20 (by decide) (fun (c5 : x5 = x2) => ?_) (fun (c5 : ¬ (x5 = x2)) => ?_)
    · replace h := h.1 c5
      obtain ⟨b6, h⟩ := h
      refine r_iinc 5 dX8_putAnywhere_55 rfl (by decide) b6 rfl ?_
      refine r_goto (tgt := 8) dX8_putAnywhere_58 (by decide) ?_
      refine MWF.sub [1, 2, 3, 4, 5, 0] rfl ?_
      exact h
    · replace h := h.2 c5
      refine r_aload_n 0 dX8_putAnywhere_23 rfl rfl ?_
      refine r_iload_n 1 dX8_putAnywhere_24 rfl rfl ?_
      refine r_iload 5 dX8_putAnywhere_25 rfl ?_
      refine r_callV [vI x1, vI x5] [] dX8_putAnywhere_27 okX8_findBest ivX8_findBest seX8_findBest lm_X8_154 rfl rfl sh_56 rfl ⟨Nat.le_of_ble_eq_true rfl, Nat.le_of_ble_eq_true rfl, Nat.le_of_ble_eq_true rfl, Nat.le_of_ble_eq_true rfl⟩ h ?_
      rintro _ s8 ⟨r7, rfl, h⟩
      obtain ⟨y12, ey12⟩ : ∃ z : Int, z = (if r7 = 0 then x3 else (if x3 < 0 then x5 else (if x4 ≤ (s8 56 21) then x3 else x5))) := ⟨_, rfl⟩
      replace h := h y12 ey12
      obtain ⟨y13, ey13⟩ : ∃ z : Int, z = (if r7 = 0 then x4 else (if x3 < 0 then (s8 56 21) else (if x4 ≤ (s8 56 21) then x4 else (s8 56 21)))) := ⟨_, rfl⟩
      replace h := h y13 ey13
      have hj14 : MWi l G mX8_putAnywhere 55 [(0, vR 56), (1, vI x1), (2, vI x2), (3, vI y12), (4, vI y13), (5, vI x5)] [] s8 Q := by
        obtain ⟨b23, h⟩ := h
        refine r_iinc 5 dX8_putAnywhere_55 rfl (by decide) b23 rfl ?_
        refine r_goto (tgt := 8) dX8_putAnywhere_58 (by decide) ?_
        refine MWF.sub [1, 2, 3, 4, 5, 0] rfl ?_
        exact h
      refine r_if_eq (tgt := 55) dX8_putAnywhere_30 (by decide) (fun (c9 : r7 = 0) => ?_) (fun (c9 : ¬ (r7 = 0)) => ?_)
      · refine MWF.sub [0, 1, 2, 3, 4, 5] rfl ?_
        have q15 : y12 = x3 := by rw [ey12, if_pos c9]
        rw [q15] at hj14
        have q16 : y13 = x4 := by rw [ey13, if_pos c9]
        rw [q16] at hj14
        exact hj14
      · refine r_iload_n 3 dX8_putAnywhere_33 rfl rfl ?_
        refine r_if_lt (tgt := 46) dX8_putAnywhere_34 (by decide) (fun (c10 : x3 < 0) => ?_) (fun (c10 : ¬ (x3 < 0)) => ?_)
        · refine r_iload 5 dX8_putAnywhere_46 rfl ?_
          refine r_istore_n dX8_putAnywhere_48 rfl (by decide) rfl ?_
          refine r_aload_n 1 dX8_putAnywhere_49 rfl rfl ?_
          refine r_getI (j := 21) dX8_putAnywhere_50 sh_56 rfl kc_8 (by decide) lf_X8_145 ?_
          refine r_istore dX8_putAnywhere_53 (by decide) rfl ?_
          refine MWF.sub [2, 3, 4, 1, 0, 5] rfl ?_
          have q17 : y12 = x5 := by rw [ey12, if_neg c9, if_pos c10]
          rw [q17] at hj14
          have q18 : y13 = (s8 56 21) := by rw [ey13, if_neg c9, if_pos c10]
          rw [q18] at hj14
          exact hj14
        · refine r_aload_n 0 dX8_putAnywhere_37 rfl rfl ?_
          refine r_getI (j := 21) dX8_putAnywhere_38 sh_56 rfl kc_8 (by decide) lf_X8_145 ?_
          refine r_iload 4 dX8_putAnywhere_41 rfl ?_
          refine r_icmp_ge (tgt := 55) dX8_putAnywhere_43 (by decide) (fun (c11 : x4 ≤ (s8 56 21)) => ?_) (fun (c11 : ¬ (x4 ≤ (s8 56 21))) => ?_)
          · refine MWF.sub [0, 1, 2, 3, 4, 5] rfl ?_
            have q19 : y12 = x3 := by rw [ey12, if_neg c9, if_neg c10, if_pos c11]
            rw [q19] at hj14
            have q20 : y13 = x4 := by rw [ey13, if_neg c9, if_neg c10, if_pos c11]
            rw [q20] at hj14
            exact hj14
          · refine r_iload 5 dX8_putAnywhere_46 rfl ?_
            refine r_istore_n dX8_putAnywhere_48 rfl (by decide) rfl ?_
            refine r_aload_n 1 dX8_putAnywhere_49 rfl rfl ?_
            refine r_getI (j := 21) dX8_putAnywhere_50 sh_56 rfl kc_8 (by decide) lf_X8_145 ?_
            refine r_istore dX8_putAnywhere_53 (by decide) rfl ?_
            refine MWF.sub [2, 3, 4, 1, 0, 5] rfl ?_
            have q21 : y12 = x5 := by rw [ey12, if_neg c9, if_neg c10, if_neg c11]
            rw [q21] at hj14
            have q22 : y13 = (s8 56 21) := by rw [ey13, if_neg c9, if_neg c10, if_neg c11]
            rw [q22] at hj14
            exact hj14
set_option maxRecDepth 100000 in
set_option maxHeartbeats 4000000 in
theorem clX8_takeOut (l : Launch) (G : GT) (σ : Sto) (Q : Sto → Prop) (x1 : Int)
    (h : CLi l G mX8_vehicleOf [vR 56, vI x1] σ (fun r1 s2 => CLv l G mX8_take [vR 56, vI r1] s2 (fun s4 => MWv l G mX8_takeOut 16 [(0, vR 56), (1, vI x1), (2, vI r1), (3, vI 0), (4, vI 0)] [] s4 Q))) :
    CLv l G mX8_takeOut [vR 56, vI x1] σ Q := by
  show MWv l G mX8_takeOut 0 [(0, vR 56), (1, vI x1)] [] σ Q
  refine r_aload_n 0 dX8_takeOut_0 rfl rfl ?_
  refine r_iload_n 1 dX8_takeOut_1 rfl rfl ?_
  refine r_callV [vI x1] [] dX8_takeOut_2 okX8_vehicleOf ivX8_vehicleOf seX8_vehicleOf lm_X8_114 rfl rfl sh_56 rfl ⟨Nat.le_of_ble_eq_true rfl, Nat.le_of_ble_eq_true rfl, Nat.le_of_ble_eq_true rfl, Nat.le_of_ble_eq_true rfl⟩ h ?_
  rintro _ s2 ⟨r1, rfl, h⟩
  refine r_istore_n dX8_takeOut_5 rfl (by decide) rfl ?_
  refine r_aload_n 1 dX8_takeOut_6 rfl rfl ?_
  refine r_iload_n 0 dX8_takeOut_7 rfl rfl ?_
  refine r_callV [vI r1] [] dX8_takeOut_8 okX8_take ivX8_take seX8_take lm_X8_107 rfl rfl sh_56 rfl ⟨Nat.le_of_ble_eq_true rfl, Nat.le_of_ble_eq_true rfl, Nat.le_of_ble_eq_true rfl, Nat.le_of_ble_eq_true rfl⟩ h ?_
  rintro _ s4 ⟨rfl, h⟩
  refine r_iconst dX8_takeOut_11 (by decide) ?_
  refine r_istore_n dX8_takeOut_12 rfl (by decide) rfl ?_
  refine r_iconst dX8_takeOut_13 (by decide) ?_
  refine r_istore dX8_takeOut_14 (by decide) rfl ?_
  refine MWF.sub [3, 4, 2, 1, 0] rfl ?_
  exact h
set_option maxRecDepth 100000 in
set_option maxHeartbeats 4000000 in
theorem vcX8_takeOut_16 (l : Launch) (G : GT) (σ : Sto) (Q : Sto → Prop) (x1 : Int) (x2 : Int) (x3 : Int) (x4 : Int)
    (h : ((σ 56 15) ≤ x4 → CLv l G mX8_lay [vR 56, vI x2] (stS σ 56 15 x3) (fun s7 => Q s7)) ∧ (¬ ((σ 56 15) ≤ x4) → (0 ≤ x4 ∧ x4 < 26) ∧ (0 ≤ x3 ∧ x3 < 26) ∧ (0 ≤ ((stS σ 69 x3.toNat (σ 69 x4.toNat)) 69 x4.toNat)) ∧ ∀ y12 : Int, y12 = (if (((stS σ 69 x3.toNat (σ 69 x4.toNat)) 69 x4.toNat) / 2) = x1 then 0 else 1) → (-2147483648 ≤ x3 + y12 ∧ x3 + y12 ≤ 2147483647) ∧ (-2147483648 ≤ x4 + 1 ∧ x4 + 1 ≤ 2147483647) ∧ MWv l G mX8_takeOut 16 [(0, vR 56), (1, vI x1), (2, vI x2), (3, vI (x3 + y12)), (4, vI (x4 + 1))] [] (stS σ 69 x3.toNat (σ 69 x4.toNat)) Q)) :
    MWv l G mX8_takeOut 16 [(0, vR 56), (1, vI x1), (2, vI x2), (3, vI x3), (4, vI x4)] [] σ Q := by
  refine r_iload 4 dX8_takeOut_16 rfl ?_
  refine r_aload_n 0 dX8_takeOut_18 rfl rfl ?_
  refine r_getI (j := 15) dX8_takeOut_19 sh_56 rfl kc_8 (by decide) lf_X8_82 ?_
  refine r_icmp_ge (tgt := 65) dX8_takeOut_22 (by decide) (fun (c5 : (σ 56 15) ≤ x4) => ?_) (fun (c5 : ¬ ((σ 56 15) ≤ x4)) => ?_)
  · replace h := h.1 c5
    refine r_aload_n 0 dX8_takeOut_65 rfl rfl ?_
    refine r_iload_n 3 dX8_takeOut_66 rfl rfl ?_
    refine r_putI (j := 15) dX8_takeOut_67 sh_56 rfl kc_8 (by decide) lf_X8_82 rfl (by decide) ?_
    refine r_aload_n 0 dX8_takeOut_70 rfl rfl ?_
    refine r_iload_n 2 dX8_takeOut_71 rfl rfl ?_
    refine r_callV [vI x2] [] dX8_takeOut_72 okX8_lay ivX8_lay seX8_lay lm_X8_157 rfl rfl sh_56 rfl ⟨Nat.le_of_ble_eq_true rfl, Nat.le_of_ble_eq_true rfl, Nat.le_of_ble_eq_true rfl, Nat.le_of_ble_eq_true rfl⟩ h ?_
    rintro _ s7 ⟨rfl, h⟩
    exact r_vret dX8_takeOut_75 rfl ⟨rfl, h⟩
  · replace h := h.2 c5
    refine r_aload_n 0 dX8_takeOut_25 rfl rfl ?_
    refine r_getR (j := 16) dX8_takeOut_26 sh_56 rfl kc_8 (by decide) lf_X8_46 ?_
    refine r_iload_n 3 dX8_takeOut_29 rfl rfl ?_
    refine r_aload_n 0 dX8_takeOut_30 rfl rfl ?_
    refine r_getR (j := 16) dX8_takeOut_31 sh_56 rfl kc_8 (by decide) lf_X8_46 ?_
    refine r_iload 4 dX8_takeOut_34 rfl ?_
    obtain ⟨b8, h⟩ := h
    refine r_iald dX8_takeOut_36 sh_69 b8.1 b8.2 ?_
    obtain ⟨b9, h⟩ := h
    refine r_iast dX8_takeOut_37 sh_69 b9.1 b9.2 ?_
    refine r_iload_n 3 dX8_takeOut_38 rfl rfl ?_
    refine r_aload_n 0 dX8_takeOut_39 rfl rfl ?_
    refine r_getR (j := 16) dX8_takeOut_40 sh_56 rfl kc_8 (by decide) lf_X8_46 ?_
    refine r_iload 4 dX8_takeOut_43 rfl ?_
    refine r_iald dX8_takeOut_45 sh_69 b8.1 b8.2 ?_
    refine r_iconst dX8_takeOut_46 (by decide) ?_
    obtain ⟨b10, h⟩ := h
    refine r_idiv dX8_takeOut_47 b10 (by decide) ?_
    refine r_iload_n 1 dX8_takeOut_48 rfl rfl ?_
    obtain ⟨y12, ey12⟩ : ∃ z : Int, z = (if (((stS σ 69 x3.toNat (σ 69 x4.toNat)) 69 x4.toNat) / 2) = x1 then 0 else 1) := ⟨_, rfl⟩
    replace h := h y12 ey12
    have hj13 : MWv l G mX8_takeOut 57 [(0, vR 56), (1, vI x1), (2, vI x2), (4, vI x4)] [vI y12, vI x3] (stS σ 69 x3.toNat (σ 69 x4.toNat)) Q := by
      obtain ⟨b16, h⟩ := h
      refine r_iadd dX8_takeOut_57 b16 ?_
      refine r_istore_n dX8_takeOut_58 rfl (by decide) rfl ?_
      obtain ⟨b17, h⟩ := h
      refine r_iinc 4 dX8_takeOut_59 rfl (by decide) b17 rfl ?_
      refine r_goto (tgt := 16) dX8_takeOut_62 (by decide) ?_
      refine MWF.sub [2, 3, 4, 1, 0] rfl ?_
      exact h
    refine r_icmp_eq (tgt := 56) dX8_takeOut_49 (by decide) (fun (c11 : (((stS σ 69 x3.toNat (σ 69 x4.toNat)) 69 x4.toNat) / 2) = x1) => ?_) (fun (c11 : ¬ ((((stS σ 69 x3.toNat (σ 69 x4.toNat)) 69 x4.toNat) / 2) = x1)) => ?_)
    · refine r_iconst dX8_takeOut_56 (by decide) ?_
      refine MWF.sub [0, 1, 2, 4] rfl ?_
      have q14 : y12 = 0 := by rw [ey12, if_pos c11]
      rw [q14] at hj13
      exact hj13
    · refine r_iconst dX8_takeOut_52 (by decide) ?_
      refine r_goto (tgt := 57) dX8_takeOut_53 (by decide) ?_
      refine MWF.sub [0, 1, 2, 4] rfl ?_
      have q15 : y12 = 1 := by rw [ey12, if_neg c11]
      rw [q15] at hj13
      exact hj13
set_option maxRecDepth 100000 in
set_option maxHeartbeats 4000000 in
theorem clX8_putAside (l : Launch) (G : GT) (σ : Sto) (Q : Sto → Prop) 
    (h : MWv l G mX8_putAside 2 [(0, vR 56), (1, vI 0)] [] σ Q) :
    CLv l G mX8_putAside [vR 56] σ Q := by
  show MWv l G mX8_putAside 0 [(0, vR 56)] [] σ Q
  refine r_iconst dX8_putAside_0 (by decide) ?_
  refine r_istore_n dX8_putAside_1 rfl (by decide) rfl ?_
  refine MWF.sub [1, 0] rfl ?_
  exact h
set_option maxRecDepth 100000 in
set_option maxHeartbeats 4000000 in
theorem vcX8_putAside_2 (l : Launch) (G : GT) (σ : Sto) (Q : Sto → Prop) (x1 : Int)
    (h : (100 ≤ x1 → Q σ) ∧ (¬ (100 ≤ x1) → (0 ≤ x1 ∧ x1 < 100) ∧ (-2147483648 ≤ x1 + 1 ∧ x1 + 1 ≤ 2147483647) ∧ MWv l G mX8_putAside 2 [(0, vR 56), (1, vI (x1 + 1))] [] (stS σ 73 x1.toNat (σ 68 x1.toNat)) Q)) :
    MWv l G mX8_putAside 2 [(0, vR 56), (1, vI x1)] [] σ Q := by
  refine r_iload_n 1 dX8_putAside_2 rfl rfl ?_
  refine r_bipush dX8_putAside_3 (by decide) (by decide) ?_
  refine r_icmp_ge (tgt := 26) dX8_putAside_5 (by decide) (fun (c1 : 100 ≤ x1) => ?_) (fun (c1 : ¬ (100 ≤ x1)) => ?_)
  · replace h := h.1 c1
    exact r_vret dX8_putAside_26 rfl ⟨rfl, h⟩
  · replace h := h.2 c1
    refine r_aload_n 0 dX8_putAside_8 rfl rfl ?_
    refine r_getR (j := 24) dX8_putAside_9 sh_56 rfl kc_8 (by decide) lf_X8_58 ?_
    refine r_iload_n 1 dX8_putAside_12 rfl rfl ?_
    refine r_aload_n 0 dX8_putAside_13 rfl rfl ?_
    refine r_getR (j := 14) dX8_putAside_14 sh_56 rfl kc_8 (by decide) lf_X8_43 ?_
    refine r_iload_n 1 dX8_putAside_17 rfl rfl ?_
    obtain ⟨b2, h⟩ := h
    refine r_iald dX8_putAside_18 sh_68 b2.1 b2.2 ?_
    refine r_iast dX8_putAside_19 sh_73 b2.1 b2.2 ?_
    obtain ⟨b3, h⟩ := h
    refine r_iinc 1 dX8_putAside_20 rfl (by decide) b3 rfl ?_
    refine r_goto (tgt := 2) dX8_putAside_23 (by decide) ?_
    refine MWF.sub [1, 0] rfl ?_
    exact h
set_option maxRecDepth 100000 in
set_option maxHeartbeats 4000000 in
theorem clX8_takeBack (l : Launch) (G : GT) (σ : Sto) (Q : Sto → Prop) 
    (h : MWv l G mX8_takeBack 2 [(0, vR 56), (1, vI 0)] [] σ Q) :
    CLv l G mX8_takeBack [vR 56] σ Q := by
  show MWv l G mX8_takeBack 0 [(0, vR 56)] [] σ Q
  refine r_iconst dX8_takeBack_0 (by decide) ?_
  refine r_istore_n dX8_takeBack_1 rfl (by decide) rfl ?_
  refine MWF.sub [1, 0] rfl ?_
  exact h
set_option maxRecDepth 100000 in
set_option maxHeartbeats 4000000 in
theorem vcX8_takeBack_2 (l : Launch) (G : GT) (σ : Sto) (Q : Sto → Prop) (x1 : Int)
    (h : (100 ≤ x1 → Q σ) ∧ (¬ (100 ≤ x1) → (0 ≤ x1 ∧ x1 < 100) ∧ (-2147483648 ≤ x1 + 1 ∧ x1 + 1 ≤ 2147483647) ∧ MWv l G mX8_takeBack 2 [(0, vR 56), (1, vI (x1 + 1))] [] (stS σ 68 x1.toNat (σ 73 x1.toNat)) Q)) :
    MWv l G mX8_takeBack 2 [(0, vR 56), (1, vI x1)] [] σ Q := by
  refine r_iload_n 1 dX8_takeBack_2 rfl rfl ?_
  refine r_bipush dX8_takeBack_3 (by decide) (by decide) ?_
  refine r_icmp_ge (tgt := 26) dX8_takeBack_5 (by decide) (fun (c1 : 100 ≤ x1) => ?_) (fun (c1 : ¬ (100 ≤ x1)) => ?_)
  · replace h := h.1 c1
    exact r_vret dX8_takeBack_26 rfl ⟨rfl, h⟩
  · replace h := h.2 c1
    refine r_aload_n 0 dX8_takeBack_8 rfl rfl ?_
    refine r_getR (j := 14) dX8_takeBack_9 sh_56 rfl kc_8 (by decide) lf_X8_43 ?_
    refine r_iload_n 1 dX8_takeBack_12 rfl rfl ?_
    refine r_aload_n 0 dX8_takeBack_13 rfl rfl ?_
    refine r_getR (j := 24) dX8_takeBack_14 sh_56 rfl kc_8 (by decide) lf_X8_58 ?_
    refine r_iload_n 1 dX8_takeBack_17 rfl rfl ?_
    obtain ⟨b2, h⟩ := h
    refine r_iald dX8_takeBack_18 sh_73 b2.1 b2.2 ?_
    refine r_iast dX8_takeBack_19 sh_68 b2.1 b2.2 ?_
    obtain ⟨b3, h⟩ := h
    refine r_iinc 1 dX8_takeBack_20 rfl (by decide) b3 rfl ?_
    refine r_goto (tgt := 2) dX8_takeBack_23 (by decide) ?_
    refine MWF.sub [1, 0] rfl ?_
    exact h
set_option maxRecDepth 100000 in
set_option maxHeartbeats 4000000 in
theorem clX8_keep (l : Launch) (G : GT) (σ : Sto) (Q : Sto → Prop) 
    (h : ((σ 56 22) = 10 → (-2147483648 ≤ (σ 56 22) - 1 ∧ (σ 56 22) - 1 ≤ 2147483647) ∧ MWv l G mX8_keep 21 [(0, vR 56), (1, vI 0)] [] (stS σ 56 22 ((σ 56 22) - 1)) Q) ∧ (¬ ((σ 56 22) = 10) → MWv l G mX8_keep 55 [(0, vR 56), (1, vI 0)] [] σ Q)) :
    CLv l G mX8_keep [vR 56] σ Q := by
  show MWv l G mX8_keep 0 [(0, vR 56)] [] σ Q
  refine r_aload_n 0 dX8_keep_0 rfl rfl ?_
  refine r_getI (j := 22) dX8_keep_1 sh_56 rfl kc_8 (by decide) lf_X8_79 ?_
  refine r_bipush dX8_keep_4 (by decide) (by decide) ?_
  refine r_icmp_ne (tgt := 53) dX8_keep_6 (by decide) (fun (c1 : (σ 56 22) = 10) => ?_) (fun (c1 : ¬ ((σ 56 22) = 10)) => ?_)
  · replace h := h.1 c1
    refine r_aload_n 0 dX8_keep_9 rfl rfl ?_
    refine r_dup dX8_keep_10 ?_
    refine r_getI (j := 22) dX8_keep_11 sh_56 rfl kc_8 (by decide) lf_X8_79 ?_
    refine r_iconst dX8_keep_14 (by decide) ?_
    obtain ⟨b2, h⟩ := h
    refine r_isub dX8_keep_15 b2 ?_
    refine r_putI (j := 22) dX8_keep_16 sh_56 rfl kc_8 (by decide) lf_X8_79 rfl (by decide) ?_
    refine r_iconst dX8_keep_19 (by decide) ?_
    refine r_istore_n dX8_keep_20 rfl (by decide) rfl ?_
    refine MWF.sub [1, 0] rfl ?_
    exact h
  · replace h := h.2 c1
    refine r_iconst dX8_keep_53 (by decide) ?_
    refine r_istore_n dX8_keep_54 rfl (by decide) rfl ?_
    refine MWF.sub [1, 0] rfl ?_
    exact h
set_option maxRecDepth 100000 in
set_option maxHeartbeats 4000000 in
theorem vcX8_keep_21 (l : Launch) (G : GT) (σ : Sto) (Q : Sto → Prop) (x1 : Int)
    (h : (-2147483648 ≤ 100 * (σ 56 22) ∧ 100 * (σ 56 22) ≤ 2147483647) ∧ ((100 * (σ 56 22)) ≤ x1 → MWv l G mX8_keep 55 [(0, vR 56), (1, vI 0)] [] σ Q) ∧ (¬ ((100 * (σ 56 22)) ≤ x1) → (-2147483648 ≤ x1 + 100 ∧ x1 + 100 ≤ 2147483647) ∧ (0 ≤ (x1 + 100) ∧ (x1 + 100) < 1000) ∧ (0 ≤ x1 ∧ x1 < 1000) ∧ (-2147483648 ≤ x1 + 1 ∧ x1 + 1 ≤ 2147483647) ∧ MWv l G mX8_keep 21 [(0, vR 56), (1, vI (x1 + 1))] [] (stS σ 72 x1.toNat (σ 72 (x1 + 100).toNat)) Q)) :
    MWv l G mX8_keep 21 [(0, vR 56), (1, vI x1)] [] σ Q := by
  refine r_iload_n 1 dX8_keep_21 rfl rfl ?_
  refine r_bipush dX8_keep_22 (by decide) (by decide) ?_
  refine r_aload_n 0 dX8_keep_24 rfl rfl ?_
  refine r_getI (j := 22) dX8_keep_25 sh_56 rfl kc_8 (by decide) lf_X8_79 ?_
  obtain ⟨b3, h⟩ := h
  refine r_imul dX8_keep_28 b3 ?_
  refine r_icmp_ge (tgt := 53) dX8_keep_29 (by decide) (fun (c4 : (100 * (σ 56 22)) ≤ x1) => ?_) (fun (c4 : ¬ ((100 * (σ 56 22)) ≤ x1)) => ?_)
  · replace h := h.1 c4
    refine r_iconst dX8_keep_53 (by decide) ?_
    refine r_istore_n dX8_keep_54 rfl (by decide) rfl ?_
    refine MWF.sub [1, 0] rfl ?_
    exact h
  · replace h := h.2 c4
    refine r_aload_n 0 dX8_keep_32 rfl rfl ?_
    refine r_getR (j := 23) dX8_keep_33 sh_56 rfl kc_8 (by decide) lf_X8_55 ?_
    refine r_iload_n 1 dX8_keep_36 rfl rfl ?_
    refine r_aload_n 0 dX8_keep_37 rfl rfl ?_
    refine r_getR (j := 23) dX8_keep_38 sh_56 rfl kc_8 (by decide) lf_X8_55 ?_
    refine r_iload_n 1 dX8_keep_41 rfl rfl ?_
    refine r_bipush dX8_keep_42 (by decide) (by decide) ?_
    obtain ⟨b5, h⟩ := h
    refine r_iadd dX8_keep_44 b5 ?_
    obtain ⟨b6, h⟩ := h
    refine r_iald dX8_keep_45 sh_72 b6.1 b6.2 ?_
    obtain ⟨b7, h⟩ := h
    refine r_iast dX8_keep_46 sh_72 b7.1 b7.2 ?_
    obtain ⟨b8, h⟩ := h
    refine r_iinc 1 dX8_keep_47 rfl (by decide) b8 rfl ?_
    refine r_goto (tgt := 21) dX8_keep_50 (by decide) ?_
    refine MWF.sub [1, 0] rfl ?_
    exact h
set_option maxRecDepth 100000 in
set_option maxHeartbeats 4000000 in
theorem vcX8_keep_55 (l : Launch) (G : GT) (σ : Sto) (Q : Sto → Prop) (x1 : Int)
    (h : (100 ≤ x1 → (-2147483648 ≤ (σ 56 22) + 1 ∧ (σ 56 22) + 1 ≤ 2147483647) ∧ Q (stS σ 56 22 ((σ 56 22) + 1))) ∧ (¬ (100 ≤ x1) → (-2147483648 ≤ 100 * (σ 56 22) ∧ 100 * (σ 56 22) ≤ 2147483647) ∧ (-2147483648 ≤ (100 * (σ 56 22)) + x1 ∧ (100 * (σ 56 22)) + x1 ≤ 2147483647) ∧ (0 ≤ x1 ∧ x1 < 100) ∧ (0 ≤ ((100 * (σ 56 22)) + x1) ∧ ((100 * (σ 56 22)) + x1) < 1000) ∧ (-2147483648 ≤ x1 + 1 ∧ x1 + 1 ≤ 2147483647) ∧ MWv l G mX8_keep 55 [(0, vR 56), (1, vI (x1 + 1))] [] (stS σ 72 ((100 * (σ 56 22)) + x1).toNat (σ 73 x1.toNat)) Q)) :
    MWv l G mX8_keep 55 [(0, vR 56), (1, vI x1)] [] σ Q := by
  refine r_iload_n 1 dX8_keep_55 rfl rfl ?_
  refine r_bipush dX8_keep_56 (by decide) (by decide) ?_
  refine r_icmp_ge (tgt := 87) dX8_keep_58 (by decide) (fun (c9 : 100 ≤ x1) => ?_) (fun (c9 : ¬ (100 ≤ x1)) => ?_)
  · replace h := h.1 c9
    refine r_aload_n 0 dX8_keep_87 rfl rfl ?_
    refine r_dup dX8_keep_88 ?_
    refine r_getI (j := 22) dX8_keep_89 sh_56 rfl kc_8 (by decide) lf_X8_79 ?_
    refine r_iconst dX8_keep_92 (by decide) ?_
    obtain ⟨b10, h⟩ := h
    refine r_iadd dX8_keep_93 b10 ?_
    refine r_putI (j := 22) dX8_keep_94 sh_56 rfl kc_8 (by decide) lf_X8_79 rfl (by decide) ?_
    exact r_vret dX8_keep_97 rfl ⟨rfl, h⟩
  · replace h := h.2 c9
    refine r_aload_n 0 dX8_keep_61 rfl rfl ?_
    refine r_getR (j := 23) dX8_keep_62 sh_56 rfl kc_8 (by decide) lf_X8_55 ?_
    refine r_bipush dX8_keep_65 (by decide) (by decide) ?_
    refine r_aload_n 0 dX8_keep_67 rfl rfl ?_
    refine r_getI (j := 22) dX8_keep_68 sh_56 rfl kc_8 (by decide) lf_X8_79 ?_
    obtain ⟨b11, h⟩ := h
    refine r_imul dX8_keep_71 b11 ?_
    refine r_iload_n 1 dX8_keep_72 rfl rfl ?_
    obtain ⟨b12, h⟩ := h
    refine r_iadd dX8_keep_73 b12 ?_
    refine r_aload_n 0 dX8_keep_74 rfl rfl ?_
    refine r_getR (j := 24) dX8_keep_75 sh_56 rfl kc_8 (by decide) lf_X8_58 ?_
    refine r_iload_n 1 dX8_keep_78 rfl rfl ?_
    obtain ⟨b13, h⟩ := h
    refine r_iald dX8_keep_79 sh_73 b13.1 b13.2 ?_
    obtain ⟨b14, h⟩ := h
    refine r_iast dX8_keep_80 sh_72 b14.1 b14.2 ?_
    obtain ⟨b15, h⟩ := h
    refine r_iinc 1 dX8_keep_81 rfl (by decide) b15 rfl ?_
    refine r_goto (tgt := 55) dX8_keep_84 (by decide) ?_
    refine MWF.sub [1, 0] rfl ?_
    exact h
set_option maxRecDepth 100000 in
set_option maxHeartbeats 4000000 in
theorem clX8_insertBarred (l : Launch) (G : GT) (σ : Sto) (Q : Int → Sto → Prop) (x1 : Int) (x2 : Int) (x3 : Int) (x4 : Int)
    (h : CLi l G mX8_noRequest [vR 56, vI x1] σ (fun r1 s2 => (r1 = 0 → CLi l G mX8_noVehicle [vR 56, vI x2] s2 (fun r4 s5 => (r4 = 0 → (-2147483648 ≤ 96 + x2 ∧ 96 + x2 ≤ 2147483647) ∧ (0 ≤ (96 + x2) ∧ (96 + x2) < 100) ∧ CLi l G mX8_in [vI x3, vI 0, vI (s5 68 (96 + x2).toNat)] s5 (fun r9 s10 => (r9 = 0 → Q (-1002) s10) ∧ (¬ (r9 = 0) → (-2147483648 ≤ x3 + 1 ∧ x3 + 1 ≤ 2147483647) ∧ (-2147483648 ≤ (s10 68 (96 + x2).toNat) + 1 ∧ (s10 68 (96 + x2).toNat) + 1 ≤ 2147483647) ∧ CLi l G mX8_in [vI x4, vI (x3 + 1), vI ((s10 68 (96 + x2).toNat) + 1)] s10 (fun r14 s15 => (r14 = 0 → Q (-1002) s15) ∧ (¬ (r14 = 0) → CLi l G mX8_vehicleOf [vR 56, vI x1] s15 (fun r17 s18 => (r17 < 0 → CLv l G mX8_takeWith [vR 56, vI x2, vI x1, vI x3, vI x4] s18 (fun s21 => CLi l G mX8_isFeasible [vR 56, vI x2] s21 (fun r22 s23 => ∀ y25 : Int, y25 = (if r22 = 0 then (-1005) else 0) → Q y25 s23))) ∧ (¬ (r17 < 0) → Q (-1003) s18))))))) ∧ (¬ (r4 = 0) → Q (-1001) s5))) ∧ (¬ (r1 = 0) → Q (-1001) s2))) :
    CLi l G mX8_insertBarred [vR 56, vI x1, vI x2, vI x3, vI x4] σ Q := by
  show MWi l G mX8_insertBarred 0 [(0, vR 56), (1, vI x1), (2, vI x2), (3, vI x3), (4, vI x4)] [] σ Q
  refine r_aload_n 0 dX8_insertBarred_0 rfl rfl ?_
  refine r_iload_n 1 dX8_insertBarred_1 rfl rfl ?_
  refine r_callV [vI x1] [] dX8_insertBarred_2 okX8_noRequest ivX8_noRequest seX8_noRequest lm_X8_120 rfl rfl sh_56 rfl ⟨Nat.le_of_ble_eq_true rfl, Nat.le_of_ble_eq_true rfl, Nat.le_of_ble_eq_true rfl, Nat.le_of_ble_eq_true rfl⟩ h ?_
  rintro _ s2 ⟨r1, rfl, h⟩
  refine r_if_ne (tgt := 16) dX8_insertBarred_5 (by decide) (fun (c3 : r1 = 0) => ?_) (fun (c3 : ¬ (r1 = 0)) => ?_)
  · replace h := h.1 c3
    refine r_aload_n 0 dX8_insertBarred_8 rfl rfl ?_
    refine r_iload_n 2 dX8_insertBarred_9 rfl rfl ?_
    refine r_callV [vI x2] [] dX8_insertBarred_10 okX8_noVehicle ivX8_noVehicle seX8_noVehicle lm_X8_132 rfl rfl sh_56 rfl ⟨Nat.le_of_ble_eq_true rfl, Nat.le_of_ble_eq_true rfl, Nat.le_of_ble_eq_true rfl, Nat.le_of_ble_eq_true rfl⟩ h ?_
    rintro _ s5 ⟨r4, rfl, h⟩
    refine r_if_eq (tgt := 20) dX8_insertBarred_13 (by decide) (fun (c6 : r4 = 0) => ?_) (fun (c6 : ¬ (r4 = 0)) => ?_)
    · replace h := h.1 c6
      refine r_iload_n 3 dX8_insertBarred_20 rfl rfl ?_
      refine r_iconst dX8_insertBarred_21 (by decide) ?_
      refine r_aload_n 0 dX8_insertBarred_22 rfl rfl ?_
      refine r_getR (j := 14) dX8_insertBarred_23 sh_56 rfl kc_8 (by decide) lf_X8_43 ?_
      refine r_bipush dX8_insertBarred_26 (by decide) (by decide) ?_
      refine r_iload_n 2 dX8_insertBarred_28 rfl rfl ?_
      obtain ⟨b7, h⟩ := h
      refine r_iadd dX8_insertBarred_29 b7 ?_
      obtain ⟨b8, h⟩ := h
      refine r_iald dX8_insertBarred_30 sh_68 b8.1 b8.2 ?_
      refine r_callS [vI x3, vI 0, vI (s5 68 (96 + x2).toNat)] [] dX8_insertBarred_31 okX8_in ssX8_in lm_X8_65 rfl rfl ⟨Nat.le_of_ble_eq_true rfl, Nat.le_of_ble_eq_true rfl, Nat.le_of_ble_eq_true rfl, Nat.le_of_ble_eq_true rfl⟩ h ?_
      rintro _ s10 ⟨r9, rfl, h⟩
      refine r_if_eq (tgt := 59) dX8_insertBarred_34 (by decide) (fun (c11 : r9 = 0) => ?_) (fun (c11 : ¬ (r9 = 0)) => ?_)
      · replace h := h.1 c11
        refine r_sipush dX8_insertBarred_59 (by decide) (by decide) ?_
        exact r_iret dX8_insertBarred_62 rfl ⟨_, rfl, h⟩
      · replace h := h.2 c11
        refine r_iload 4 dX8_insertBarred_37 rfl ?_
        refine r_iload_n 3 dX8_insertBarred_39 rfl rfl ?_
        refine r_iconst dX8_insertBarred_40 (by decide) ?_
        obtain ⟨b12, h⟩ := h
        refine r_iadd dX8_insertBarred_41 b12 ?_
        refine r_aload_n 0 dX8_insertBarred_42 rfl rfl ?_
        refine r_getR (j := 14) dX8_insertBarred_43 sh_56 rfl kc_8 (by decide) lf_X8_43 ?_
        refine r_bipush dX8_insertBarred_46 (by decide) (by decide) ?_
        refine r_iload_n 2 dX8_insertBarred_48 rfl rfl ?_
        refine r_iadd dX8_insertBarred_49 b7 ?_
        refine r_iald dX8_insertBarred_50 sh_68 b8.1 b8.2 ?_
        refine r_iconst dX8_insertBarred_51 (by decide) ?_
        obtain ⟨b13, h⟩ := h
        refine r_iadd dX8_insertBarred_52 b13 ?_
        refine r_callS [vI x4, vI (x3 + 1), vI ((s10 68 (96 + x2).toNat) + 1)] [] dX8_insertBarred_53 okX8_in ssX8_in lm_X8_65 rfl rfl ⟨Nat.le_of_ble_eq_true rfl, Nat.le_of_ble_eq_true rfl, Nat.le_of_ble_eq_true rfl, Nat.le_of_ble_eq_true rfl⟩ h ?_
        rintro _ s15 ⟨r14, rfl, h⟩
        refine r_if_ne (tgt := 63) dX8_insertBarred_56 (by decide) (fun (c16 : r14 = 0) => ?_) (fun (c16 : ¬ (r14 = 0)) => ?_)
        · replace h := h.1 c16
          refine r_sipush dX8_insertBarred_59 (by decide) (by decide) ?_
          exact r_iret dX8_insertBarred_62 rfl ⟨_, rfl, h⟩
        · replace h := h.2 c16
          refine r_aload_n 0 dX8_insertBarred_63 rfl rfl ?_
          refine r_iload_n 1 dX8_insertBarred_64 rfl rfl ?_
          refine r_callV [vI x1] [] dX8_insertBarred_65 okX8_vehicleOf ivX8_vehicleOf seX8_vehicleOf lm_X8_114 rfl rfl sh_56 rfl ⟨Nat.le_of_ble_eq_true rfl, Nat.le_of_ble_eq_true rfl, Nat.le_of_ble_eq_true rfl, Nat.le_of_ble_eq_true rfl⟩ h ?_
          rintro _ s18 ⟨r17, rfl, h⟩
          refine r_if_lt (tgt := 75) dX8_insertBarred_68 (by decide) (fun (c19 : r17 < 0) => ?_) (fun (c19 : ¬ (r17 < 0)) => ?_)
          · replace h := h.1 c19
            refine r_aload_n 0 dX8_insertBarred_75 rfl rfl ?_
            refine r_iload_n 2 dX8_insertBarred_76 rfl rfl ?_
            refine r_iload_n 1 dX8_insertBarred_77 rfl rfl ?_
            refine r_iload_n 3 dX8_insertBarred_78 rfl rfl ?_
            refine r_iload 4 dX8_insertBarred_79 rfl ?_
            refine r_callV [vI x2, vI x1, vI x3, vI x4] [] dX8_insertBarred_81 okX8_takeWith ivX8_takeWith seX8_takeWith lm_X8_141 rfl rfl sh_56 rfl ⟨Nat.le_of_ble_eq_true rfl, Nat.le_of_ble_eq_true rfl, Nat.le_of_ble_eq_true rfl, Nat.le_of_ble_eq_true rfl⟩ h ?_
            rintro _ s21 ⟨rfl, h⟩
            refine r_aload_n 0 dX8_insertBarred_84 rfl rfl ?_
            refine r_iload_n 2 dX8_insertBarred_85 rfl rfl ?_
            refine r_callV [vI x2] [] dX8_insertBarred_86 okX8_isFeasible ivX8_isFeasible seX8_isFeasible lm_X8_111 rfl rfl sh_56 rfl ⟨Nat.le_of_ble_eq_true rfl, Nat.le_of_ble_eq_true rfl, Nat.le_of_ble_eq_true rfl, Nat.le_of_ble_eq_true rfl⟩ h ?_
            rintro _ s23 ⟨r22, rfl, h⟩
            obtain ⟨y25, ey25⟩ : ∃ z : Int, z = (if r22 = 0 then (-1005) else 0) := ⟨_, rfl⟩
            replace h := h y25 ey25
            have hj26 : MWi l G mX8_insertBarred 99 [] [vI y25] s23 Q := by
              exact r_iret dX8_insertBarred_99 rfl ⟨_, rfl, h⟩
            refine r_if_eq (tgt := 96) dX8_insertBarred_89 (by decide) (fun (c24 : r22 = 0) => ?_) (fun (c24 : ¬ (r22 = 0)) => ?_)
            · refine r_sipush dX8_insertBarred_96 (by decide) (by decide) ?_
              refine MWF.sub [] rfl ?_
              have q27 : y25 = (-1005) := by rw [ey25, if_pos c24]
              rw [q27] at hj26
              exact hj26
            · refine r_iconst dX8_insertBarred_92 (by decide) ?_
              refine r_goto (tgt := 99) dX8_insertBarred_93 (by decide) ?_
              refine MWF.sub [] rfl ?_
              have q28 : y25 = 0 := by rw [ey25, if_neg c24]
              rw [q28] at hj26
              exact hj26
          · replace h := h.2 c19
            refine r_sipush dX8_insertBarred_71 (by decide) (by decide) ?_
            exact r_iret dX8_insertBarred_74 rfl ⟨_, rfl, h⟩
    · replace h := h.2 c6
      refine r_sipush dX8_insertBarred_16 (by decide) (by decide) ?_
      exact r_iret dX8_insertBarred_19 rfl ⟨_, rfl, h⟩
  · replace h := h.2 c3
    refine r_sipush dX8_insertBarred_16 (by decide) (by decide) ?_
    exact r_iret dX8_insertBarred_19 rfl ⟨_, rfl, h⟩
set_option maxRecDepth 100000 in
set_option maxHeartbeats 4000000 in
theorem clX8_lengthOfRow (l : Launch) (G : GT) (σ : Sto) (Q : Int → Sto → Prop) (x1 : Int)
    (h : CLv l G mX8_take [vR 56, vI x1] σ (fun s2 => CLi l G mX8_length [vR 56, vI x1] s2 (fun r3 s4 => Q r3 s4))) :
    CLi l G mX8_lengthOfRow [vR 56, vI x1] σ Q := by
  show MWi l G mX8_lengthOfRow 0 [(0, vR 56), (1, vI x1)] [] σ Q
  refine r_aload_n 0 dX8_lengthOfRow_0 rfl rfl ?_
  refine r_iload_n 1 dX8_lengthOfRow_1 rfl rfl ?_
  refine r_callV [vI x1] [] dX8_lengthOfRow_2 okX8_take ivX8_take seX8_take lm_X8_107 rfl rfl sh_56 rfl ⟨Nat.le_of_ble_eq_true rfl, Nat.le_of_ble_eq_true rfl, Nat.le_of_ble_eq_true rfl, Nat.le_of_ble_eq_true rfl⟩ h ?_
  rintro _ s2 ⟨rfl, h⟩
  refine r_aload_n 0 dX8_lengthOfRow_5 rfl rfl ?_
  refine r_iload_n 1 dX8_lengthOfRow_6 rfl rfl ?_
  refine r_callV [vI x1] [] dX8_lengthOfRow_7 okX8_length ivX8_length seX8_length lm_X8_126 rfl rfl sh_56 rfl ⟨Nat.le_of_ble_eq_true rfl, Nat.le_of_ble_eq_true rfl, Nat.le_of_ble_eq_true rfl, Nat.le_of_ble_eq_true rfl⟩ h ?_
  rintro _ s4 ⟨r3, rfl, h⟩
  exact r_iret dX8_lengthOfRow_10 rfl ⟨_, rfl, h⟩
set_option maxRecDepth 100000 in
set_option maxHeartbeats 4000000 in
theorem clX8_cost (l : Launch) (G : GT) (σ : Sto) (Q : Int → Sto → Prop) (x1 : Int) (x2 : Int) (x3 : Int) (x4 : Int)
    (h : CLi l G mX8_insertBarred [vR 56, vI x1, vI x2, vI x3, vI x4] σ (fun r1 s2 => (0 ≤ r1 → CLi l G mX8_length [vR 56, vI x2] s2 (fun r4 s5 => CLi l G mX8_lengthOfRow [vR 56, vI x2] s5 (fun r6 s7 => (-2147483648 ≤ r4 - r6 ∧ r4 - r6 ≤ 2147483647) ∧ Q (r4 - r6) s7))) ∧ (¬ (0 ≤ r1) → Q r1 s2))) :
    CLi l G mX8_cost [vR 56, vI x1, vI x2, vI x3, vI x4] σ Q := by
  show MWi l G mX8_cost 0 [(0, vR 56), (1, vI x1), (2, vI x2), (3, vI x3), (4, vI x4)] [] σ Q
  refine r_aload_n 0 dX8_cost_0 rfl rfl ?_
  refine r_iload_n 1 dX8_cost_1 rfl rfl ?_
  refine r_iload_n 2 dX8_cost_2 rfl rfl ?_
  refine r_iload_n 3 dX8_cost_3 rfl rfl ?_
  refine r_iload 4 dX8_cost_4 rfl ?_
  refine r_callV [vI x1, vI x2, vI x3, vI x4] [] dX8_cost_6 okX8_insertBarred ivX8_insertBarred seX8_insertBarred lm_X8_163 rfl rfl sh_56 rfl ⟨Nat.le_of_ble_eq_true rfl, Nat.le_of_ble_eq_true rfl, Nat.le_of_ble_eq_true rfl, Nat.le_of_ble_eq_true rfl⟩ h ?_
  rintro _ s2 ⟨r1, rfl, h⟩
  refine r_istore dX8_cost_9 (by decide) rfl ?_
  refine r_iload 0 dX8_cost_11 rfl ?_
  refine r_if_ge (tgt := 19) dX8_cost_13 (by decide) (fun (c3 : 0 ≤ r1) => ?_) (fun (c3 : ¬ (0 ≤ r1)) => ?_)
  · replace h := h.1 c3
    refine r_aload_n 1 dX8_cost_19 rfl rfl ?_
    refine r_iload_n 3 dX8_cost_20 rfl rfl ?_
    refine r_callV [vI x2] [] dX8_cost_21 okX8_length ivX8_length seX8_length lm_X8_126 rfl rfl sh_56 rfl ⟨Nat.le_of_ble_eq_true rfl, Nat.le_of_ble_eq_true rfl, Nat.le_of_ble_eq_true rfl, Nat.le_of_ble_eq_true rfl⟩ h ?_
    rintro _ s5 ⟨r4, rfl, h⟩
    refine r_istore dX8_cost_24 (by decide) rfl ?_
    refine r_iload 0 dX8_cost_26 rfl ?_
    refine r_aload_n 2 dX8_cost_28 rfl rfl ?_
    refine r_iload_n 4 dX8_cost_29 rfl rfl ?_
    refine r_callV [vI x2] [vI r4] dX8_cost_30 okX8_lengthOfRow ivX8_lengthOfRow seX8_lengthOfRow lm_X8_167 rfl rfl sh_56 rfl ⟨Nat.le_of_ble_eq_true rfl, Nat.le_of_ble_eq_true rfl, Nat.le_of_ble_eq_true rfl, Nat.le_of_ble_eq_true rfl⟩ h ?_
    rintro _ s7 ⟨r6, rfl, h⟩
    obtain ⟨b8, h⟩ := h
    refine r_isub dX8_cost_33 b8 ?_
    exact r_iret dX8_cost_34 rfl ⟨_, rfl, h⟩
  · replace h := h.2 c3
    refine r_iload 0 dX8_cost_16 rfl ?_
    exact r_iret dX8_cost_18 rfl ⟨_, rfl, h⟩
set_option maxRecDepth 100000 in
set_option maxHeartbeats 4000000 in
theorem clX8_insert (l : Launch) (G : GT) (σ : Sto) (Q : Int → Sto → Prop) (x1 : Int) (x2 : Int) (x3 : Int) (x4 : Int)
    (h : CLi l G mX8_insertBarred [vR 56, vI x1, vI x2, vI x3, vI x4] σ (fun r1 s2 => (0 ≤ r1 → CLi l G mX8_lengthOfRow [vR 56, vI x2] s2 (fun r4 s5 => CLv l G mX8_putAside [vR 56] s5 (fun s7 => CLv l G mX8_keep [vR 56] s7 (fun s9 => CLv l G mX8_takeWith [vR 56, vI x2, vI x1, vI x3, vI x4] s9 (fun s11 => CLv l G mX8_lay [vR 56, vI x2] s11 (fun s13 => CLi l G mX8_length [vR 56, vI x2] s13 (fun r14 s15 => (-2147483648 ≤ r14 - r4 ∧ r14 - r4 ≤ 2147483647) ∧ Q (r14 - r4) s15))))))) ∧ (¬ (0 ≤ r1) → Q r1 s2))) :
    CLi l G mX8_insert [vR 56, vI x1, vI x2, vI x3, vI x4] σ Q := by
  show MWi l G mX8_insert 0 [(0, vR 56), (1, vI x1), (2, vI x2), (3, vI x3), (4, vI x4)] [] σ Q
  refine r_aload_n 0 dX8_insert_0 rfl rfl ?_
  refine r_iload_n 1 dX8_insert_1 rfl rfl ?_
  refine r_iload_n 2 dX8_insert_2 rfl rfl ?_
  refine r_iload_n 3 dX8_insert_3 rfl rfl ?_
  refine r_iload 4 dX8_insert_4 rfl ?_
  refine r_callV [vI x1, vI x2, vI x3, vI x4] [] dX8_insert_6 okX8_insertBarred ivX8_insertBarred seX8_insertBarred lm_X8_163 rfl rfl sh_56 rfl ⟨Nat.le_of_ble_eq_true rfl, Nat.le_of_ble_eq_true rfl, Nat.le_of_ble_eq_true rfl, Nat.le_of_ble_eq_true rfl⟩ h ?_
  rintro _ s2 ⟨r1, rfl, h⟩
  refine r_istore dX8_insert_9 (by decide) rfl ?_
  refine r_iload 0 dX8_insert_11 rfl ?_
  refine r_if_ge (tgt := 19) dX8_insert_13 (by decide) (fun (c3 : 0 ≤ r1) => ?_) (fun (c3 : ¬ (0 ≤ r1)) => ?_)
  · replace h := h.1 c3
    refine r_aload_n 1 dX8_insert_19 rfl rfl ?_
    refine r_iload_n 3 dX8_insert_20 rfl rfl ?_
    refine r_callV [vI x2] [] dX8_insert_21 okX8_lengthOfRow ivX8_lengthOfRow seX8_lengthOfRow lm_X8_167 rfl rfl sh_56 rfl ⟨Nat.le_of_ble_eq_true rfl, Nat.le_of_ble_eq_true rfl, Nat.le_of_ble_eq_true rfl, Nat.le_of_ble_eq_true rfl⟩ h ?_
    rintro _ s5 ⟨r4, rfl, h⟩
    refine r_istore dX8_insert_24 (by decide) rfl ?_
    refine r_aload_n 2 dX8_insert_26 rfl rfl ?_
    refine r_callV [] [] dX8_insert_27 okX8_putAside ivX8_putAside seX8_putAside lm_X8_170 rfl rfl sh_56 rfl ⟨Nat.le_of_ble_eq_true rfl, Nat.le_of_ble_eq_true rfl, Nat.le_of_ble_eq_true rfl, Nat.le_of_ble_eq_true rfl⟩ h ?_
    rintro _ s7 ⟨rfl, h⟩
    refine r_aload_n 2 dX8_insert_30 rfl rfl ?_
    refine r_callV [] [] dX8_insert_31 okX8_keep ivX8_keep seX8_keep lm_X8_173 rfl rfl sh_56 rfl ⟨Nat.le_of_ble_eq_true rfl, Nat.le_of_ble_eq_true rfl, Nat.le_of_ble_eq_true rfl, Nat.le_of_ble_eq_true rfl⟩ h ?_
    rintro _ s9 ⟨rfl, h⟩
    refine r_aload_n 2 dX8_insert_34 rfl rfl ?_
    refine r_iload_n 4 dX8_insert_35 rfl rfl ?_
    refine r_iload_n 3 dX8_insert_36 rfl rfl ?_
    refine r_iload_n 5 dX8_insert_37 rfl rfl ?_
    refine r_iload 6 dX8_insert_38 rfl ?_
    refine r_callV [vI x2, vI x1, vI x3, vI x4] [] dX8_insert_40 okX8_takeWith ivX8_takeWith seX8_takeWith lm_X8_141 rfl rfl sh_56 rfl ⟨Nat.le_of_ble_eq_true rfl, Nat.le_of_ble_eq_true rfl, Nat.le_of_ble_eq_true rfl, Nat.le_of_ble_eq_true rfl⟩ h ?_
    rintro _ s11 ⟨rfl, h⟩
    refine r_aload_n 2 dX8_insert_43 rfl rfl ?_
    refine r_iload_n 4 dX8_insert_44 rfl rfl ?_
    refine r_callV [vI x2] [] dX8_insert_45 okX8_lay ivX8_lay seX8_lay lm_X8_157 rfl rfl sh_56 rfl ⟨Nat.le_of_ble_eq_true rfl, Nat.le_of_ble_eq_true rfl, Nat.le_of_ble_eq_true rfl, Nat.le_of_ble_eq_true rfl⟩ h ?_
    rintro _ s13 ⟨rfl, h⟩
    refine r_aload_n 2 dX8_insert_48 rfl rfl ?_
    refine r_iload_n 4 dX8_insert_49 rfl rfl ?_
    refine r_callV [vI x2] [] dX8_insert_50 okX8_length ivX8_length seX8_length lm_X8_126 rfl rfl sh_56 rfl ⟨Nat.le_of_ble_eq_true rfl, Nat.le_of_ble_eq_true rfl, Nat.le_of_ble_eq_true rfl, Nat.le_of_ble_eq_true rfl⟩ h ?_
    rintro _ s15 ⟨r14, rfl, h⟩
    refine r_iload 0 dX8_insert_53 rfl ?_
    obtain ⟨b16, h⟩ := h
    refine r_isub dX8_insert_55 b16 ?_
    exact r_iret dX8_insert_56 rfl ⟨_, rfl, h⟩
  · replace h := h.2 c3
    refine r_iload 0 dX8_insert_16 rfl ?_
    exact r_iret dX8_insert_18 rfl ⟨_, rfl, h⟩
set_option maxRecDepth 100000 in
set_option maxHeartbeats 4000000 in
theorem clX8_openBarred (l : Launch) (G : GT) (σ : Sto) (Q : Int → Sto → Prop) (x1 : Int)
    (h : CLi l G mX8_noRequest [vR 56, vI x1] σ (fun r1 s2 => (r1 = 0 → CLi l G mX8_vehicleOf [vR 56, vI x1] s2 (fun r4 s5 => ∀ y7 : Int, y7 = (if r4 < 0 then 0 else (-1003)) → Q y7 s5)) ∧ (¬ (r1 = 0) → Q (-1001) s2))) :
    CLi l G mX8_openBarred [vR 56, vI x1] σ Q := by
  show MWi l G mX8_openBarred 0 [(0, vR 56), (1, vI x1)] [] σ Q
  refine r_aload_n 0 dX8_openBarred_0 rfl rfl ?_
  refine r_iload_n 1 dX8_openBarred_1 rfl rfl ?_
  refine r_callV [vI x1] [] dX8_openBarred_2 okX8_noRequest ivX8_noRequest seX8_noRequest lm_X8_120 rfl rfl sh_56 rfl ⟨Nat.le_of_ble_eq_true rfl, Nat.le_of_ble_eq_true rfl, Nat.le_of_ble_eq_true rfl, Nat.le_of_ble_eq_true rfl⟩ h ?_
  rintro _ s2 ⟨r1, rfl, h⟩
  refine r_if_eq (tgt := 14) dX8_openBarred_5 (by decide) (fun (c3 : r1 = 0) => ?_) (fun (c3 : ¬ (r1 = 0)) => ?_)
  · replace h := h.1 c3
    refine r_aload_n 0 dX8_openBarred_14 rfl rfl ?_
    refine r_iload_n 1 dX8_openBarred_15 rfl rfl ?_
    refine r_callV [vI x1] [] dX8_openBarred_16 okX8_vehicleOf ivX8_vehicleOf seX8_vehicleOf lm_X8_114 rfl rfl sh_56 rfl ⟨Nat.le_of_ble_eq_true rfl, Nat.le_of_ble_eq_true rfl, Nat.le_of_ble_eq_true rfl, Nat.le_of_ble_eq_true rfl⟩ h ?_
    rintro _ s5 ⟨r4, rfl, h⟩
    obtain ⟨y7, ey7⟩ : ∃ z : Int, z = (if r4 < 0 then 0 else (-1003)) := ⟨_, rfl⟩
    replace h := h y7 ey7
    have hj8 : MWi l G mX8_openBarred 29 [] [vI y7] s5 Q := by
      exact r_iret dX8_openBarred_29 rfl ⟨_, rfl, h⟩
    refine r_if_lt (tgt := 28) dX8_openBarred_19 (by decide) (fun (c6 : r4 < 0) => ?_) (fun (c6 : ¬ (r4 < 0)) => ?_)
    · refine r_iconst dX8_openBarred_28 (by decide) ?_
      refine MWF.sub [] rfl ?_
      have q9 : y7 = 0 := by rw [ey7, if_pos c6]
      rw [q9] at hj8
      exact hj8
    · refine r_sipush dX8_openBarred_22 (by decide) (by decide) ?_
      refine r_goto (tgt := 29) dX8_openBarred_25 (by decide) ?_
      refine MWF.sub [] rfl ?_
      have q10 : y7 = (-1003) := by rw [ey7, if_neg c6]
      rw [q10] at hj8
      exact hj8
  · replace h := h.2 c3
    refine r_sipush dX8_openBarred_8 (by decide) (by decide) ?_
    refine r_goto (tgt := 29) dX8_openBarred_11 (by decide) ?_
    exact r_iret dX8_openBarred_29 rfl ⟨_, rfl, h⟩
set_option maxRecDepth 100000 in
set_option maxHeartbeats 4000000 in
theorem clX8_best (l : Launch) (G : GT) (σ : Sto) (Q : Int → Sto → Prop) (x1 : Int) (x2 : Int)
    (h : CLi l G mX8_noRequest [vR 56, vI x1] σ (fun r1 s2 => (r1 = 0 → CLi l G mX8_noVehicle [vR 56, vI x2] s2 (fun r4 s5 => (r4 = 0 → CLi l G mX8_vehicleOf [vR 56, vI x1] s5 (fun r7 s8 => (r7 < 0 → CLi l G mX8_findBest [vR 56, vI x1, vI x2] s8 (fun r10 s11 => ((¬ (r10 = 0) → (-2147483648 ≤ 100 * (s11 56 19) ∧ 100 * (s11 56 19) ≤ 2147483647) ∧ (-2147483648 ≤ (100 * (s11 56 19)) + (s11 56 20) ∧ (100 * (s11 56 19)) + (s11 56 20) ≤ 2147483647) ∧ True)) ∧ ∀ y16 : Int, y16 = (if r10 = 0 then (-1007) else ((100 * (s11 56 19)) + (s11 56 20))) → Q y16 s11)) ∧ (¬ (r7 < 0) → Q (-1003) s8))) ∧ (¬ (r4 = 0) → Q (-1001) s5))) ∧ (¬ (r1 = 0) → Q (-1001) s2))) :
    CLi l G mX8_best [vR 56, vI x1, vI x2] σ Q := by
  show MWi l G mX8_best 0 [(0, vR 56), (1, vI x1), (2, vI x2)] [] σ Q
  refine r_aload_n 0 dX8_best_0 rfl rfl ?_
  refine r_iload_n 1 dX8_best_1 rfl rfl ?_
  refine r_callV [vI x1] [] dX8_best_2 okX8_noRequest ivX8_noRequest seX8_noRequest lm_X8_120 rfl rfl sh_56 rfl ⟨Nat.le_of_ble_eq_true rfl, Nat.le_of_ble_eq_true rfl, Nat.le_of_ble_eq_true rfl, Nat.le_of_ble_eq_true rfl⟩ h ?_
  rintro _ s2 ⟨r1, rfl, h⟩
  refine r_if_ne (tgt := 16) dX8_best_5 (by decide) (fun (c3 : r1 = 0) => ?_) (fun (c3 : ¬ (r1 = 0)) => ?_)
  · replace h := h.1 c3
    refine r_aload_n 0 dX8_best_8 rfl rfl ?_
    refine r_iload_n 2 dX8_best_9 rfl rfl ?_
    refine r_callV [vI x2] [] dX8_best_10 okX8_noVehicle ivX8_noVehicle seX8_noVehicle lm_X8_132 rfl rfl sh_56 rfl ⟨Nat.le_of_ble_eq_true rfl, Nat.le_of_ble_eq_true rfl, Nat.le_of_ble_eq_true rfl, Nat.le_of_ble_eq_true rfl⟩ h ?_
    rintro _ s5 ⟨r4, rfl, h⟩
    refine r_if_eq (tgt := 20) dX8_best_13 (by decide) (fun (c6 : r4 = 0) => ?_) (fun (c6 : ¬ (r4 = 0)) => ?_)
    · replace h := h.1 c6
      refine r_aload_n 0 dX8_best_20 rfl rfl ?_
      refine r_iload_n 1 dX8_best_21 rfl rfl ?_
      refine r_callV [vI x1] [] dX8_best_22 okX8_vehicleOf ivX8_vehicleOf seX8_vehicleOf lm_X8_114 rfl rfl sh_56 rfl ⟨Nat.le_of_ble_eq_true rfl, Nat.le_of_ble_eq_true rfl, Nat.le_of_ble_eq_true rfl, Nat.le_of_ble_eq_true rfl⟩ h ?_
      rintro _ s8 ⟨r7, rfl, h⟩
      refine r_if_lt (tgt := 32) dX8_best_25 (by decide) (fun (c9 : r7 < 0) => ?_) (fun (c9 : ¬ (r7 < 0)) => ?_)
      · replace h := h.1 c9
        refine r_aload_n 0 dX8_best_32 rfl rfl ?_
        refine r_iload_n 1 dX8_best_33 rfl rfl ?_
        refine r_iload_n 2 dX8_best_34 rfl rfl ?_
        refine r_callV [vI x1, vI x2] [] dX8_best_35 okX8_findBest ivX8_findBest seX8_findBest lm_X8_154 rfl rfl sh_56 rfl ⟨Nat.le_of_ble_eq_true rfl, Nat.le_of_ble_eq_true rfl, Nat.le_of_ble_eq_true rfl, Nat.le_of_ble_eq_true rfl⟩ h ?_
        rintro _ s11 ⟨r10, rfl, h⟩
        obtain ⟨q15, h⟩ := h
        obtain ⟨y16, ey16⟩ : ∃ z : Int, z = (if r10 = 0 then (-1007) else ((100 * (s11 56 19)) + (s11 56 20))) := ⟨_, rfl⟩
        replace h := h y16 ey16
        have hj17 : MWi l G mX8_best 59 [] [vI y16] s11 Q := by
          exact r_iret dX8_best_59 rfl ⟨_, rfl, h⟩
        replace h := q15
        refine r_if_eq (tgt := 56) dX8_best_38 (by decide) (fun (c12 : r10 = 0) => ?_) (fun (c12 : ¬ (r10 = 0)) => ?_)
        · refine r_sipush dX8_best_56 (by decide) (by decide) ?_
          refine MWF.sub [] rfl ?_
          have q18 : y16 = (-1007) := by rw [ey16, if_pos c12]
          rw [q18] at hj17
          exact hj17
        · replace h := h c12
          refine r_bipush dX8_best_41 (by decide) (by decide) ?_
          refine r_aload_n 0 dX8_best_43 rfl rfl ?_
          refine r_getI (j := 19) dX8_best_44 sh_56 rfl kc_8 (by decide) lf_X8_148 ?_
          obtain ⟨b13, h⟩ := h
          refine r_imul dX8_best_47 b13 ?_
          refine r_aload_n 0 dX8_best_48 rfl rfl ?_
          refine r_getI (j := 20) dX8_best_49 sh_56 rfl kc_8 (by decide) lf_X8_151 ?_
          obtain ⟨b14, h⟩ := h
          refine r_iadd dX8_best_52 b14 ?_
          refine r_goto (tgt := 59) dX8_best_53 (by decide) ?_
          refine MWF.sub [] rfl ?_
          have q19 : y16 = ((100 * (s11 56 19)) + (s11 56 20)) := by rw [ey16, if_neg c12]
          rw [q19] at hj17
          exact hj17
      · replace h := h.2 c9
        refine r_sipush dX8_best_28 (by decide) (by decide) ?_
        exact r_iret dX8_best_31 rfl ⟨_, rfl, h⟩
    · replace h := h.2 c6
      refine r_sipush dX8_best_16 (by decide) (by decide) ?_
      exact r_iret dX8_best_19 rfl ⟨_, rfl, h⟩
  · replace h := h.2 c3
    refine r_sipush dX8_best_16 (by decide) (by decide) ?_
    exact r_iret dX8_best_19 rfl ⟨_, rfl, h⟩
set_option maxRecDepth 100000 in
set_option maxHeartbeats 4000000 in
theorem clX8_assignTo (l : Launch) (G : GT) (σ : Sto) (Q : Int → Sto → Prop) (x1 : Int) (x2 : Int)
    (h : CLi l G mX8_noRequest [vR 56, vI x1] σ (fun r1 s2 => (r1 = 0 → CLi l G mX8_noVehicle [vR 56, vI x2] s2 (fun r4 s5 => (r4 = 0 → CLi l G mX8_vehicleOf [vR 56, vI x1] s5 (fun r7 s8 => (r7 < 0 → CLv l G mX8_putAside [vR 56] s8 (fun s11 => CLi l G mX8_putBest [vR 56, vI x1, vI x2] s11 (fun r12 s13 => (r12 = 0 → Q (-1005) s13) ∧ (¬ (r12 = 0) → CLv l G mX8_keep [vR 56] s13 (fun s16 => Q (s16 56 21) s16))))) ∧ (¬ (r7 < 0) → Q (-1003) s8))) ∧ (¬ (r4 = 0) → Q (-1001) s5))) ∧ (¬ (r1 = 0) → Q (-1001) s2))) :
    CLi l G mX8_assignTo [vR 56, vI x1, vI x2] σ Q := by
  show MWi l G mX8_assignTo 0 [(0, vR 56), (1, vI x1), (2, vI x2)] [] σ Q
  refine r_aload_n 0 dX8_assignTo_0 rfl rfl ?_
  refine r_iload_n 1 dX8_assignTo_1 rfl rfl ?_
  refine r_callV [vI x1] [] dX8_assignTo_2 okX8_noRequest ivX8_noRequest seX8_noRequest lm_X8_120 rfl rfl sh_56 rfl ⟨Nat.le_of_ble_eq_true rfl, Nat.le_of_ble_eq_true rfl, Nat.le_of_ble_eq_true rfl, Nat.le_of_ble_eq_true rfl⟩ h ?_
  rintro _ s2 ⟨r1, rfl, h⟩
  refine r_if_ne (tgt := 16) dX8_assignTo_5 (by decide) (fun (c3 : r1 = 0) => ?_) (fun (c3 : ¬ (r1 = 0)) => ?_)
  · replace h := h.1 c3
    refine r_aload_n 0 dX8_assignTo_8 rfl rfl ?_
    refine r_iload_n 2 dX8_assignTo_9 rfl rfl ?_
    refine r_callV [vI x2] [] dX8_assignTo_10 okX8_noVehicle ivX8_noVehicle seX8_noVehicle lm_X8_132 rfl rfl sh_56 rfl ⟨Nat.le_of_ble_eq_true rfl, Nat.le_of_ble_eq_true rfl, Nat.le_of_ble_eq_true rfl, Nat.le_of_ble_eq_true rfl⟩ h ?_
    rintro _ s5 ⟨r4, rfl, h⟩
    refine r_if_eq (tgt := 20) dX8_assignTo_13 (by decide) (fun (c6 : r4 = 0) => ?_) (fun (c6 : ¬ (r4 = 0)) => ?_)
    · replace h := h.1 c6
      refine r_aload_n 0 dX8_assignTo_20 rfl rfl ?_
      refine r_iload_n 1 dX8_assignTo_21 rfl rfl ?_
      refine r_callV [vI x1] [] dX8_assignTo_22 okX8_vehicleOf ivX8_vehicleOf seX8_vehicleOf lm_X8_114 rfl rfl sh_56 rfl ⟨Nat.le_of_ble_eq_true rfl, Nat.le_of_ble_eq_true rfl, Nat.le_of_ble_eq_true rfl, Nat.le_of_ble_eq_true rfl⟩ h ?_
      rintro _ s8 ⟨r7, rfl, h⟩
      refine r_if_lt (tgt := 32) dX8_assignTo_25 (by decide) (fun (c9 : r7 < 0) => ?_) (fun (c9 : ¬ (r7 < 0)) => ?_)
      · replace h := h.1 c9
        refine r_aload_n 0 dX8_assignTo_32 rfl rfl ?_
        refine r_callV [] [] dX8_assignTo_33 okX8_putAside ivX8_putAside seX8_putAside lm_X8_170 rfl rfl sh_56 rfl ⟨Nat.le_of_ble_eq_true rfl, Nat.le_of_ble_eq_true rfl, Nat.le_of_ble_eq_true rfl, Nat.le_of_ble_eq_true rfl⟩ h ?_
        rintro _ s11 ⟨rfl, h⟩
        refine r_aload_n 0 dX8_assignTo_36 rfl rfl ?_
        refine r_iload_n 1 dX8_assignTo_37 rfl rfl ?_
        refine r_iload_n 2 dX8_assignTo_38 rfl rfl ?_
        refine r_callV [vI x1, vI x2] [] dX8_assignTo_39 okX8_putBest ivX8_putBest seX8_putBest lm_X8_160 rfl rfl sh_56 rfl ⟨Nat.le_of_ble_eq_true rfl, Nat.le_of_ble_eq_true rfl, Nat.le_of_ble_eq_true rfl, Nat.le_of_ble_eq_true rfl⟩ h ?_
        rintro _ s13 ⟨r12, rfl, h⟩
        refine r_if_ne (tgt := 49) dX8_assignTo_42 (by decide) (fun (c14 : r12 = 0) => ?_) (fun (c14 : ¬ (r12 = 0)) => ?_)
        · replace h := h.1 c14
          refine r_sipush dX8_assignTo_45 (by decide) (by decide) ?_
          exact r_iret dX8_assignTo_48 rfl ⟨_, rfl, h⟩
        · replace h := h.2 c14
          refine r_aload_n 0 dX8_assignTo_49 rfl rfl ?_
          refine r_callV [] [] dX8_assignTo_50 okX8_keep ivX8_keep seX8_keep lm_X8_173 rfl rfl sh_56 rfl ⟨Nat.le_of_ble_eq_true rfl, Nat.le_of_ble_eq_true rfl, Nat.le_of_ble_eq_true rfl, Nat.le_of_ble_eq_true rfl⟩ h ?_
          rintro _ s16 ⟨rfl, h⟩
          refine r_aload_n 0 dX8_assignTo_53 rfl rfl ?_
          refine r_getI (j := 21) dX8_assignTo_54 sh_56 rfl kc_8 (by decide) lf_X8_145 ?_
          exact r_iret dX8_assignTo_57 rfl ⟨_, rfl, h⟩
      · replace h := h.2 c9
        refine r_sipush dX8_assignTo_28 (by decide) (by decide) ?_
        exact r_iret dX8_assignTo_31 rfl ⟨_, rfl, h⟩
    · replace h := h.2 c6
      refine r_sipush dX8_assignTo_16 (by decide) (by decide) ?_
      exact r_iret dX8_assignTo_19 rfl ⟨_, rfl, h⟩
  · replace h := h.2 c3
    refine r_sipush dX8_assignTo_16 (by decide) (by decide) ?_
    exact r_iret dX8_assignTo_19 rfl ⟨_, rfl, h⟩
set_option maxRecDepth 100000 in
set_option maxHeartbeats 4000000 in
theorem clX8_assign (l : Launch) (G : GT) (σ : Sto) (Q : Int → Sto → Prop) (x1 : Int)
    (h : CLi l G mX8_openBarred [vR 56, vI x1] σ (fun r1 s2 => (0 ≤ r1 → CLv l G mX8_putAside [vR 56] s2 (fun s5 => CLi l G mX8_putAnywhere [vR 56, vI x1, vI (-1)] s5 (fun r6 s7 => (0 ≤ r6 → CLv l G mX8_keep [vR 56] s7 (fun s10 => Q r6 s10)) ∧ (¬ (0 ≤ r6) → Q (-1005) s7)))) ∧ (¬ (0 ≤ r1) → Q r1 s2))) :
    CLi l G mX8_assign [vR 56, vI x1] σ Q := by
  show MWi l G mX8_assign 0 [(0, vR 56), (1, vI x1)] [] σ Q
  refine r_aload_n 0 dX8_assign_0 rfl rfl ?_
  refine r_iload_n 1 dX8_assign_1 rfl rfl ?_
  refine r_callV [vI x1] [] dX8_assign_2 okX8_openBarred ivX8_openBarred seX8_openBarred lm_X8_176 rfl rfl sh_56 rfl ⟨Nat.le_of_ble_eq_true rfl, Nat.le_of_ble_eq_true rfl, Nat.le_of_ble_eq_true rfl, Nat.le_of_ble_eq_true rfl⟩ h ?_
  rintro _ s2 ⟨r1, rfl, h⟩
  refine r_istore_n dX8_assign_5 rfl (by decide) rfl ?_
  refine r_iload_n 0 dX8_assign_6 rfl rfl ?_
  refine r_if_ge (tgt := 12) dX8_assign_7 (by decide) (fun (c3 : 0 ≤ r1) => ?_) (fun (c3 : ¬ (0 ≤ r1)) => ?_)
  · replace h := h.1 c3
    refine r_aload_n 1 dX8_assign_12 rfl rfl ?_
    refine r_callV [] [] dX8_assign_13 okX8_putAside ivX8_putAside seX8_putAside lm_X8_170 rfl rfl sh_56 rfl ⟨Nat.le_of_ble_eq_true rfl, Nat.le_of_ble_eq_true rfl, Nat.le_of_ble_eq_true rfl, Nat.le_of_ble_eq_true rfl⟩ h ?_
    rintro _ s5 ⟨rfl, h⟩
    refine r_aload_n 1 dX8_assign_16 rfl rfl ?_
    refine r_iload_n 2 dX8_assign_17 rfl rfl ?_
    refine r_iconst dX8_assign_18 (by decide) ?_
    refine r_callV [vI x1, vI (-1)] [] dX8_assign_19 okX8_putAnywhere ivX8_putAnywhere seX8_putAnywhere lm_X8_179 rfl rfl sh_56 rfl ⟨Nat.le_of_ble_eq_true rfl, Nat.le_of_ble_eq_true rfl, Nat.le_of_ble_eq_true rfl, Nat.le_of_ble_eq_true rfl⟩ h ?_
    rintro _ s7 ⟨r6, rfl, h⟩
    refine r_istore_n dX8_assign_22 rfl (by decide) rfl ?_
    refine r_iload_n 0 dX8_assign_23 rfl rfl ?_
    refine r_if_ge (tgt := 31) dX8_assign_24 (by decide) (fun (c8 : 0 ≤ r6) => ?_) (fun (c8 : ¬ (0 ≤ r6)) => ?_)
    · replace h := h.1 c8
      refine r_aload_n 2 dX8_assign_31 rfl rfl ?_
      refine r_callV [] [] dX8_assign_32 okX8_keep ivX8_keep seX8_keep lm_X8_173 rfl rfl sh_56 rfl ⟨Nat.le_of_ble_eq_true rfl, Nat.le_of_ble_eq_true rfl, Nat.le_of_ble_eq_true rfl, Nat.le_of_ble_eq_true rfl⟩ h ?_
      rintro _ s10 ⟨rfl, h⟩
      refine r_iload_n 0 dX8_assign_35 rfl rfl ?_
      exact r_iret dX8_assign_36 rfl ⟨_, rfl, h⟩
    · replace h := h.2 c8
      refine r_sipush dX8_assign_27 (by decide) (by decide) ?_
      exact r_iret dX8_assign_30 rfl ⟨_, rfl, h⟩
  · replace h := h.2 c3
    refine r_iload_n 0 dX8_assign_10 rfl rfl ?_
    exact r_iret dX8_assign_11 rfl ⟨_, rfl, h⟩
set_option maxRecDepth 100000 in
set_option maxHeartbeats 4000000 in
theorem clX8_remove (l : Launch) (G : GT) (σ : Sto) (Q : Int → Sto → Prop) (x1 : Int)
    (h : CLi l G mX8_noRequest [vR 56, vI x1] σ (fun r1 s2 => (r1 = 0 → CLi l G mX8_vehicleOf [vR 56, vI x1] s2 (fun r4 s5 => (0 ≤ r4 → CLi l G mX8_lengthOfRow [vR 56, vI r4] s5 (fun r7 s8 => CLv l G mX8_putAside [vR 56] s8 (fun s10 => CLv l G mX8_keep [vR 56] s10 (fun s12 => CLv l G mX8_takeOut [vR 56, vI x1] s12 (fun s14 => CLi l G mX8_lengthOfRow [vR 56, vI r4] s14 (fun r15 s16 => (-2147483648 ≤ r7 - r15 ∧ r7 - r15 ≤ 2147483647) ∧ Q (r7 - r15) s16)))))) ∧ (¬ (0 ≤ r4) → Q (-1004) s5))) ∧ (¬ (r1 = 0) → Q (-1001) s2))) :
    CLi l G mX8_remove [vR 56, vI x1] σ Q := by
  show MWi l G mX8_remove 0 [(0, vR 56), (1, vI x1)] [] σ Q
  refine r_aload_n 0 dX8_remove_0 rfl rfl ?_
  refine r_iload_n 1 dX8_remove_1 rfl rfl ?_
  refine r_callV [vI x1] [] dX8_remove_2 okX8_noRequest ivX8_noRequest seX8_noRequest lm_X8_120 rfl rfl sh_56 rfl ⟨Nat.le_of_ble_eq_true rfl, Nat.le_of_ble_eq_true rfl, Nat.le_of_ble_eq_true rfl, Nat.le_of_ble_eq_true rfl⟩ h ?_
  rintro _ s2 ⟨r1, rfl, h⟩
  refine r_if_eq (tgt := 12) dX8_remove_5 (by decide) (fun (c3 : r1 = 0) => ?_) (fun (c3 : ¬ (r1 = 0)) => ?_)
  · replace h := h.1 c3
    refine r_aload_n 0 dX8_remove_12 rfl rfl ?_
    refine r_iload_n 1 dX8_remove_13 rfl rfl ?_
    refine r_callV [vI x1] [] dX8_remove_14 okX8_vehicleOf ivX8_vehicleOf seX8_vehicleOf lm_X8_114 rfl rfl sh_56 rfl ⟨Nat.le_of_ble_eq_true rfl, Nat.le_of_ble_eq_true rfl, Nat.le_of_ble_eq_true rfl, Nat.le_of_ble_eq_true rfl⟩ h ?_
    rintro _ s5 ⟨r4, rfl, h⟩
    refine r_istore_n dX8_remove_17 rfl (by decide) rfl ?_
    refine r_iload_n 0 dX8_remove_18 rfl rfl ?_
    refine r_if_ge (tgt := 26) dX8_remove_19 (by decide) (fun (c6 : 0 ≤ r4) => ?_) (fun (c6 : ¬ (0 ≤ r4)) => ?_)
    · replace h := h.1 c6
      refine r_aload_n 1 dX8_remove_26 rfl rfl ?_
      refine r_iload_n 0 dX8_remove_27 rfl rfl ?_
      refine r_callV [vI r4] [] dX8_remove_28 okX8_lengthOfRow ivX8_lengthOfRow seX8_lengthOfRow lm_X8_167 rfl rfl sh_56 rfl ⟨Nat.le_of_ble_eq_true rfl, Nat.le_of_ble_eq_true rfl, Nat.le_of_ble_eq_true rfl, Nat.le_of_ble_eq_true rfl⟩ h ?_
      rintro _ s8 ⟨r7, rfl, h⟩
      refine r_istore_n dX8_remove_31 rfl (by decide) rfl ?_
      refine r_aload_n 2 dX8_remove_32 rfl rfl ?_
      refine r_callV [] [] dX8_remove_33 okX8_putAside ivX8_putAside seX8_putAside lm_X8_170 rfl rfl sh_56 rfl ⟨Nat.le_of_ble_eq_true rfl, Nat.le_of_ble_eq_true rfl, Nat.le_of_ble_eq_true rfl, Nat.le_of_ble_eq_true rfl⟩ h ?_
      rintro _ s10 ⟨rfl, h⟩
      refine r_aload_n 2 dX8_remove_36 rfl rfl ?_
      refine r_callV [] [] dX8_remove_37 okX8_keep ivX8_keep seX8_keep lm_X8_173 rfl rfl sh_56 rfl ⟨Nat.le_of_ble_eq_true rfl, Nat.le_of_ble_eq_true rfl, Nat.le_of_ble_eq_true rfl, Nat.le_of_ble_eq_true rfl⟩ h ?_
      rintro _ s12 ⟨rfl, h⟩
      refine r_aload_n 2 dX8_remove_40 rfl rfl ?_
      refine r_iload_n 3 dX8_remove_41 rfl rfl ?_
      refine r_callV [vI x1] [] dX8_remove_42 okX8_takeOut ivX8_takeOut seX8_takeOut lm_X8_182 rfl rfl sh_56 rfl ⟨Nat.le_of_ble_eq_true rfl, Nat.le_of_ble_eq_true rfl, Nat.le_of_ble_eq_true rfl, Nat.le_of_ble_eq_true rfl⟩ h ?_
      rintro _ s14 ⟨rfl, h⟩
      refine r_iload_n 0 dX8_remove_45 rfl rfl ?_
      refine r_aload_n 2 dX8_remove_46 rfl rfl ?_
      refine r_iload_n 1 dX8_remove_47 rfl rfl ?_
      refine r_callV [vI r4] [vI r7] dX8_remove_48 okX8_lengthOfRow ivX8_lengthOfRow seX8_lengthOfRow lm_X8_167 rfl rfl sh_56 rfl ⟨Nat.le_of_ble_eq_true rfl, Nat.le_of_ble_eq_true rfl, Nat.le_of_ble_eq_true rfl, Nat.le_of_ble_eq_true rfl⟩ h ?_
      rintro _ s16 ⟨r15, rfl, h⟩
      obtain ⟨b17, h⟩ := h
      refine r_isub dX8_remove_51 b17 ?_
      exact r_iret dX8_remove_52 rfl ⟨_, rfl, h⟩
    · replace h := h.2 c6
      refine r_sipush dX8_remove_22 (by decide) (by decide) ?_
      exact r_iret dX8_remove_25 rfl ⟨_, rfl, h⟩
  · replace h := h.2 c3
    refine r_sipush dX8_remove_8 (by decide) (by decide) ?_
    exact r_iret dX8_remove_11 rfl ⟨_, rfl, h⟩
set_option maxRecDepth 100000 in
set_option maxHeartbeats 4000000 in
theorem clX8_isShort (l : Launch) (G : GT) (σ : Sto) (Q : Int → Sto → Prop) (x1 : Int) (x2 : Int)
    (h : CLi l G mX8_vehicleOf [vR 56, vI x2] σ (fun r1 s2 => (0 ≤ r1 → CLv l G mX8_takeOut [vR 56, vI x2] s2 (fun s5 => CLi l G mX8_putBest [vR 56, vI x1, vI r1] s5 (fun r6 s7 => (r6 = 0 → Q 0 s7) ∧ (¬ (r6 = 0) → CLi l G mX8_putAnywhere [vR 56, vI x2, vI r1] s7 (fun r9 s10 => ∀ y12 : Int, y12 = (if r9 < 0 then 0 else 1) → Q y12 s10))))) ∧ (¬ (0 ≤ r1) → Q 0 s2))) :
    CLi l G mX8_isShort [vR 56, vI x1, vI x2] σ Q := by
  show MWi l G mX8_isShort 0 [(0, vR 56), (1, vI x1), (2, vI x2)] [] σ Q
  refine r_aload_n 0 dX8_isShort_0 rfl rfl ?_
  refine r_iload_n 2 dX8_isShort_1 rfl rfl ?_
  refine r_callV [vI x2] [] dX8_isShort_2 okX8_vehicleOf ivX8_vehicleOf seX8_vehicleOf lm_X8_114 rfl rfl sh_56 rfl ⟨Nat.le_of_ble_eq_true rfl, Nat.le_of_ble_eq_true rfl, Nat.le_of_ble_eq_true rfl, Nat.le_of_ble_eq_true rfl⟩ h ?_
  rintro _ s2 ⟨r1, rfl, h⟩
  refine r_istore_n dX8_isShort_5 rfl (by decide) rfl ?_
  refine r_iload_n 0 dX8_isShort_6 rfl rfl ?_
  refine r_if_ge (tgt := 12) dX8_isShort_7 (by decide) (fun (c3 : 0 ≤ r1) => ?_) (fun (c3 : ¬ (0 ≤ r1)) => ?_)
  · replace h := h.1 c3
    refine r_aload_n 1 dX8_isShort_12 rfl rfl ?_
    refine r_iload_n 3 dX8_isShort_13 rfl rfl ?_
    refine r_callV [vI x2] [] dX8_isShort_14 okX8_takeOut ivX8_takeOut seX8_takeOut lm_X8_182 rfl rfl sh_56 rfl ⟨Nat.le_of_ble_eq_true rfl, Nat.le_of_ble_eq_true rfl, Nat.le_of_ble_eq_true rfl, Nat.le_of_ble_eq_true rfl⟩ h ?_
    rintro _ s5 ⟨rfl, h⟩
    refine r_aload_n 1 dX8_isShort_17 rfl rfl ?_
    refine r_iload_n 2 dX8_isShort_18 rfl rfl ?_
    refine r_iload_n 0 dX8_isShort_19 rfl rfl ?_
    refine r_callV [vI x1, vI r1] [] dX8_isShort_20 okX8_putBest ivX8_putBest seX8_putBest lm_X8_160 rfl rfl sh_56 rfl ⟨Nat.le_of_ble_eq_true rfl, Nat.le_of_ble_eq_true rfl, Nat.le_of_ble_eq_true rfl, Nat.le_of_ble_eq_true rfl⟩ h ?_
    rintro _ s7 ⟨r6, rfl, h⟩
    refine r_if_eq (tgt := 39) dX8_isShort_23 (by decide) (fun (c8 : r6 = 0) => ?_) (fun (c8 : ¬ (r6 = 0)) => ?_)
    · replace h := h.1 c8
      refine r_iconst dX8_isShort_39 (by decide) ?_
      exact r_zret dX8_isShort_40 rfl (by decide) ⟨_, rfl, h⟩
    · replace h := h.2 c8
      refine r_aload_n 1 dX8_isShort_26 rfl rfl ?_
      refine r_iload_n 3 dX8_isShort_27 rfl rfl ?_
      refine r_iload_n 0 dX8_isShort_28 rfl rfl ?_
      refine r_callV [vI x2, vI r1] [] dX8_isShort_29 okX8_putAnywhere ivX8_putAnywhere seX8_putAnywhere lm_X8_179 rfl rfl sh_56 rfl ⟨Nat.le_of_ble_eq_true rfl, Nat.le_of_ble_eq_true rfl, Nat.le_of_ble_eq_true rfl, Nat.le_of_ble_eq_true rfl⟩ h ?_
      rintro _ s10 ⟨r9, rfl, h⟩
      obtain ⟨y12, ey12⟩ : ∃ z : Int, z = (if r9 < 0 then 0 else 1) := ⟨_, rfl⟩
      replace h := h y12 ey12
      have hj13 : MWi l G mX8_isShort 40 [] [vI y12] s10 Q := by
        exact r_zret dX8_isShort_40 rfl (by rw [ey12]; (repeat' split) <;> decide) ⟨_, rfl, h⟩
      refine r_if_lt (tgt := 39) dX8_isShort_32 (by decide) (fun (c11 : r9 < 0) => ?_) (fun (c11 : ¬ (r9 < 0)) => ?_)
      · refine r_iconst dX8_isShort_39 (by decide) ?_
        refine MWF.sub [] rfl ?_
        have q14 : y12 = 0 := by rw [ey12, if_pos c11]
        rw [q14] at hj13
        exact hj13
      · refine r_iconst dX8_isShort_35 (by decide) ?_
        refine r_goto (tgt := 40) dX8_isShort_36 (by decide) ?_
        refine MWF.sub [] rfl ?_
        have q15 : y12 = 1 := by rw [ey12, if_neg c11]
        rw [q15] at hj13
        exact hj13
  · replace h := h.2 c3
    refine r_iconst dX8_isShort_10 (by decide) ?_
    exact r_zret dX8_isShort_11 rfl (by decide) ⟨_, rfl, h⟩
set_option maxRecDepth 100000 in
set_option maxHeartbeats 4000000 in
theorem clX8_isLong (l : Launch) (G : GT) (σ : Sto) (Q : Int → Sto → Prop) (x1 : Int) (x2 : Int) (x3 : Int)
    (h : CLi l G mX8_vehicleOf [vR 56, vI x2] σ (fun r1 s2 => CLi l G mX8_vehicleOf [vR 56, vI x3] s2 (fun r3 s4 => (r1 < 0 → Q 0 s4) ∧ (¬ (r1 < 0) → (r3 < 0 → Q 0 s4) ∧ (¬ (r3 < 0) → (r1 = r3 → Q 0 s4) ∧ (¬ (r1 = r3) → CLv l G mX8_takeOut [vR 56, vI x2] s4 (fun s9 => CLi l G mX8_putBest [vR 56, vI x1, vI r1] s9 (fun r10 s11 => (r10 = 0 → Q 0 s11) ∧ (¬ (r10 = 0) → CLv l G mX8_takeOut [vR 56, vI x3] s11 (fun s14 => CLi l G mX8_putBest [vR 56, vI x2, vI r3] s14 (fun r15 s16 => (r15 = 0 → Q 0 s16) ∧ (¬ (r15 = 0) → CLi l G mX8_putAnywhere [vR 56, vI x3, vI r3] s16 (fun r18 s19 => ∀ y21 : Int, y21 = (if r18 < 0 then 0 else 1) → Q y21 s19))))))))))))) :
    CLi l G mX8_isLong [vR 56, vI x1, vI x2, vI x3] σ Q := by
  show MWi l G mX8_isLong 0 [(0, vR 56), (1, vI x1), (2, vI x2), (3, vI x3)] [] σ Q
  refine r_aload_n 0 dX8_isLong_0 rfl rfl ?_
  refine r_iload_n 2 dX8_isLong_1 rfl rfl ?_
  refine r_callV [vI x2] [] dX8_isLong_2 okX8_vehicleOf ivX8_vehicleOf seX8_vehicleOf lm_X8_114 rfl rfl sh_56 rfl ⟨Nat.le_of_ble_eq_true rfl, Nat.le_of_ble_eq_true rfl, Nat.le_of_ble_eq_true rfl, Nat.le_of_ble_eq_true rfl⟩ h ?_
  rintro _ s2 ⟨r1, rfl, h⟩
  refine r_istore dX8_isLong_5 (by decide) rfl ?_
  refine r_aload_n 1 dX8_isLong_7 rfl rfl ?_
  refine r_iload_n 4 dX8_isLong_8 rfl rfl ?_
  refine r_callV [vI x3] [] dX8_isLong_9 okX8_vehicleOf ivX8_vehicleOf seX8_vehicleOf lm_X8_114 rfl rfl sh_56 rfl ⟨Nat.le_of_ble_eq_true rfl, Nat.le_of_ble_eq_true rfl, Nat.le_of_ble_eq_true rfl, Nat.le_of_ble_eq_true rfl⟩ h ?_
  rintro _ s4 ⟨r3, rfl, h⟩
  refine r_istore dX8_isLong_12 (by decide) rfl ?_
  refine r_iload 1 dX8_isLong_14 rfl ?_
  refine r_if_lt (tgt := 31) dX8_isLong_16 (by decide) (fun (c5 : r1 < 0) => ?_) (fun (c5 : ¬ (r1 < 0)) => ?_)
  · replace h := h.1 c5
    refine r_iconst dX8_isLong_31 (by decide) ?_
    exact r_zret dX8_isLong_32 rfl (by decide) ⟨_, rfl, h⟩
  · replace h := h.2 c5
    refine r_iload 0 dX8_isLong_19 rfl ?_
    refine r_if_lt (tgt := 31) dX8_isLong_21 (by decide) (fun (c6 : r3 < 0) => ?_) (fun (c6 : ¬ (r3 < 0)) => ?_)
    · replace h := h.1 c6
      refine r_iconst dX8_isLong_31 (by decide) ?_
      exact r_zret dX8_isLong_32 rfl (by decide) ⟨_, rfl, h⟩
    · replace h := h.2 c6
      refine r_iload 1 dX8_isLong_24 rfl ?_
      refine r_iload 0 dX8_isLong_26 rfl ?_
      refine r_icmp_ne (tgt := 33) dX8_isLong_28 (by decide) (fun (c7 : r1 = r3) => ?_) (fun (c7 : ¬ (r1 = r3)) => ?_)
      · replace h := h.1 c7
        refine r_iconst dX8_isLong_31 (by decide) ?_
        exact r_zret dX8_isLong_32 rfl (by decide) ⟨_, rfl, h⟩
      · replace h := h.2 c7
        refine r_aload_n 2 dX8_isLong_33 rfl rfl ?_
        refine r_iload_n 4 dX8_isLong_34 rfl rfl ?_
        refine r_callV [vI x2] [] dX8_isLong_35 okX8_takeOut ivX8_takeOut seX8_takeOut lm_X8_182 rfl rfl sh_56 rfl ⟨Nat.le_of_ble_eq_true rfl, Nat.le_of_ble_eq_true rfl, Nat.le_of_ble_eq_true rfl, Nat.le_of_ble_eq_true rfl⟩ h ?_
        rintro _ s9 ⟨rfl, h⟩
        refine r_aload_n 2 dX8_isLong_38 rfl rfl ?_
        refine r_iload_n 3 dX8_isLong_39 rfl rfl ?_
        refine r_iload 1 dX8_isLong_40 rfl ?_
        refine r_callV [vI x1, vI r1] [] dX8_isLong_42 okX8_putBest ivX8_putBest seX8_putBest lm_X8_160 rfl rfl sh_56 rfl ⟨Nat.le_of_ble_eq_true rfl, Nat.le_of_ble_eq_true rfl, Nat.le_of_ble_eq_true rfl, Nat.le_of_ble_eq_true rfl⟩ h ?_
        rintro _ s11 ⟨r10, rfl, h⟩
        refine r_if_ne (tgt := 50) dX8_isLong_45 (by decide) (fun (c12 : r10 = 0) => ?_) (fun (c12 : ¬ (r10 = 0)) => ?_)
        · replace h := h.1 c12
          refine r_iconst dX8_isLong_48 (by decide) ?_
          exact r_zret dX8_isLong_49 rfl (by decide) ⟨_, rfl, h⟩
        · replace h := h.2 c12
          refine r_aload_n 2 dX8_isLong_50 rfl rfl ?_
          refine r_iload_n 5 dX8_isLong_51 rfl rfl ?_
          refine r_callV [vI x3] [] dX8_isLong_52 okX8_takeOut ivX8_takeOut seX8_takeOut lm_X8_182 rfl rfl sh_56 rfl ⟨Nat.le_of_ble_eq_true rfl, Nat.le_of_ble_eq_true rfl, Nat.le_of_ble_eq_true rfl, Nat.le_of_ble_eq_true rfl⟩ h ?_
          rintro _ s14 ⟨rfl, h⟩
          refine r_aload_n 2 dX8_isLong_55 rfl rfl ?_
          refine r_iload_n 4 dX8_isLong_56 rfl rfl ?_
          refine r_iload 0 dX8_isLong_57 rfl ?_
          refine r_callV [vI x2, vI r3] [] dX8_isLong_59 okX8_putBest ivX8_putBest seX8_putBest lm_X8_160 rfl rfl sh_56 rfl ⟨Nat.le_of_ble_eq_true rfl, Nat.le_of_ble_eq_true rfl, Nat.le_of_ble_eq_true rfl, Nat.le_of_ble_eq_true rfl⟩ h ?_
          rintro _ s16 ⟨r15, rfl, h⟩
          refine r_if_eq (tgt := 79) dX8_isLong_62 (by decide) (fun (c17 : r15 = 0) => ?_) (fun (c17 : ¬ (r15 = 0)) => ?_)
          · replace h := h.1 c17
            refine r_iconst dX8_isLong_79 (by decide) ?_
            exact r_zret dX8_isLong_80 rfl (by decide) ⟨_, rfl, h⟩
          · replace h := h.2 c17
            refine r_aload_n 2 dX8_isLong_65 rfl rfl ?_
            refine r_iload_n 5 dX8_isLong_66 rfl rfl ?_
            refine r_iload 0 dX8_isLong_67 rfl ?_
            refine r_callV [vI x3, vI r3] [] dX8_isLong_69 okX8_putAnywhere ivX8_putAnywhere seX8_putAnywhere lm_X8_179 rfl rfl sh_56 rfl ⟨Nat.le_of_ble_eq_true rfl, Nat.le_of_ble_eq_true rfl, Nat.le_of_ble_eq_true rfl, Nat.le_of_ble_eq_true rfl⟩ h ?_
            rintro _ s19 ⟨r18, rfl, h⟩
            obtain ⟨y21, ey21⟩ : ∃ z : Int, z = (if r18 < 0 then 0 else 1) := ⟨_, rfl⟩
            replace h := h y21 ey21
            have hj22 : MWi l G mX8_isLong 80 [] [vI y21] s19 Q := by
              exact r_zret dX8_isLong_80 rfl (by rw [ey21]; (repeat' split) <;> decide) ⟨_, rfl, h⟩
            refine r_if_lt (tgt := 79) dX8_isLong_72 (by decide) (fun (c20 : r18 < 0) => ?_) (fun (c20 : ¬ (r18 < 0)) => ?_)
            · refine r_iconst dX8_isLong_79 (by decide) ?_
              refine MWF.sub [] rfl ?_
              have q23 : y21 = 0 := by rw [ey21, if_pos c20]
              rw [q23] at hj22
              exact hj22
            · refine r_iconst dX8_isLong_75 (by decide) ?_
              refine r_goto (tgt := 80) dX8_isLong_76 (by decide) ?_
              refine MWF.sub [] rfl ?_
              have q24 : y21 = 1 := by rw [ey21, if_neg c20]
              rw [q24] at hj22
              exact hj22
set_option maxRecDepth 100000 in
set_option maxHeartbeats 4000000 in
theorem clX8_findChain (l : Launch) (G : GT) (σ : Sto) (Q : Int → Sto → Prop) (x1 : Int)
    (h : CLv l G mX8_putAside [vR 56] σ (fun s2 => MWi l G mX8_findChain 8 [(0, vR 56), (1, vI x1), (2, vI 0), (3, vI 0)] [] s2 Q)) :
    CLi l G mX8_findChain [vR 56, vI x1] σ Q := by
  show MWi l G mX8_findChain 0 [(0, vR 56), (1, vI x1)] [] σ Q
  refine r_aload_n 0 dX8_findChain_0 rfl rfl ?_
  refine r_callV [] [] dX8_findChain_1 okX8_putAside ivX8_putAside seX8_putAside lm_X8_170 rfl rfl sh_56 rfl ⟨Nat.le_of_ble_eq_true rfl, Nat.le_of_ble_eq_true rfl, Nat.le_of_ble_eq_true rfl, Nat.le_of_ble_eq_true rfl⟩ h ?_
  rintro _ s2 ⟨rfl, h⟩
  refine r_iconst dX8_findChain_4 (by decide) ?_
  refine r_istore_n dX8_findChain_5 rfl (by decide) rfl ?_
  refine r_iconst dX8_findChain_6 (by decide) ?_
  refine r_istore_n dX8_findChain_7 rfl (by decide) rfl ?_
  refine MWF.sub [2, 3, 1, 0] rfl ?_
  exact h
set_option maxRecDepth 100000 in
set_option maxHeartbeats 4000000 in
theorem vcX8_findChain_8 (l : Launch) (G : GT) (σ : Sto) (Q : Int → Sto → Prop) (x1 : Int) (x2 : Int) (x3 : Int)
    (h : ((σ 56 7) ≤ x3 → MWi l G mX8_findChain 76 [(0, vR 56), (1, vI x1), (2, vI x2), (3, vI x2), (4, vI 0)] [] σ Q) ∧ (¬ ((σ 56 7) ≤ x3) → CLi l G mX8_isShort [vR 56, vI x1, vI x3] σ (fun r4 s5 => (r4 = 0 → CLv l G mX8_takeBack [vR 56] s5 (fun s8 => (-2147483648 ≤ x3 + 1 ∧ x3 + 1 ≤ 2147483647) ∧ MWi l G mX8_findChain 8 [(0, vR 56), (1, vI x1), (2, vI x2), (3, vI (x3 + 1))] [] s8 Q)) ∧ (¬ (r4 = 0) → (x2 = 0 → CLi l G mX8_total [vR 56] (stS (stS s5 56 25 x3) 56 26 99) (fun r11 s12 => CLv l G mX8_takeBack [vR 56] (stS s12 56 27 r11) (fun s14 => (-2147483648 ≤ x3 + 1 ∧ x3 + 1 ≤ 2147483647) ∧ MWi l G mX8_findChain 8 [(0, vR 56), (1, vI x1), (2, vI 1), (3, vI (x3 + 1))] [] s14 Q))) ∧ (¬ (x2 = 0) → CLi l G mX8_total [vR 56] s5 (fun r16 s17 => ((s17 56 27) ≤ r16 → CLv l G mX8_takeBack [vR 56] s17 (fun s20 => (-2147483648 ≤ x3 + 1 ∧ x3 + 1 ≤ 2147483647) ∧ MWi l G mX8_findChain 8 [(0, vR 56), (1, vI x1), (2, vI x2), (3, vI (x3 + 1))] [] s20 Q)) ∧ (¬ ((s17 56 27) ≤ r16) → CLi l G mX8_total [vR 56] (stS (stS s17 56 25 x3) 56 26 99) (fun r22 s23 => CLv l G mX8_takeBack [vR 56] (stS s23 56 27 r22) (fun s25 => (-2147483648 ≤ x3 + 1 ∧ x3 + 1 ≤ 2147483647) ∧ MWi l G mX8_findChain 8 [(0, vR 56), (1, vI x1), (2, vI 1), (3, vI (x3 + 1))] [] s25 Q))))))))) :
    MWi l G mX8_findChain 8 [(0, vR 56), (1, vI x1), (2, vI x2), (3, vI x3)] [] σ Q := by
  refine r_iload_n 3 dX8_findChain_8 rfl rfl ?_
  refine r_aload_n 0 dX8_findChain_9 rfl rfl ?_
  refine r_getI (j := 7) dX8_findChain_10 sh_56 rfl kc_8 (by decide) lf_X8_72 ?_
  refine r_icmp_ge (tgt := 71) dX8_findChain_13 (by decide) (fun (c3 : (σ 56 7) ≤ x3) => ?_) (fun (c3 : ¬ ((σ 56 7) ≤ x3)) => ?_)
  · replace h := h.1 c3
    refine r_iload_n 2 dX8_findChain_71 rfl rfl ?_
    refine r_istore_n dX8_findChain_72 rfl (by decide) rfl ?_
    refine r_iconst dX8_findChain_73 (by decide) ?_
    refine r_istore dX8_findChain_74 (by decide) rfl ?_
    refine MWF.sub [2, 3, 4, 1, 0] rfl ?_
    exact h
  · replace h := h.2 c3
    refine r_aload_n 0 dX8_findChain_16 rfl rfl ?_
    refine r_iload_n 1 dX8_findChain_17 rfl rfl ?_
    refine r_iload_n 3 dX8_findChain_18 rfl rfl ?_
    refine r_callV [vI x1, vI x3] [] dX8_findChain_19 okX8_isShort ivX8_isShort seX8_isShort lm_X8_185 rfl rfl sh_56 rfl ⟨Nat.le_of_ble_eq_true rfl, Nat.le_of_ble_eq_true rfl, Nat.le_of_ble_eq_true rfl, Nat.le_of_ble_eq_true rfl⟩ h ?_
    rintro _ s5 ⟨r4, rfl, h⟩
    refine r_if_eq (tgt := 61) dX8_findChain_22 (by decide) (fun (c6 : r4 = 0) => ?_) (fun (c6 : ¬ (r4 = 0)) => ?_)
    · replace h := h.1 c6
      refine r_aload_n 0 dX8_findChain_61 rfl rfl ?_
      refine r_callV [] [] dX8_findChain_62 okX8_takeBack ivX8_takeBack seX8_takeBack lm_X8_197 rfl rfl sh_56 rfl ⟨Nat.le_of_ble_eq_true rfl, Nat.le_of_ble_eq_true rfl, Nat.le_of_ble_eq_true rfl, Nat.le_of_ble_eq_true rfl⟩ h ?_
      rintro _ s8 ⟨rfl, h⟩
      obtain ⟨b9, h⟩ := h
      refine r_iinc 3 dX8_findChain_65 rfl (by decide) b9 rfl ?_
      refine r_goto (tgt := 8) dX8_findChain_68 (by decide) ?_
      refine MWF.sub [1, 2, 3, 0] rfl ?_
      exact h
    · replace h := h.2 c6
      refine r_iload_n 2 dX8_findChain_25 rfl rfl ?_
      refine r_if_eq (tgt := 40) dX8_findChain_26 (by decide) (fun (c10 : x2 = 0) => ?_) (fun (c10 : ¬ (x2 = 0)) => ?_)
      · replace h := h.1 c10
        refine r_iconst dX8_findChain_40 (by decide) ?_
        refine r_istore_n dX8_findChain_41 rfl (by decide) rfl ?_
        refine r_aload_n 1 dX8_findChain_42 rfl rfl ?_
        refine r_iload_n 3 dX8_findChain_43 rfl rfl ?_
        refine r_putI (j := 25) dX8_findChain_44 sh_56 rfl kc_8 (by decide) lf_X8_191 rfl (by decide) ?_
        refine r_aload_n 1 dX8_findChain_47 rfl rfl ?_
        refine r_bipush dX8_findChain_48 (by decide) (by decide) ?_
        refine r_putI (j := 26) dX8_findChain_50 sh_56 rfl kc_8 (by decide) lf_X8_194 rfl (by decide) ?_
        refine r_aload_n 1 dX8_findChain_53 rfl rfl ?_
        refine r_aload_n 1 dX8_findChain_54 rfl rfl ?_
        refine r_callV [] [vR 56] dX8_findChain_55 okX8_total ivX8_total seX8_total lm_X8_129 rfl rfl sh_56 rfl ⟨Nat.le_of_ble_eq_true rfl, Nat.le_of_ble_eq_true rfl, Nat.le_of_ble_eq_true rfl, Nat.le_of_ble_eq_true rfl⟩ h ?_
        rintro _ s12 ⟨r11, rfl, h⟩
        refine r_putI (j := 27) dX8_findChain_58 sh_56 rfl kc_8 (by decide) lf_X8_188 rfl (by decide) ?_
        refine r_aload_n 1 dX8_findChain_61 rfl rfl ?_
        refine r_callV [] [] dX8_findChain_62 okX8_takeBack ivX8_takeBack seX8_takeBack lm_X8_197 rfl rfl sh_56 rfl ⟨Nat.le_of_ble_eq_true rfl, Nat.le_of_ble_eq_true rfl, Nat.le_of_ble_eq_true rfl, Nat.le_of_ble_eq_true rfl⟩ h ?_
        rintro _ s14 ⟨rfl, h⟩
        obtain ⟨b15, h⟩ := h
        refine r_iinc 3 dX8_findChain_65 rfl (by decide) b15 rfl ?_
        refine r_goto (tgt := 8) dX8_findChain_68 (by decide) ?_
        refine MWF.sub [2, 3, 1, 0] rfl ?_
        exact h
      · replace h := h.2 c10
        refine r_aload_n 0 dX8_findChain_29 rfl rfl ?_
        refine r_callV [] [] dX8_findChain_30 okX8_total ivX8_total seX8_total lm_X8_129 rfl rfl sh_56 rfl ⟨Nat.le_of_ble_eq_true rfl, Nat.le_of_ble_eq_true rfl, Nat.le_of_ble_eq_true rfl, Nat.le_of_ble_eq_true rfl⟩ h ?_
        rintro _ s17 ⟨r16, rfl, h⟩
        refine r_aload_n 0 dX8_findChain_33 rfl rfl ?_
        refine r_getI (j := 27) dX8_findChain_34 sh_56 rfl kc_8 (by decide) lf_X8_188 ?_
        refine r_icmp_ge (tgt := 61) dX8_findChain_37 (by decide) (fun (c18 : (s17 56 27) ≤ r16) => ?_) (fun (c18 : ¬ ((s17 56 27) ≤ r16)) => ?_)
        · replace h := h.1 c18
          refine r_aload_n 0 dX8_findChain_61 rfl rfl ?_
          refine r_callV [] [] dX8_findChain_62 okX8_takeBack ivX8_takeBack seX8_takeBack lm_X8_197 rfl rfl sh_56 rfl ⟨Nat.le_of_ble_eq_true rfl, Nat.le_of_ble_eq_true rfl, Nat.le_of_ble_eq_true rfl, Nat.le_of_ble_eq_true rfl⟩ h ?_
          rintro _ s20 ⟨rfl, h⟩
          obtain ⟨b21, h⟩ := h
          refine r_iinc 3 dX8_findChain_65 rfl (by decide) b21 rfl ?_
          refine r_goto (tgt := 8) dX8_findChain_68 (by decide) ?_
          refine MWF.sub [1, 2, 3, 0] rfl ?_
          exact h
        · replace h := h.2 c18
          refine r_iconst dX8_findChain_40 (by decide) ?_
          refine r_istore_n dX8_findChain_41 rfl (by decide) rfl ?_
          refine r_aload_n 1 dX8_findChain_42 rfl rfl ?_
          refine r_iload_n 3 dX8_findChain_43 rfl rfl ?_
          refine r_putI (j := 25) dX8_findChain_44 sh_56 rfl kc_8 (by decide) lf_X8_191 rfl (by decide) ?_
          refine r_aload_n 1 dX8_findChain_47 rfl rfl ?_
          refine r_bipush dX8_findChain_48 (by decide) (by decide) ?_
          refine r_putI (j := 26) dX8_findChain_50 sh_56 rfl kc_8 (by decide) lf_X8_194 rfl (by decide) ?_
          refine r_aload_n 1 dX8_findChain_53 rfl rfl ?_
          refine r_aload_n 1 dX8_findChain_54 rfl rfl ?_
          refine r_callV [] [vR 56] dX8_findChain_55 okX8_total ivX8_total seX8_total lm_X8_129 rfl rfl sh_56 rfl ⟨Nat.le_of_ble_eq_true rfl, Nat.le_of_ble_eq_true rfl, Nat.le_of_ble_eq_true rfl, Nat.le_of_ble_eq_true rfl⟩ h ?_
          rintro _ s23 ⟨r22, rfl, h⟩
          refine r_putI (j := 27) dX8_findChain_58 sh_56 rfl kc_8 (by decide) lf_X8_188 rfl (by decide) ?_
          refine r_aload_n 1 dX8_findChain_61 rfl rfl ?_
          refine r_callV [] [] dX8_findChain_62 okX8_takeBack ivX8_takeBack seX8_takeBack lm_X8_197 rfl rfl sh_56 rfl ⟨Nat.le_of_ble_eq_true rfl, Nat.le_of_ble_eq_true rfl, Nat.le_of_ble_eq_true rfl, Nat.le_of_ble_eq_true rfl⟩ h ?_
          rintro _ s25 ⟨rfl, h⟩
          obtain ⟨b26, h⟩ := h
          refine r_iinc 3 dX8_findChain_65 rfl (by decide) b26 rfl ?_
          refine r_goto (tgt := 8) dX8_findChain_68 (by decide) ?_
          refine MWF.sub [2, 3, 1, 0] rfl ?_
          exact h
set_option maxRecDepth 100000 in
set_option maxHeartbeats 4000000 in
theorem vcX8_findChain_76 (l : Launch) (G : GT) (σ : Sto) (Q : Int → Sto → Prop) (x1 : Int) (x2 : Int) (x3 : Int) (x4 : Int)
    (h : (-2147483648 ≤ (σ 56 7) * (σ 56 7) ∧ (σ 56 7) * (σ 56 7) ≤ 2147483647) ∧ (((σ 56 7) * (σ 56 7)) ≤ x4 → (x2 = 0 ∨ x2 = 1) ∧ Q x2 σ) ∧ (¬ (((σ 56 7) * (σ 56 7)) ≤ x4) → (x3 = 0 → (0 ≤ x4) ∧ (0 < (σ 56 7)) ∧ CLi l G mX8_isLong [vR 56, vI x1, vI (x4 / (σ 56 7)), vI (x4 % (σ 56 7))] σ (fun r33 s34 => (r33 = 0 → CLv l G mX8_takeBack [vR 56] s34 (fun s37 => (-2147483648 ≤ x4 + 1 ∧ x4 + 1 ≤ 2147483647) ∧ MWi l G mX8_findChain 76 [(0, vR 56), (1, vI x1), (2, vI x2), (3, vI x3), (4, vI (x4 + 1))] [] s37 Q)) ∧ (¬ (r33 = 0) → (x2 = 0 → (0 < (s34 56 7)) ∧ CLi l G mX8_total [vR 56] (stS (stS s34 56 25 (x4 / (s34 56 7))) 56 26 (x4 % (s34 56 7))) (fun r41 s42 => CLv l G mX8_takeBack [vR 56] (stS s42 56 27 r41) (fun s44 => (-2147483648 ≤ x4 + 1 ∧ x4 + 1 ≤ 2147483647) ∧ MWi l G mX8_findChain 76 [(0, vR 56), (1, vI x1), (2, vI 1), (3, vI x3), (4, vI (x4 + 1))] [] s44 Q))) ∧ (¬ (x2 = 0) → CLi l G mX8_total [vR 56] s34 (fun r46 s47 => ((s47 56 27) ≤ r46 → CLv l G mX8_takeBack [vR 56] s47 (fun s50 => (-2147483648 ≤ x4 + 1 ∧ x4 + 1 ≤ 2147483647) ∧ MWi l G mX8_findChain 76 [(0, vR 56), (1, vI x1), (2, vI x2), (3, vI x3), (4, vI (x4 + 1))] [] s50 Q)) ∧ (¬ ((s47 56 27) ≤ r46) → (0 < (s47 56 7)) ∧ CLi l G mX8_total [vR 56] (stS (stS s47 56 25 (x4 / (s47 56 7))) 56 26 (x4 % (s47 56 7))) (fun r53 s54 => CLv l G mX8_takeBack [vR 56] (stS s54 56 27 r53) (fun s56 => (-2147483648 ≤ x4 + 1 ∧ x4 + 1 ≤ 2147483647) ∧ MWi l G mX8_findChain 76 [(0, vR 56), (1, vI x1), (2, vI 1), (3, vI x3), (4, vI (x4 + 1))] [] s56 Q)))))))) ∧ (¬ (x3 = 0) → (x2 = 0 ∨ x2 = 1) ∧ Q x2 σ))) :
    MWi l G mX8_findChain 76 [(0, vR 56), (1, vI x1), (2, vI x2), (3, vI x3), (4, vI x4)] [] σ Q := by
  refine r_iload 4 dX8_findChain_76 rfl ?_
  refine r_aload_n 0 dX8_findChain_78 rfl rfl ?_
  refine r_getI (j := 7) dX8_findChain_79 sh_56 rfl kc_8 (by decide) lf_X8_72 ?_
  refine r_aload_n 0 dX8_findChain_82 rfl rfl ?_
  refine r_getI (j := 7) dX8_findChain_83 sh_56 rfl kc_8 (by decide) lf_X8_72 ?_
  obtain ⟨b27, h⟩ := h
  refine r_imul dX8_findChain_86 b27 ?_
  refine r_icmp_ge (tgt := 173) dX8_findChain_87 (by decide) (fun (c28 : ((σ 56 7) * (σ 56 7)) ≤ x4) => ?_) (fun (c28 : ¬ (((σ 56 7) * (σ 56 7)) ≤ x4)) => ?_)
  · replace h := h.1 c28
    refine r_iload_n 2 dX8_findChain_173 rfl rfl ?_
    obtain ⟨b29, h⟩ := h
    exact r_zret dX8_findChain_174 rfl b29 ⟨_, rfl, h⟩
  · replace h := h.2 c28
    refine r_iload_n 3 dX8_findChain_90 rfl rfl ?_
    refine r_if_ne (tgt := 173) dX8_findChain_91 (by decide) (fun (c30 : x3 = 0) => ?_) (fun (c30 : ¬ (x3 = 0)) => ?_)
    · replace h := h.1 c30
      refine r_aload_n 0 dX8_findChain_94 rfl rfl ?_
      refine r_iload_n 1 dX8_findChain_95 rfl rfl ?_
      refine r_iload 4 dX8_findChain_96 rfl ?_
      refine r_aload_n 0 dX8_findChain_98 rfl rfl ?_
      refine r_getI (j := 7) dX8_findChain_99 sh_56 rfl kc_8 (by decide) lf_X8_72 ?_
      obtain ⟨b31, h⟩ := h
      obtain ⟨b32, h⟩ := h
      refine r_idiv dX8_findChain_102 b31 b32 ?_
      refine r_iload 4 dX8_findChain_103 rfl ?_
      refine r_aload_n 0 dX8_findChain_105 rfl rfl ?_
      refine r_getI (j := 7) dX8_findChain_106 sh_56 rfl kc_8 (by decide) lf_X8_72 ?_
      refine r_irem dX8_findChain_109 b31 b32 ?_
      refine r_callV [vI x1, vI (x4 / (σ 56 7)), vI (x4 % (σ 56 7))] [] dX8_findChain_110 okX8_isLong ivX8_isLong seX8_isLong lm_X8_200 rfl rfl sh_56 rfl ⟨Nat.le_of_ble_eq_true rfl, Nat.le_of_ble_eq_true rfl, Nat.le_of_ble_eq_true rfl, Nat.le_of_ble_eq_true rfl⟩ h ?_
      rintro _ s34 ⟨r33, rfl, h⟩
      refine r_if_eq (tgt := 163) dX8_findChain_113 (by decide) (fun (c35 : r33 = 0) => ?_) (fun (c35 : ¬ (r33 = 0)) => ?_)
      · replace h := h.1 c35
        refine r_aload_n 0 dX8_findChain_163 rfl rfl ?_
        refine r_callV [] [] dX8_findChain_164 okX8_takeBack ivX8_takeBack seX8_takeBack lm_X8_197 rfl rfl sh_56 rfl ⟨Nat.le_of_ble_eq_true rfl, Nat.le_of_ble_eq_true rfl, Nat.le_of_ble_eq_true rfl, Nat.le_of_ble_eq_true rfl⟩ h ?_
        rintro _ s37 ⟨rfl, h⟩
        obtain ⟨b38, h⟩ := h
        refine r_iinc 4 dX8_findChain_167 rfl (by decide) b38 rfl ?_
        refine r_goto (tgt := 76) dX8_findChain_170 (by decide) ?_
        refine MWF.sub [1, 2, 3, 4, 0] rfl ?_
        exact h
      · replace h := h.2 c35
        refine r_iload_n 2 dX8_findChain_116 rfl rfl ?_
        refine r_if_eq (tgt := 131) dX8_findChain_117 (by decide) (fun (c39 : x2 = 0) => ?_) (fun (c39 : ¬ (x2 = 0)) => ?_)
        · replace h := h.1 c39
          refine r_iconst dX8_findChain_131 (by decide) ?_
          refine r_istore_n dX8_findChain_132 rfl (by decide) rfl ?_
          refine r_aload_n 1 dX8_findChain_133 rfl rfl ?_
          refine r_iload 4 dX8_findChain_134 rfl ?_
          refine r_aload_n 1 dX8_findChain_136 rfl rfl ?_
          refine r_getI (j := 7) dX8_findChain_137 sh_56 rfl kc_8 (by decide) lf_X8_72 ?_
          obtain ⟨b40, h⟩ := h
          refine r_idiv dX8_findChain_140 b31 b40 ?_
          refine r_putI (j := 25) dX8_findChain_141 sh_56 rfl kc_8 (by decide) lf_X8_191 rfl (by decide) ?_
          refine r_aload_n 1 dX8_findChain_144 rfl rfl ?_
          refine r_iload 4 dX8_findChain_145 rfl ?_
          refine r_aload_n 1 dX8_findChain_147 rfl rfl ?_
          refine r_getI (j := 7) dX8_findChain_148 sh_56 rfl kc_8 (by decide) lf_X8_72 ?_
          refine MWF.top (stS_ni (by decide)) ?_
          refine r_irem dX8_findChain_151 b31 b40 ?_
          refine r_putI (j := 26) dX8_findChain_152 sh_56 rfl kc_8 (by decide) lf_X8_194 rfl (by decide) ?_
          refine r_aload_n 1 dX8_findChain_155 rfl rfl ?_
          refine r_aload_n 1 dX8_findChain_156 rfl rfl ?_
          refine r_callV [] [vR 56] dX8_findChain_157 okX8_total ivX8_total seX8_total lm_X8_129 rfl rfl sh_56 rfl ⟨Nat.le_of_ble_eq_true rfl, Nat.le_of_ble_eq_true rfl, Nat.le_of_ble_eq_true rfl, Nat.le_of_ble_eq_true rfl⟩ h ?_
          rintro _ s42 ⟨r41, rfl, h⟩
          refine r_putI (j := 27) dX8_findChain_160 sh_56 rfl kc_8 (by decide) lf_X8_188 rfl (by decide) ?_
          refine r_aload_n 1 dX8_findChain_163 rfl rfl ?_
          refine r_callV [] [] dX8_findChain_164 okX8_takeBack ivX8_takeBack seX8_takeBack lm_X8_197 rfl rfl sh_56 rfl ⟨Nat.le_of_ble_eq_true rfl, Nat.le_of_ble_eq_true rfl, Nat.le_of_ble_eq_true rfl, Nat.le_of_ble_eq_true rfl⟩ h ?_
          rintro _ s44 ⟨rfl, h⟩
          obtain ⟨b45, h⟩ := h
          refine r_iinc 4 dX8_findChain_167 rfl (by decide) b45 rfl ?_
          refine r_goto (tgt := 76) dX8_findChain_170 (by decide) ?_
          refine MWF.sub [2, 3, 1, 4, 0] rfl ?_
          exact h
        · replace h := h.2 c39
          refine r_aload_n 0 dX8_findChain_120 rfl rfl ?_
          refine r_callV [] [] dX8_findChain_121 okX8_total ivX8_total seX8_total lm_X8_129 rfl rfl sh_56 rfl ⟨Nat.le_of_ble_eq_true rfl, Nat.le_of_ble_eq_true rfl, Nat.le_of_ble_eq_true rfl, Nat.le_of_ble_eq_true rfl⟩ h ?_
          rintro _ s47 ⟨r46, rfl, h⟩
          refine r_aload_n 0 dX8_findChain_124 rfl rfl ?_
          refine r_getI (j := 27) dX8_findChain_125 sh_56 rfl kc_8 (by decide) lf_X8_188 ?_
          refine r_icmp_ge (tgt := 163) dX8_findChain_128 (by decide) (fun (c48 : (s47 56 27) ≤ r46) => ?_) (fun (c48 : ¬ ((s47 56 27) ≤ r46)) => ?_)
          · replace h := h.1 c48
            refine r_aload_n 0 dX8_findChain_163 rfl rfl ?_
            refine r_callV [] [] dX8_findChain_164 okX8_takeBack ivX8_takeBack seX8_takeBack lm_X8_197 rfl rfl sh_56 rfl ⟨Nat.le_of_ble_eq_true rfl, Nat.le_of_ble_eq_true rfl, Nat.le_of_ble_eq_true rfl, Nat.le_of_ble_eq_true rfl⟩ h ?_
            rintro _ s50 ⟨rfl, h⟩
            obtain ⟨b51, h⟩ := h
            refine r_iinc 4 dX8_findChain_167 rfl (by decide) b51 rfl ?_
            refine r_goto (tgt := 76) dX8_findChain_170 (by decide) ?_
            refine MWF.sub [1, 2, 3, 4, 0] rfl ?_
            exact h
          · replace h := h.2 c48
            refine r_iconst dX8_findChain_131 (by decide) ?_
            refine r_istore_n dX8_findChain_132 rfl (by decide) rfl ?_
            refine r_aload_n 1 dX8_findChain_133 rfl rfl ?_
            refine r_iload 4 dX8_findChain_134 rfl ?_
            refine r_aload_n 1 dX8_findChain_136 rfl rfl ?_
            refine r_getI (j := 7) dX8_findChain_137 sh_56 rfl kc_8 (by decide) lf_X8_72 ?_
            obtain ⟨b52, h⟩ := h
            refine r_idiv dX8_findChain_140 b31 b52 ?_
            refine r_putI (j := 25) dX8_findChain_141 sh_56 rfl kc_8 (by decide) lf_X8_191 rfl (by decide) ?_
            refine r_aload_n 1 dX8_findChain_144 rfl rfl ?_
            refine r_iload 4 dX8_findChain_145 rfl ?_
            refine r_aload_n 1 dX8_findChain_147 rfl rfl ?_
            refine r_getI (j := 7) dX8_findChain_148 sh_56 rfl kc_8 (by decide) lf_X8_72 ?_
            refine MWF.top (stS_ni (by decide)) ?_
            refine r_irem dX8_findChain_151 b31 b52 ?_
            refine r_putI (j := 26) dX8_findChain_152 sh_56 rfl kc_8 (by decide) lf_X8_194 rfl (by decide) ?_
            refine r_aload_n 1 dX8_findChain_155 rfl rfl ?_
            refine r_aload_n 1 dX8_findChain_156 rfl rfl ?_
            refine r_callV [] [vR 56] dX8_findChain_157 okX8_total ivX8_total seX8_total lm_X8_129 rfl rfl sh_56 rfl ⟨Nat.le_of_ble_eq_true rfl, Nat.le_of_ble_eq_true rfl, Nat.le_of_ble_eq_true rfl, Nat.le_of_ble_eq_true rfl⟩ h ?_
            rintro _ s54 ⟨r53, rfl, h⟩
            refine r_putI (j := 27) dX8_findChain_160 sh_56 rfl kc_8 (by decide) lf_X8_188 rfl (by decide) ?_
            refine r_aload_n 1 dX8_findChain_163 rfl rfl ?_
            refine r_callV [] [] dX8_findChain_164 okX8_takeBack ivX8_takeBack seX8_takeBack lm_X8_197 rfl rfl sh_56 rfl ⟨Nat.le_of_ble_eq_true rfl, Nat.le_of_ble_eq_true rfl, Nat.le_of_ble_eq_true rfl, Nat.le_of_ble_eq_true rfl⟩ h ?_
            rintro _ s56 ⟨rfl, h⟩
            obtain ⟨b57, h⟩ := h
            refine r_iinc 4 dX8_findChain_167 rfl (by decide) b57 rfl ?_
            refine r_goto (tgt := 76) dX8_findChain_170 (by decide) ?_
            refine MWF.sub [2, 3, 1, 4, 0] rfl ?_
            exact h
    · replace h := h.2 c30
      refine r_iload_n 2 dX8_findChain_173 rfl rfl ?_
      obtain ⟨b58, h⟩ := h
      exact r_zret dX8_findChain_174 rfl b58 ⟨_, rfl, h⟩
set_option maxRecDepth 100000 in
set_option maxHeartbeats 4000000 in
theorem clX8_chainCost (l : Launch) (G : GT) (σ : Sto) (Q : Int → Sto → Prop) (x1 : Int)
    (h : CLi l G mX8_openBarred [vR 56, vI x1] σ (fun r1 s2 => (0 ≤ r1 → CLi l G mX8_findChain [vR 56, vI x1] s2 (fun r4 s5 => (r4 = 0 → Q (-1005) s5) ∧ (¬ (r4 = 0) → (-2147483648 ≤ 10000 + (s5 56 27) ∧ 10000 + (s5 56 27) ≤ 2147483647) ∧ CLi l G mX8_total [vR 56] s5 (fun r8 s9 => (-2147483648 ≤ (10000 + (s5 56 27)) - r8 ∧ (10000 + (s5 56 27)) - r8 ≤ 2147483647) ∧ Q ((10000 + (s5 56 27)) - r8) s9)))) ∧ (¬ (0 ≤ r1) → Q r1 s2))) :
    CLi l G mX8_chainCost [vR 56, vI x1] σ Q := by
  show MWi l G mX8_chainCost 0 [(0, vR 56), (1, vI x1)] [] σ Q
  refine r_aload_n 0 dX8_chainCost_0 rfl rfl ?_
  refine r_iload_n 1 dX8_chainCost_1 rfl rfl ?_
  refine r_callV [vI x1] [] dX8_chainCost_2 okX8_openBarred ivX8_openBarred seX8_openBarred lm_X8_176 rfl rfl sh_56 rfl ⟨Nat.le_of_ble_eq_true rfl, Nat.le_of_ble_eq_true rfl, Nat.le_of_ble_eq_true rfl, Nat.le_of_ble_eq_true rfl⟩ h ?_
  rintro _ s2 ⟨r1, rfl, h⟩
  refine r_istore_n dX8_chainCost_5 rfl (by decide) rfl ?_
  refine r_iload_n 0 dX8_chainCost_6 rfl rfl ?_
  refine r_if_ge (tgt := 12) dX8_chainCost_7 (by decide) (fun (c3 : 0 ≤ r1) => ?_) (fun (c3 : ¬ (0 ≤ r1)) => ?_)
  · replace h := h.1 c3
    refine r_aload_n 1 dX8_chainCost_12 rfl rfl ?_
    refine r_iload_n 2 dX8_chainCost_13 rfl rfl ?_
    refine r_callV [vI x1] [] dX8_chainCost_14 okX8_findChain ivX8_findChain seX8_findChain lm_X8_203 rfl rfl sh_56 rfl ⟨Nat.le_of_ble_eq_true rfl, Nat.le_of_ble_eq_true rfl, Nat.le_of_ble_eq_true rfl, Nat.le_of_ble_eq_true rfl⟩ h ?_
    rintro _ s5 ⟨r4, rfl, h⟩
    refine r_if_eq (tgt := 36) dX8_chainCost_17 (by decide) (fun (c6 : r4 = 0) => ?_) (fun (c6 : ¬ (r4 = 0)) => ?_)
    · replace h := h.1 c6
      refine r_sipush dX8_chainCost_36 (by decide) (by decide) ?_
      exact r_iret dX8_chainCost_39 rfl ⟨_, rfl, h⟩
    · replace h := h.2 c6
      refine r_sipush dX8_chainCost_20 (by decide) (by decide) ?_
      refine r_aload_n 1 dX8_chainCost_23 rfl rfl ?_
      refine r_getI (j := 27) dX8_chainCost_24 sh_56 rfl kc_8 (by decide) lf_X8_188 ?_
      obtain ⟨b7, h⟩ := h
      refine r_iadd dX8_chainCost_27 b7 ?_
      refine r_aload_n 1 dX8_chainCost_28 rfl rfl ?_
      refine r_callV [] [vI (10000 + (s5 56 27))] dX8_chainCost_29 okX8_total ivX8_total seX8_total lm_X8_129 rfl rfl sh_56 rfl ⟨Nat.le_of_ble_eq_true rfl, Nat.le_of_ble_eq_true rfl, Nat.le_of_ble_eq_true rfl, Nat.le_of_ble_eq_true rfl⟩ h ?_
      rintro _ s9 ⟨r8, rfl, h⟩
      obtain ⟨b10, h⟩ := h
      refine r_isub dX8_chainCost_32 b10 ?_
      refine r_goto (tgt := 39) dX8_chainCost_33 (by decide) ?_
      exact r_iret dX8_chainCost_39 rfl ⟨_, rfl, h⟩
  · replace h := h.2 c3
    refine r_iload_n 0 dX8_chainCost_10 rfl rfl ?_
    exact r_iret dX8_chainCost_11 rfl ⟨_, rfl, h⟩
set_option maxRecDepth 100000 in
set_option maxHeartbeats 4000000 in
theorem clX8_chain (l : Launch) (G : GT) (σ : Sto) (Q : Int → Sto → Prop) (x1 : Int)
    (h : CLi l G mX8_openBarred [vR 56, vI x1] σ (fun r1 s2 => (0 ≤ r1 → CLi l G mX8_findChain [vR 56, vI x1] s2 (fun r4 s5 => (r4 = 0 → Q (-1005) s5) ∧ (¬ (r4 = 0) → CLv l G mX8_keep [vR 56] s5 (fun s8 => ((s8 56 26) = 99 → CLi l G mX8_isShort [vR 56, vI x1, vI (s8 56 25)] s8 (fun r10 s11 => ((¬ (r10 = 0) → (-2147483648 ≤ 100 * (s11 56 25) ∧ 100 * (s11 56 25) ≤ 2147483647) ∧ (-2147483648 ≤ (100 * (s11 56 25)) + (s11 56 26) ∧ (100 * (s11 56 25)) + (s11 56 26) ≤ 2147483647) ∧ True)) ∧ ∀ y16 : Int, y16 = (if r10 = 0 then (-1005) else ((100 * (s11 56 25)) + (s11 56 26))) → Q y16 s11)) ∧ (¬ ((s8 56 26) = 99) → CLi l G mX8_isLong [vR 56, vI x1, vI (s8 56 25), vI (s8 56 26)] s8 (fun r20 s21 => ((¬ (r20 = 0) → (-2147483648 ≤ 100 * (s21 56 25) ∧ 100 * (s21 56 25) ≤ 2147483647) ∧ (-2147483648 ≤ (100 * (s21 56 25)) + (s21 56 26) ∧ (100 * (s21 56 25)) + (s21 56 26) ≤ 2147483647) ∧ True)) ∧ ∀ y26 : Int, y26 = (if r20 = 0 then (-1005) else ((100 * (s21 56 25)) + (s21 56 26))) → Q y26 s21)))))) ∧ (¬ (0 ≤ r1) → Q r1 s2))) :
    CLi l G mX8_chain [vR 56, vI x1] σ Q := by
  show MWi l G mX8_chain 0 [(0, vR 56), (1, vI x1)] [] σ Q
  refine r_aload_n 0 dX8_chain_0 rfl rfl ?_
  refine r_iload_n 1 dX8_chain_1 rfl rfl ?_
  refine r_callV [vI x1] [] dX8_chain_2 okX8_openBarred ivX8_openBarred seX8_openBarred lm_X8_176 rfl rfl sh_56 rfl ⟨Nat.le_of_ble_eq_true rfl, Nat.le_of_ble_eq_true rfl, Nat.le_of_ble_eq_true rfl, Nat.le_of_ble_eq_true rfl⟩ h ?_
  rintro _ s2 ⟨r1, rfl, h⟩
  refine r_istore_n dX8_chain_5 rfl (by decide) rfl ?_
  refine r_iload_n 0 dX8_chain_6 rfl rfl ?_
  refine r_if_ge (tgt := 12) dX8_chain_7 (by decide) (fun (c3 : 0 ≤ r1) => ?_) (fun (c3 : ¬ (0 ≤ r1)) => ?_)
  · replace h := h.1 c3
    refine r_aload_n 1 dX8_chain_12 rfl rfl ?_
    refine r_iload_n 2 dX8_chain_13 rfl rfl ?_
    refine r_callV [vI x1] [] dX8_chain_14 okX8_findChain ivX8_findChain seX8_findChain lm_X8_203 rfl rfl sh_56 rfl ⟨Nat.le_of_ble_eq_true rfl, Nat.le_of_ble_eq_true rfl, Nat.le_of_ble_eq_true rfl, Nat.le_of_ble_eq_true rfl⟩ h ?_
    rintro _ s5 ⟨r4, rfl, h⟩
    refine r_if_ne (tgt := 24) dX8_chain_17 (by decide) (fun (c6 : r4 = 0) => ?_) (fun (c6 : ¬ (r4 = 0)) => ?_)
    · replace h := h.1 c6
      refine r_sipush dX8_chain_20 (by decide) (by decide) ?_
      exact r_iret dX8_chain_23 rfl ⟨_, rfl, h⟩
    · replace h := h.2 c6
      refine r_aload_n 1 dX8_chain_24 rfl rfl ?_
      refine r_callV [] [] dX8_chain_25 okX8_keep ivX8_keep seX8_keep lm_X8_173 rfl rfl sh_56 rfl ⟨Nat.le_of_ble_eq_true rfl, Nat.le_of_ble_eq_true rfl, Nat.le_of_ble_eq_true rfl, Nat.le_of_ble_eq_true rfl⟩ h ?_
      rintro _ s8 ⟨rfl, h⟩
      refine r_aload_n 1 dX8_chain_28 rfl rfl ?_
      refine r_getI (j := 26) dX8_chain_29 sh_56 rfl kc_8 (by decide) lf_X8_194 ?_
      refine r_bipush dX8_chain_32 (by decide) (by decide) ?_
      refine r_icmp_ne (tgt := 49) dX8_chain_34 (by decide) (fun (c9 : (s8 56 26) = 99) => ?_) (fun (c9 : ¬ ((s8 56 26) = 99)) => ?_)
      · replace h := h.1 c9
        refine r_aload_n 1 dX8_chain_37 rfl rfl ?_
        refine r_iload_n 2 dX8_chain_38 rfl rfl ?_
        refine r_aload_n 1 dX8_chain_39 rfl rfl ?_
        refine r_getI (j := 25) dX8_chain_40 sh_56 rfl kc_8 (by decide) lf_X8_191 ?_
        refine r_callV [vI x1, vI (s8 56 25)] [] dX8_chain_43 okX8_isShort ivX8_isShort seX8_isShort lm_X8_185 rfl rfl sh_56 rfl ⟨Nat.le_of_ble_eq_true rfl, Nat.le_of_ble_eq_true rfl, Nat.le_of_ble_eq_true rfl, Nat.le_of_ble_eq_true rfl⟩ h ?_
        rintro _ s11 ⟨r10, rfl, h⟩
        refine r_goto (tgt := 62) dX8_chain_46 (by decide) ?_
        refine r_istore_n dX8_chain_62 rfl (by decide) rfl ?_
        refine r_iload_n 0 dX8_chain_63 rfl rfl ?_
        obtain ⟨q15, h⟩ := h
        obtain ⟨y16, ey16⟩ : ∃ z : Int, z = (if r10 = 0 then (-1005) else ((100 * (s11 56 25)) + (s11 56 26))) := ⟨_, rfl⟩
        replace h := h y16 ey16
        have hj17 : MWi l G mX8_chain 85 [] [vI y16] s11 Q := by
          exact r_iret dX8_chain_85 rfl ⟨_, rfl, h⟩
        replace h := q15
        refine r_if_eq (tgt := 82) dX8_chain_64 (by decide) (fun (c12 : r10 = 0) => ?_) (fun (c12 : ¬ (r10 = 0)) => ?_)
        · refine r_sipush dX8_chain_82 (by decide) (by decide) ?_
          refine MWF.sub [] rfl ?_
          have q18 : y16 = (-1005) := by rw [ey16, if_pos c12]
          rw [q18] at hj17
          exact hj17
        · replace h := h c12
          refine r_bipush dX8_chain_67 (by decide) (by decide) ?_
          refine r_aload_n 2 dX8_chain_69 rfl rfl ?_
          refine r_getI (j := 25) dX8_chain_70 sh_56 rfl kc_8 (by decide) lf_X8_191 ?_
          obtain ⟨b13, h⟩ := h
          refine r_imul dX8_chain_73 b13 ?_
          refine r_aload_n 2 dX8_chain_74 rfl rfl ?_
          refine r_getI (j := 26) dX8_chain_75 sh_56 rfl kc_8 (by decide) lf_X8_194 ?_
          obtain ⟨b14, h⟩ := h
          refine r_iadd dX8_chain_78 b14 ?_
          refine r_goto (tgt := 85) dX8_chain_79 (by decide) ?_
          refine MWF.sub [] rfl ?_
          have q19 : y16 = ((100 * (s11 56 25)) + (s11 56 26)) := by rw [ey16, if_neg c12]
          rw [q19] at hj17
          exact hj17
      · replace h := h.2 c9
        refine r_aload_n 1 dX8_chain_49 rfl rfl ?_
        refine r_iload_n 2 dX8_chain_50 rfl rfl ?_
        refine r_aload_n 1 dX8_chain_51 rfl rfl ?_
        refine r_getI (j := 25) dX8_chain_52 sh_56 rfl kc_8 (by decide) lf_X8_191 ?_
        refine r_aload_n 1 dX8_chain_55 rfl rfl ?_
        refine r_getI (j := 26) dX8_chain_56 sh_56 rfl kc_8 (by decide) lf_X8_194 ?_
        refine r_callV [vI x1, vI (s8 56 25), vI (s8 56 26)] [] dX8_chain_59 okX8_isLong ivX8_isLong seX8_isLong lm_X8_200 rfl rfl sh_56 rfl ⟨Nat.le_of_ble_eq_true rfl, Nat.le_of_ble_eq_true rfl, Nat.le_of_ble_eq_true rfl, Nat.le_of_ble_eq_true rfl⟩ h ?_
        rintro _ s21 ⟨r20, rfl, h⟩
        refine r_istore_n dX8_chain_62 rfl (by decide) rfl ?_
        refine r_iload_n 0 dX8_chain_63 rfl rfl ?_
        obtain ⟨q25, h⟩ := h
        obtain ⟨y26, ey26⟩ : ∃ z : Int, z = (if r20 = 0 then (-1005) else ((100 * (s21 56 25)) + (s21 56 26))) := ⟨_, rfl⟩
        replace h := h y26 ey26
        have hj27 : MWi l G mX8_chain 85 [] [vI y26] s21 Q := by
          exact r_iret dX8_chain_85 rfl ⟨_, rfl, h⟩
        replace h := q25
        refine r_if_eq (tgt := 82) dX8_chain_64 (by decide) (fun (c22 : r20 = 0) => ?_) (fun (c22 : ¬ (r20 = 0)) => ?_)
        · refine r_sipush dX8_chain_82 (by decide) (by decide) ?_
          refine MWF.sub [] rfl ?_
          have q28 : y26 = (-1005) := by rw [ey26, if_pos c22]
          rw [q28] at hj27
          exact hj27
        · replace h := h c22
          refine r_bipush dX8_chain_67 (by decide) (by decide) ?_
          refine r_aload_n 2 dX8_chain_69 rfl rfl ?_
          refine r_getI (j := 25) dX8_chain_70 sh_56 rfl kc_8 (by decide) lf_X8_191 ?_
          obtain ⟨b23, h⟩ := h
          refine r_imul dX8_chain_73 b23 ?_
          refine r_aload_n 2 dX8_chain_74 rfl rfl ?_
          refine r_getI (j := 26) dX8_chain_75 sh_56 rfl kc_8 (by decide) lf_X8_194 ?_
          obtain ⟨b24, h⟩ := h
          refine r_iadd dX8_chain_78 b24 ?_
          refine r_goto (tgt := 85) dX8_chain_79 (by decide) ?_
          refine MWF.sub [] rfl ?_
          have q29 : y26 = ((100 * (s21 56 25)) + (s21 56 26)) := by rw [ey26, if_neg c22]
          rw [q29] at hj27
          exact hj27
  · replace h := h.2 c3
    refine r_iload_n 0 dX8_chain_10 rfl rfl ?_
    exact r_iret dX8_chain_11 rfl ⟨_, rfl, h⟩
set_option maxRecDepth 100000 in
set_option maxHeartbeats 4000000 in
theorem clX8_improve (l : Launch) (G : GT) (σ : Sto) (Q : Int → Sto → Prop) 
    (h : CLv l G mX8_putAside [vR 56] σ (fun s2 => CLi l G mX8_total [vR 56] s2 (fun r3 s4 => MWi l G mX8_improve 16 [(0, vR 56), (1, vI r3), (2, vI (-1)), (3, vI r3), (4, vI 0)] [] s4 Q))) :
    CLi l G mX8_improve [vR 56] σ Q := by
  show MWi l G mX8_improve 0 [(0, vR 56)] [] σ Q
  refine r_aload_n 0 dX8_improve_0 rfl rfl ?_
  refine r_callV [] [] dX8_improve_1 okX8_putAside ivX8_putAside seX8_putAside lm_X8_170 rfl rfl sh_56 rfl ⟨Nat.le_of_ble_eq_true rfl, Nat.le_of_ble_eq_true rfl, Nat.le_of_ble_eq_true rfl, Nat.le_of_ble_eq_true rfl⟩ h ?_
  rintro _ s2 ⟨rfl, h⟩
  refine r_aload_n 0 dX8_improve_4 rfl rfl ?_
  refine r_callV [] [] dX8_improve_5 okX8_total ivX8_total seX8_total lm_X8_129 rfl rfl sh_56 rfl ⟨Nat.le_of_ble_eq_true rfl, Nat.le_of_ble_eq_true rfl, Nat.le_of_ble_eq_true rfl, Nat.le_of_ble_eq_true rfl⟩ h ?_
  rintro _ s4 ⟨r3, rfl, h⟩
  refine r_istore_n dX8_improve_8 rfl (by decide) rfl ?_
  refine r_iconst dX8_improve_9 (by decide) ?_
  refine r_istore_n dX8_improve_10 rfl (by decide) rfl ?_
  refine r_iload_n 1 dX8_improve_11 rfl rfl ?_
  refine r_istore_n dX8_improve_12 rfl (by decide) rfl ?_
  refine r_iconst dX8_improve_13 (by decide) ?_
  refine r_istore dX8_improve_14 (by decide) rfl ?_
  refine MWF.sub [4, 3, 2, 1, 0] rfl ?_
  exact h
set_option maxRecDepth 100000 in
set_option maxHeartbeats 4000000 in
theorem vcX8_improve_16 (l : Launch) (G : GT) (σ : Sto) (Q : Int → Sto → Prop) (x1 : Int) (x2 : Int) (x3 : Int) (x4 : Int)
    (h : ((σ 56 7) ≤ x4 → (0 ≤ x2 → CLv l G mX8_keep [vR 56] σ (fun s8 => CLv l G mX8_takeOut [vR 56, vI x2] s8 (fun s10 => CLi l G mX8_putAnywhere [vR 56, vI x2, vI (-1)] s10 (fun r11 s12 => (-2147483648 ≤ x1 - x3 ∧ x1 - x3 ≤ 2147483647) ∧ Q (x1 - x3) s12)))) ∧ (¬ (0 ≤ x2) → Q (-1007) σ)) ∧ (¬ ((σ 56 7) ≤ x4) → CLi l G mX8_vehicleOf [vR 56, vI x4] σ (fun r14 s15 => (r14 < 0 → (-2147483648 ≤ x4 + 1 ∧ x4 + 1 ≤ 2147483647) ∧ MWi l G mX8_improve 16 [(0, vR 56), (1, vI x1), (2, vI x2), (3, vI x3), (4, vI (x4 + 1))] [] s15 Q) ∧ (¬ (r14 < 0) → CLv l G mX8_takeOut [vR 56, vI x4] s15 (fun s19 => CLi l G mX8_putAnywhere [vR 56, vI x4, vI (-1)] s19 (fun r20 s21 => CLi l G mX8_total [vR 56] s21 (fun r22 s23 => ∀ y25 : Int, y25 = (if x3 ≤ r22 then x2 else x4) → ∀ y26 : Int, y26 = (if x3 ≤ r22 then x3 else r22) → CLv l G mX8_takeBack [vR 56] s23 (fun s33 => (-2147483648 ≤ x4 + 1 ∧ x4 + 1 ≤ 2147483647) ∧ MWi l G mX8_improve 16 [(0, vR 56), (1, vI x1), (2, vI y25), (3, vI y26), (4, vI (x4 + 1))] [] s33 Q)))))))) :
    MWi l G mX8_improve 16 [(0, vR 56), (1, vI x1), (2, vI x2), (3, vI x3), (4, vI x4)] [] σ Q := by
  refine r_iload 4 dX8_improve_16 rfl ?_
  refine r_aload_n 0 dX8_improve_18 rfl rfl ?_
  refine r_getI (j := 7) dX8_improve_19 sh_56 rfl kc_8 (by decide) lf_X8_72 ?_
  refine r_icmp_ge (tgt := 76) dX8_improve_22 (by decide) (fun (c5 : (σ 56 7) ≤ x4) => ?_) (fun (c5 : ¬ ((σ 56 7) ≤ x4)) => ?_)
  · replace h := h.1 c5
    refine r_iload_n 2 dX8_improve_76 rfl rfl ?_
    refine r_if_ge (tgt := 84) dX8_improve_77 (by decide) (fun (c6 : 0 ≤ x2) => ?_) (fun (c6 : ¬ (0 ≤ x2)) => ?_)
    · replace h := h.1 c6
      refine r_aload_n 0 dX8_improve_84 rfl rfl ?_
      refine r_callV [] [] dX8_improve_85 okX8_keep ivX8_keep seX8_keep lm_X8_173 rfl rfl sh_56 rfl ⟨Nat.le_of_ble_eq_true rfl, Nat.le_of_ble_eq_true rfl, Nat.le_of_ble_eq_true rfl, Nat.le_of_ble_eq_true rfl⟩ h ?_
      rintro _ s8 ⟨rfl, h⟩
      refine r_aload_n 0 dX8_improve_88 rfl rfl ?_
      refine r_iload_n 2 dX8_improve_89 rfl rfl ?_
      refine r_callV [vI x2] [] dX8_improve_90 okX8_takeOut ivX8_takeOut seX8_takeOut lm_X8_182 rfl rfl sh_56 rfl ⟨Nat.le_of_ble_eq_true rfl, Nat.le_of_ble_eq_true rfl, Nat.le_of_ble_eq_true rfl, Nat.le_of_ble_eq_true rfl⟩ h ?_
      rintro _ s10 ⟨rfl, h⟩
      refine r_aload_n 0 dX8_improve_93 rfl rfl ?_
      refine r_iload_n 2 dX8_improve_94 rfl rfl ?_
      refine r_iconst dX8_improve_95 (by decide) ?_
      refine r_callV [vI x2, vI (-1)] [] dX8_improve_96 okX8_putAnywhere ivX8_putAnywhere seX8_putAnywhere lm_X8_179 rfl rfl sh_56 rfl ⟨Nat.le_of_ble_eq_true rfl, Nat.le_of_ble_eq_true rfl, Nat.le_of_ble_eq_true rfl, Nat.le_of_ble_eq_true rfl⟩ h ?_
      rintro _ s12 ⟨r11, rfl, h⟩
      refine r_pop dX8_improve_99 ?_
      refine r_iload_n 1 dX8_improve_100 rfl rfl ?_
      refine r_iload_n 3 dX8_improve_101 rfl rfl ?_
      obtain ⟨b13, h⟩ := h
      refine r_isub dX8_improve_102 b13 ?_
      exact r_iret dX8_improve_103 rfl ⟨_, rfl, h⟩
    · replace h := h.2 c6
      refine r_sipush dX8_improve_80 (by decide) (by decide) ?_
      exact r_iret dX8_improve_83 rfl ⟨_, rfl, h⟩
  · replace h := h.2 c5
    refine r_aload_n 0 dX8_improve_25 rfl rfl ?_
    refine r_iload 4 dX8_improve_26 rfl ?_
    refine r_callV [vI x4] [] dX8_improve_28 okX8_vehicleOf ivX8_vehicleOf seX8_vehicleOf lm_X8_114 rfl rfl sh_56 rfl ⟨Nat.le_of_ble_eq_true rfl, Nat.le_of_ble_eq_true rfl, Nat.le_of_ble_eq_true rfl, Nat.le_of_ble_eq_true rfl⟩ h ?_
    rintro _ s15 ⟨r14, rfl, h⟩
    refine r_if_lt (tgt := 70) dX8_improve_31 (by decide) (fun (c16 : r14 < 0) => ?_) (fun (c16 : ¬ (r14 < 0)) => ?_)
    · replace h := h.1 c16
      obtain ⟨b17, h⟩ := h
      refine r_iinc 4 dX8_improve_70 rfl (by decide) b17 rfl ?_
      refine r_goto (tgt := 16) dX8_improve_73 (by decide) ?_
      refine MWF.sub [1, 2, 3, 4, 0] rfl ?_
      exact h
    · replace h := h.2 c16
      refine r_aload_n 0 dX8_improve_34 rfl rfl ?_
      refine r_iload 4 dX8_improve_35 rfl ?_
      refine r_callV [vI x4] [] dX8_improve_37 okX8_takeOut ivX8_takeOut seX8_takeOut lm_X8_182 rfl rfl sh_56 rfl ⟨Nat.le_of_ble_eq_true rfl, Nat.le_of_ble_eq_true rfl, Nat.le_of_ble_eq_true rfl, Nat.le_of_ble_eq_true rfl⟩ h ?_
      rintro _ s19 ⟨rfl, h⟩
      refine r_aload_n 0 dX8_improve_40 rfl rfl ?_
      refine r_iload 4 dX8_improve_41 rfl ?_
      refine r_iconst dX8_improve_43 (by decide) ?_
      refine r_callV [vI x4, vI (-1)] [] dX8_improve_44 okX8_putAnywhere ivX8_putAnywhere seX8_putAnywhere lm_X8_179 rfl rfl sh_56 rfl ⟨Nat.le_of_ble_eq_true rfl, Nat.le_of_ble_eq_true rfl, Nat.le_of_ble_eq_true rfl, Nat.le_of_ble_eq_true rfl⟩ h ?_
      rintro _ s21 ⟨r20, rfl, h⟩
      refine r_pop dX8_improve_47 ?_
      refine r_aload_n 0 dX8_improve_48 rfl rfl ?_
      refine r_callV [] [] dX8_improve_49 okX8_total ivX8_total seX8_total lm_X8_129 rfl rfl sh_56 rfl ⟨Nat.le_of_ble_eq_true rfl, Nat.le_of_ble_eq_true rfl, Nat.le_of_ble_eq_true rfl, Nat.le_of_ble_eq_true rfl⟩ h ?_
      rintro _ s23 ⟨r22, rfl, h⟩
      refine r_istore dX8_improve_52 (by decide) rfl ?_
      refine r_iload 0 dX8_improve_54 rfl ?_
      refine r_iload_n 4 dX8_improve_56 rfl rfl ?_
      obtain ⟨y25, ey25⟩ : ∃ z : Int, z = (if x3 ≤ r22 then x2 else x4) := ⟨_, rfl⟩
      replace h := h y25 ey25
      obtain ⟨y26, ey26⟩ : ∃ z : Int, z = (if x3 ≤ r22 then x3 else r22) := ⟨_, rfl⟩
      replace h := h y26 ey26
      have hj27 : MWi l G mX8_improve 66 [(0, vR 56), (1, vI x1), (2, vI y25), (3, vI y26), (4, vI x4)] [] s23 Q := by
        refine r_aload_n 0 dX8_improve_66 rfl rfl ?_
        refine r_callV [] [] dX8_improve_67 okX8_takeBack ivX8_takeBack seX8_takeBack lm_X8_197 rfl rfl sh_56 rfl ⟨Nat.le_of_ble_eq_true rfl, Nat.le_of_ble_eq_true rfl, Nat.le_of_ble_eq_true rfl, Nat.le_of_ble_eq_true rfl⟩ h ?_
        rintro _ s33 ⟨rfl, h⟩
        obtain ⟨b34, h⟩ := h
        refine r_iinc 4 dX8_improve_70 rfl (by decide) b34 rfl ?_
        refine r_goto (tgt := 16) dX8_improve_73 (by decide) ?_
        refine MWF.sub [1, 2, 3, 4, 0] rfl ?_
        exact h
      refine r_icmp_ge (tgt := 66) dX8_improve_57 (by decide) (fun (c24 : x3 ≤ r22) => ?_) (fun (c24 : ¬ (x3 ≤ r22)) => ?_)
      · refine MWF.sub [1, 2, 3, 4, 5] rfl ?_
        have q28 : y25 = x2 := by rw [ey25, if_pos c24]
        rw [q28] at hj27
        have q29 : y26 = x3 := by rw [ey26, if_pos c24]
        rw [q29] at hj27
        exact hj27
      · refine r_iload 5 dX8_improve_60 rfl ?_
        refine r_istore_n dX8_improve_62 rfl (by decide) rfl ?_
        refine r_iload 1 dX8_improve_63 rfl ?_
        refine r_istore_n dX8_improve_65 rfl (by decide) rfl ?_
        refine MWF.sub [3, 4, 1, 0, 5] rfl ?_
        have q30 : y25 = x4 := by rw [ey25, if_neg c24]
        rw [q30] at hj27
        have q31 : y26 = r22 := by rw [ey26, if_neg c24]
        rw [q31] at hj27
        exact hj27
set_option maxRecDepth 100000 in
set_option maxHeartbeats 4000000 in
theorem clX8_undo (l : Launch) (G : GT) (σ : Sto) (Q : Int → Sto → Prop) 
    (h : ((σ 56 22) = 0 → Q (-1007) σ) ∧ (¬ ((σ 56 22) = 0) → (-2147483648 ≤ (σ 56 22) - 1 ∧ (σ 56 22) - 1 ≤ 2147483647) ∧ MWi l G mX8_undo 23 [(0, vR 56), (1, vI 0)] [] (stS σ 56 22 ((σ 56 22) - 1)) Q)) :
    CLi l G mX8_undo [vR 56] σ Q := by
  show MWi l G mX8_undo 0 [(0, vR 56)] [] σ Q
  refine r_aload_n 0 dX8_undo_0 rfl rfl ?_
  refine r_getI (j := 22) dX8_undo_1 sh_56 rfl kc_8 (by decide) lf_X8_79 ?_
  refine r_if_ne (tgt := 11) dX8_undo_4 (by decide) (fun (c1 : (σ 56 22) = 0) => ?_) (fun (c1 : ¬ ((σ 56 22) = 0)) => ?_)
  · replace h := h.1 c1
    refine r_sipush dX8_undo_7 (by decide) (by decide) ?_
    exact r_iret dX8_undo_10 rfl ⟨_, rfl, h⟩
  · replace h := h.2 c1
    refine r_aload_n 0 dX8_undo_11 rfl rfl ?_
    refine r_dup dX8_undo_12 ?_
    refine r_getI (j := 22) dX8_undo_13 sh_56 rfl kc_8 (by decide) lf_X8_79 ?_
    refine r_iconst dX8_undo_16 (by decide) ?_
    obtain ⟨b2, h⟩ := h
    refine r_isub dX8_undo_17 b2 ?_
    refine r_putI (j := 22) dX8_undo_18 sh_56 rfl kc_8 (by decide) lf_X8_79 rfl (by decide) ?_
    refine r_iconst dX8_undo_21 (by decide) ?_
    refine r_istore_n dX8_undo_22 rfl (by decide) rfl ?_
    refine MWF.sub [1, 0] rfl ?_
    exact h
set_option maxRecDepth 100000 in
set_option maxHeartbeats 4000000 in
theorem vcX8_undo_23 (l : Launch) (G : GT) (σ : Sto) (Q : Int → Sto → Prop) (x1 : Int)
    (h : (100 ≤ x1 → Q (σ 56 22) σ) ∧ (¬ (100 ≤ x1) → (-2147483648 ≤ 100 * (σ 56 22) ∧ 100 * (σ 56 22) ≤ 2147483647) ∧ (-2147483648 ≤ (100 * (σ 56 22)) + x1 ∧ (100 * (σ 56 22)) + x1 ≤ 2147483647) ∧ (0 ≤ ((100 * (σ 56 22)) + x1) ∧ ((100 * (σ 56 22)) + x1) < 1000) ∧ (0 ≤ x1 ∧ x1 < 100) ∧ (-2147483648 ≤ x1 + 1 ∧ x1 + 1 ≤ 2147483647) ∧ MWi l G mX8_undo 23 [(0, vR 56), (1, vI (x1 + 1))] [] (stS σ 68 x1.toNat (σ 72 ((100 * (σ 56 22)) + x1).toNat)) Q)) :
    MWi l G mX8_undo 23 [(0, vR 56), (1, vI x1)] [] σ Q := by
  refine r_iload_n 1 dX8_undo_23 rfl rfl ?_
  refine r_bipush dX8_undo_24 (by decide) (by decide) ?_
  refine r_icmp_ge (tgt := 55) dX8_undo_26 (by decide) (fun (c3 : 100 ≤ x1) => ?_) (fun (c3 : ¬ (100 ≤ x1)) => ?_)
  · replace h := h.1 c3
    refine r_aload_n 0 dX8_undo_55 rfl rfl ?_
    refine r_getI (j := 22) dX8_undo_56 sh_56 rfl kc_8 (by decide) lf_X8_79 ?_
    exact r_iret dX8_undo_59 rfl ⟨_, rfl, h⟩
  · replace h := h.2 c3
    refine r_aload_n 0 dX8_undo_29 rfl rfl ?_
    refine r_getR (j := 14) dX8_undo_30 sh_56 rfl kc_8 (by decide) lf_X8_43 ?_
    refine r_iload_n 1 dX8_undo_33 rfl rfl ?_
    refine r_aload_n 0 dX8_undo_34 rfl rfl ?_
    refine r_getR (j := 23) dX8_undo_35 sh_56 rfl kc_8 (by decide) lf_X8_55 ?_
    refine r_bipush dX8_undo_38 (by decide) (by decide) ?_
    refine r_aload_n 0 dX8_undo_40 rfl rfl ?_
    refine r_getI (j := 22) dX8_undo_41 sh_56 rfl kc_8 (by decide) lf_X8_79 ?_
    obtain ⟨b4, h⟩ := h
    refine r_imul dX8_undo_44 b4 ?_
    refine r_iload_n 1 dX8_undo_45 rfl rfl ?_
    obtain ⟨b5, h⟩ := h
    refine r_iadd dX8_undo_46 b5 ?_
    obtain ⟨b6, h⟩ := h
    refine r_iald dX8_undo_47 sh_72 b6.1 b6.2 ?_
    obtain ⟨b7, h⟩ := h
    refine r_iast dX8_undo_48 sh_68 b7.1 b7.2 ?_
    obtain ⟨b8, h⟩ := h
    refine r_iinc 1 dX8_undo_49 rfl (by decide) b8 rfl ?_
    refine r_goto (tgt := 23) dX8_undo_52 (by decide) ?_
    refine MWF.sub [1, 0] rfl ?_
    exact h

