set_option maxRecDepth 100000 in
set_option maxHeartbeats 4000000 in
theorem clX7_addVehicle (l : Launch) (G : GT) (σ : Sto) (Q : Int → Sto → Prop) (x1 : Int) (x2 : Int) (x3 : Int) (x4 : Int) (x5 : Int)
    (h : CLi l G mX7_isPlace [vI x1, vI x2] σ (fun r1 s2 => (r1 = 0 → Q (-1002) s2) ∧ (¬ (r1 = 0) → CLi l G mX7_isLoad [vI x3] s2 (fun r4 s5 => (r4 = 0 → Q (-1002) s5) ∧ (¬ (r4 = 0) → CLi l G mX7_isWindow [vI x4, vI x5] s5 (fun r7 s8 => (r7 = 0 → Q (-1002) s8) ∧ (¬ (r7 = 0) → ((s8 1 0) < 4 → (0 ≤ (s8 1 0) ∧ (s8 1 0) < 4) ∧ (-2147483648 ≤ 24 + (s8 1 0) ∧ 24 + (s8 1 0) ≤ 2147483647) ∧ CLv l G mX4_keepPlace [vR 1, vI (24 + (s8 1 0)), vI x1, vI x2] (stS (stS (stS s8 2 (s8 1 0).toNat x3) 3 (s8 1 0).toNat x4) 4 (s8 1 0).toNat x5) (fun s14 => (-2147483648 ≤ (s8 1 0) + 1 ∧ (s8 1 0) + 1 ≤ 2147483647) ∧ CLv l G mX0_forget [vR 53] (stS s14 1 0 ((s8 1 0) + 1)) (fun s17 => Q (s8 1 0) s17))) ∧ (¬ ((s8 1 0) < 4) → Q (-1006) s8)))))))) :
    CLi l G mX7_addVehicle [vR 0, vI x1, vI x2, vI x3, vI x4, vI x5] σ Q := by
  show MWi l G mX7_addVehicle 0 [(0, vR 0), (1, vI x1), (2, vI x2), (3, vI x3), (4, vI x4), (5, vI x5)] [] σ Q
  refine r_iload_n 1 dX7_addVehicle_0 rfl rfl ?_
  refine r_iload_n 2 dX7_addVehicle_1 rfl rfl ?_
  refine r_callS [vI x1, vI x2] [] dX7_addVehicle_2 okX7_isPlace ssX7_isPlace lm_X7_57 rfl rfl ⟨Nat.le_of_ble_eq_true rfl, Nat.le_of_ble_eq_true rfl, Nat.le_of_ble_eq_true rfl, Nat.le_of_ble_eq_true rfl⟩ h ?_
  rintro _ s2 ⟨r1, rfl, h⟩
  refine r_if_eq (tgt := 25) dX7_addVehicle_5 (by decide) (fun (c3 : r1 = 0) => ?_) (fun (c3 : ¬ (r1 = 0)) => ?_)
  · replace h := h.1 c3
    refine r_sipush dX7_addVehicle_25 (by decide) (by decide) ?_
    exact r_iret dX7_addVehicle_28 rfl ⟨_, rfl, h⟩
  · replace h := h.2 c3
    refine r_iload_n 3 dX7_addVehicle_8 rfl rfl ?_
    refine r_callS [vI x3] [] dX7_addVehicle_9 okX7_isLoad ssX7_isLoad lm_X7_61 rfl rfl ⟨Nat.le_of_ble_eq_true rfl, Nat.le_of_ble_eq_true rfl, Nat.le_of_ble_eq_true rfl, Nat.le_of_ble_eq_true rfl⟩ h ?_
    rintro _ s5 ⟨r4, rfl, h⟩
    refine r_if_eq (tgt := 25) dX7_addVehicle_12 (by decide) (fun (c6 : r4 = 0) => ?_) (fun (c6 : ¬ (r4 = 0)) => ?_)
    · replace h := h.1 c6
      refine r_sipush dX7_addVehicle_25 (by decide) (by decide) ?_
      exact r_iret dX7_addVehicle_28 rfl ⟨_, rfl, h⟩
    · replace h := h.2 c6
      refine r_iload 4 dX7_addVehicle_15 rfl ?_
      refine r_iload 5 dX7_addVehicle_17 rfl ?_
      refine r_callS [vI x4, vI x5] [] dX7_addVehicle_19 okX7_isWindow ssX7_isWindow lm_X7_65 rfl rfl ⟨Nat.le_of_ble_eq_true rfl, Nat.le_of_ble_eq_true rfl, Nat.le_of_ble_eq_true rfl, Nat.le_of_ble_eq_true rfl⟩ h ?_
      rintro _ s8 ⟨r7, rfl, h⟩
      refine r_if_ne (tgt := 29) dX7_addVehicle_22 (by decide) (fun (c9 : r7 = 0) => ?_) (fun (c9 : ¬ (r7 = 0)) => ?_)
      · replace h := h.1 c9
        refine r_sipush dX7_addVehicle_25 (by decide) (by decide) ?_
        exact r_iret dX7_addVehicle_28 rfl ⟨_, rfl, h⟩
      · replace h := h.2 c9
        refine r_aload_n 0 dX7_addVehicle_29 rfl rfl ?_
        refine r_getR (j := 0) dX7_addVehicle_30 sh_0 rfl kc_7 (by decide) lf_X7_22 ?_
        refine r_getI (j := 0) dX7_addVehicle_33 sh_1 rfl kc_4 (by decide) lf_X7_68 ?_
        refine r_iconst dX7_addVehicle_36 (by decide) ?_
        refine r_icmp_lt (tgt := 44) dX7_addVehicle_37 (by decide) (fun (c10 : (s8 1 0) < 4) => ?_) (fun (c10 : ¬ ((s8 1 0) < 4)) => ?_)
        · replace h := h.1 c10
          refine r_aload_n 0 dX7_addVehicle_44 rfl rfl ?_
          refine r_getR (j := 0) dX7_addVehicle_45 sh_0 rfl kc_7 (by decide) lf_X7_22 ?_
          refine r_getI (j := 0) dX7_addVehicle_48 sh_1 rfl kc_4 (by decide) lf_X7_68 ?_
          refine r_istore dX7_addVehicle_51 (by decide) rfl ?_
          refine r_aload_n 1 dX7_addVehicle_53 rfl rfl ?_
          refine r_getR (j := 0) dX7_addVehicle_54 sh_0 rfl kc_7 (by decide) lf_X7_22 ?_
          refine r_getR (j := 3) dX7_addVehicle_57 sh_1 rfl kc_4 (by decide) lf_X7_72 ?_
          refine r_iload 0 dX7_addVehicle_60 rfl ?_
          refine r_iload_n 4 dX7_addVehicle_62 rfl rfl ?_
          obtain ⟨b11, h⟩ := h
          refine r_iast dX7_addVehicle_63 sh_2 b11.1 b11.2 ?_
          refine r_aload_n 1 dX7_addVehicle_64 rfl rfl ?_
          refine r_getR (j := 0) dX7_addVehicle_65 sh_0 rfl kc_7 (by decide) lf_X7_22 ?_
          refine r_getR (j := 4) dX7_addVehicle_68 sh_1 rfl kc_4 (by decide) lf_X7_76 ?_
          refine r_iload 0 dX7_addVehicle_71 rfl ?_
          refine r_iload 5 dX7_addVehicle_73 rfl ?_
          refine r_iast dX7_addVehicle_75 sh_3 b11.1 b11.2 ?_
          refine r_aload_n 1 dX7_addVehicle_76 rfl rfl ?_
          refine r_getR (j := 0) dX7_addVehicle_77 sh_0 rfl kc_7 (by decide) lf_X7_22 ?_
          refine r_getR (j := 5) dX7_addVehicle_80 sh_1 rfl kc_4 (by decide) lf_X7_79 ?_
          refine r_iload 0 dX7_addVehicle_83 rfl ?_
          refine r_iload 6 dX7_addVehicle_85 rfl ?_
          refine r_iast dX7_addVehicle_87 sh_4 b11.1 b11.2 ?_
          refine r_aload_n 1 dX7_addVehicle_88 rfl rfl ?_
          refine r_getR (j := 0) dX7_addVehicle_89 sh_0 rfl kc_7 (by decide) lf_X7_22 ?_
          refine r_bipush dX7_addVehicle_92 (by decide) (by decide) ?_
          refine r_iload 0 dX7_addVehicle_94 rfl ?_
          obtain ⟨b12, h⟩ := h
          refine r_iadd dX7_addVehicle_96 b12 ?_
          refine r_iload_n 2 dX7_addVehicle_97 rfl rfl ?_
          refine r_iload_n 3 dX7_addVehicle_98 rfl rfl ?_
          refine r_callV [vI (24 + (s8 1 0)), vI x1, vI x2] [] dX7_addVehicle_99 okX4_keepPlace ivX4_keepPlace seX4_keepPlace lm_X7_82 rfl rfl sh_1 rfl ⟨Nat.le_of_ble_eq_true rfl, Nat.le_of_ble_eq_true rfl, Nat.le_of_ble_eq_true rfl, Nat.le_of_ble_eq_true rfl⟩ h ?_
          rintro _ s14 ⟨rfl, h⟩
          refine r_aload_n 1 dX7_addVehicle_102 rfl rfl ?_
          refine r_getR (j := 0) dX7_addVehicle_103 sh_0 rfl kc_7 (by decide) lf_X7_22 ?_
          refine r_iload 0 dX7_addVehicle_106 rfl ?_
          refine r_iconst dX7_addVehicle_108 (by decide) ?_
          obtain ⟨b15, h⟩ := h
          refine r_iadd dX7_addVehicle_109 b15 ?_
          refine r_putI (j := 0) dX7_addVehicle_110 sh_1 rfl kc_4 (by decide) lf_X7_68 rfl (by decide) ?_
          refine r_aload_n 1 dX7_addVehicle_113 rfl rfl ?_
          refine r_getR (j := 2) dX7_addVehicle_114 sh_0 rfl kc_7 (by decide) lf_X7_53 ?_
          refine r_callV [] [] dX7_addVehicle_117 okX0_forget ivX0_forget seX0_forget lm_X7_86 rfl rfl sh_53 rfl ⟨Nat.le_of_ble_eq_true rfl, Nat.le_of_ble_eq_true rfl, Nat.le_of_ble_eq_true rfl, Nat.le_of_ble_eq_true rfl⟩ h ?_
          rintro _ s17 ⟨rfl, h⟩
          refine r_iload 0 dX7_addVehicle_120 rfl ?_
          exact r_iret dX7_addVehicle_122 rfl ⟨_, rfl, h⟩
        · replace h := h.2 c10
          refine r_sipush dX7_addVehicle_40 (by decide) (by decide) ?_
          exact r_iret dX7_addVehicle_43 rfl ⟨_, rfl, h⟩
set_option maxRecDepth 100000 in
set_option maxHeartbeats 4000000 in
theorem clX7_addRequest (l : Launch) (G : GT) (σ : Sto) (Q : Int → Sto → Prop) (x1 : Int) (x2 : Int) (x3 : Int) (x4 : Int) (x5 : Int) (x6 : Int)
    (h : CLi l G mX7_isPlace [vI x1, vI x2] σ (fun r1 s2 => (r1 = 0 → Q (-1002) s2) ∧ (¬ (r1 = 0) → CLi l G mX7_isPlace [vI x3, vI x4] s2 (fun r4 s5 => (r4 = 0 → Q (-1002) s5) ∧ (¬ (r4 = 0) → CLi l G mX7_isLoad [vI x5] s5 (fun r7 s8 => (r7 = 0 → Q (-1002) s8) ∧ (¬ (r7 = 0) → CLi l G mX7_isLimit [vI x6] s8 (fun r10 s11 => (r10 = 0 → Q (-1002) s11) ∧ (¬ (r10 = 0) → ((s11 1 1) < 12 → CLv l G mX4_keepLoad [vR 1, vI (s11 1 1), vI x5] s11 (fun s15 => (0 ≤ (s11 1 1) ∧ (s11 1 1) < 12) ∧ (-2147483648 ≤ 2 * (s11 1 1) ∧ 2 * (s11 1 1) ≤ 2147483647) ∧ CLv l G mX4_keepPlace [vR 1, vI (2 * (s11 1 1)), vI x1, vI x2] (stS s15 5 (s11 1 1).toNat x6) (fun s19 => (-2147483648 ≤ (2 * (s11 1 1)) + 1 ∧ (2 * (s11 1 1)) + 1 ≤ 2147483647) ∧ CLv l G mX4_keepPlace [vR 1, vI ((2 * (s11 1 1)) + 1), vI x3, vI x4] s19 (fun s22 => CLv l G mX4_keepWindow [vR 1, vI (2 * (s11 1 1)), vI 0, vI 5000] s22 (fun s24 => CLv l G mX4_keepWindow [vR 1, vI ((2 * (s11 1 1)) + 1), vI 0, vI 5000] s24 (fun s26 => (-2147483648 ≤ (s11 1 1) + 1 ∧ (s11 1 1) + 1 ≤ 2147483647) ∧ CLv l G mX0_forget [vR 53] (stS s26 1 1 ((s11 1 1) + 1)) (fun s29 => Q (s11 1 1) s29))))))) ∧ (¬ ((s11 1 1) < 12) → Q (-1006) s11)))))))))) :
    CLi l G mX7_addRequest [vR 0, vI x1, vI x2, vI x3, vI x4, vI x5, vI x6] σ Q := by
  show MWi l G mX7_addRequest 0 [(0, vR 0), (1, vI x1), (2, vI x2), (3, vI x3), (4, vI x4), (5, vI x5), (6, vI x6)] [] σ Q
  refine r_iload_n 1 dX7_addRequest_0 rfl rfl ?_
  refine r_iload_n 2 dX7_addRequest_1 rfl rfl ?_
  refine r_callS [vI x1, vI x2] [] dX7_addRequest_2 okX7_isPlace ssX7_isPlace lm_X7_57 rfl rfl ⟨Nat.le_of_ble_eq_true rfl, Nat.le_of_ble_eq_true rfl, Nat.le_of_ble_eq_true rfl, Nat.le_of_ble_eq_true rfl⟩ h ?_
  rintro _ s2 ⟨r1, rfl, h⟩
  refine r_if_eq (tgt := 33) dX7_addRequest_5 (by decide) (fun (c3 : r1 = 0) => ?_) (fun (c3 : ¬ (r1 = 0)) => ?_)
  · replace h := h.1 c3
    refine r_sipush dX7_addRequest_33 (by decide) (by decide) ?_
    exact r_iret dX7_addRequest_36 rfl ⟨_, rfl, h⟩
  · replace h := h.2 c3
    refine r_iload_n 3 dX7_addRequest_8 rfl rfl ?_
    refine r_iload 4 dX7_addRequest_9 rfl ?_
    refine r_callS [vI x3, vI x4] [] dX7_addRequest_11 okX7_isPlace ssX7_isPlace lm_X7_57 rfl rfl ⟨Nat.le_of_ble_eq_true rfl, Nat.le_of_ble_eq_true rfl, Nat.le_of_ble_eq_true rfl, Nat.le_of_ble_eq_true rfl⟩ h ?_
    rintro _ s5 ⟨r4, rfl, h⟩
    refine r_if_eq (tgt := 33) dX7_addRequest_14 (by decide) (fun (c6 : r4 = 0) => ?_) (fun (c6 : ¬ (r4 = 0)) => ?_)
    · replace h := h.1 c6
      refine r_sipush dX7_addRequest_33 (by decide) (by decide) ?_
      exact r_iret dX7_addRequest_36 rfl ⟨_, rfl, h⟩
    · replace h := h.2 c6
      refine r_iload 5 dX7_addRequest_17 rfl ?_
      refine r_callS [vI x5] [] dX7_addRequest_19 okX7_isLoad ssX7_isLoad lm_X7_61 rfl rfl ⟨Nat.le_of_ble_eq_true rfl, Nat.le_of_ble_eq_true rfl, Nat.le_of_ble_eq_true rfl, Nat.le_of_ble_eq_true rfl⟩ h ?_
      rintro _ s8 ⟨r7, rfl, h⟩
      refine r_if_eq (tgt := 33) dX7_addRequest_22 (by decide) (fun (c9 : r7 = 0) => ?_) (fun (c9 : ¬ (r7 = 0)) => ?_)
      · replace h := h.1 c9
        refine r_sipush dX7_addRequest_33 (by decide) (by decide) ?_
        exact r_iret dX7_addRequest_36 rfl ⟨_, rfl, h⟩
      · replace h := h.2 c9
        refine r_iload 6 dX7_addRequest_25 rfl ?_
        refine r_callS [vI x6] [] dX7_addRequest_27 okX7_isLimit ssX7_isLimit lm_X7_89 rfl rfl ⟨Nat.le_of_ble_eq_true rfl, Nat.le_of_ble_eq_true rfl, Nat.le_of_ble_eq_true rfl, Nat.le_of_ble_eq_true rfl⟩ h ?_
        rintro _ s11 ⟨r10, rfl, h⟩
        refine r_if_ne (tgt := 37) dX7_addRequest_30 (by decide) (fun (c12 : r10 = 0) => ?_) (fun (c12 : ¬ (r10 = 0)) => ?_)
        · replace h := h.1 c12
          refine r_sipush dX7_addRequest_33 (by decide) (by decide) ?_
          exact r_iret dX7_addRequest_36 rfl ⟨_, rfl, h⟩
        · replace h := h.2 c12
          refine r_aload_n 0 dX7_addRequest_37 rfl rfl ?_
          refine r_getR (j := 0) dX7_addRequest_38 sh_0 rfl kc_7 (by decide) lf_X7_22 ?_
          refine r_getI (j := 1) dX7_addRequest_41 sh_1 rfl kc_4 (by decide) lf_X7_92 ?_
          refine r_bipush dX7_addRequest_44 (by decide) (by decide) ?_
          refine r_icmp_lt (tgt := 53) dX7_addRequest_46 (by decide) (fun (c13 : (s11 1 1) < 12) => ?_) (fun (c13 : ¬ ((s11 1 1) < 12)) => ?_)
          · replace h := h.1 c13
            refine r_aload_n 0 dX7_addRequest_53 rfl rfl ?_
            refine r_getR (j := 0) dX7_addRequest_54 sh_0 rfl kc_7 (by decide) lf_X7_22 ?_
            refine r_getI (j := 1) dX7_addRequest_57 sh_1 rfl kc_4 (by decide) lf_X7_92 ?_
            refine r_istore dX7_addRequest_60 (by decide) rfl ?_
            refine r_aload_n 1 dX7_addRequest_62 rfl rfl ?_
            refine r_getR (j := 0) dX7_addRequest_63 sh_0 rfl kc_7 (by decide) lf_X7_22 ?_
            refine r_iload 0 dX7_addRequest_66 rfl ?_
            refine r_iload 6 dX7_addRequest_68 rfl ?_
            refine r_callV [vI (s11 1 1), vI x5] [] dX7_addRequest_70 okX4_keepLoad ivX4_keepLoad seX4_keepLoad lm_X7_95 rfl rfl sh_1 rfl ⟨Nat.le_of_ble_eq_true rfl, Nat.le_of_ble_eq_true rfl, Nat.le_of_ble_eq_true rfl, Nat.le_of_ble_eq_true rfl⟩ h ?_
            rintro _ s15 ⟨rfl, h⟩
            refine r_aload_n 1 dX7_addRequest_73 rfl rfl ?_
            refine r_getR (j := 0) dX7_addRequest_74 sh_0 rfl kc_7 (by decide) lf_X7_22 ?_
            refine r_getR (j := 6) dX7_addRequest_77 sh_1 rfl kc_4 (by decide) lf_X7_99 ?_
            refine r_iload 0 dX7_addRequest_80 rfl ?_
            refine r_iload 7 dX7_addRequest_82 rfl ?_
            obtain ⟨b16, h⟩ := h
            refine r_iast dX7_addRequest_84 sh_5 b16.1 b16.2 ?_
            refine r_aload_n 1 dX7_addRequest_85 rfl rfl ?_
            refine r_getR (j := 0) dX7_addRequest_86 sh_0 rfl kc_7 (by decide) lf_X7_22 ?_
            refine r_iconst dX7_addRequest_89 (by decide) ?_
            refine r_iload 0 dX7_addRequest_90 rfl ?_
            obtain ⟨b17, h⟩ := h
            refine r_imul dX7_addRequest_92 b17 ?_
            refine r_iload_n 2 dX7_addRequest_93 rfl rfl ?_
            refine r_iload_n 3 dX7_addRequest_94 rfl rfl ?_
            refine r_callV [vI (2 * (s11 1 1)), vI x1, vI x2] [] dX7_addRequest_95 okX4_keepPlace ivX4_keepPlace seX4_keepPlace lm_X7_82 rfl rfl sh_1 rfl ⟨Nat.le_of_ble_eq_true rfl, Nat.le_of_ble_eq_true rfl, Nat.le_of_ble_eq_true rfl, Nat.le_of_ble_eq_true rfl⟩ h ?_
            rintro _ s19 ⟨rfl, h⟩
            refine r_aload_n 1 dX7_addRequest_98 rfl rfl ?_
            refine r_getR (j := 0) dX7_addRequest_99 sh_0 rfl kc_7 (by decide) lf_X7_22 ?_
            refine r_iconst dX7_addRequest_102 (by decide) ?_
            refine r_iload 0 dX7_addRequest_103 rfl ?_
            refine r_imul dX7_addRequest_105 b17 ?_
            refine r_iconst dX7_addRequest_106 (by decide) ?_
            obtain ⟨b20, h⟩ := h
            refine r_iadd dX7_addRequest_107 b20 ?_
            refine r_iload_n 4 dX7_addRequest_108 rfl rfl ?_
            refine r_iload 5 dX7_addRequest_109 rfl ?_
            refine r_callV [vI ((2 * (s11 1 1)) + 1), vI x3, vI x4] [] dX7_addRequest_111 okX4_keepPlace ivX4_keepPlace seX4_keepPlace lm_X7_82 rfl rfl sh_1 rfl ⟨Nat.le_of_ble_eq_true rfl, Nat.le_of_ble_eq_true rfl, Nat.le_of_ble_eq_true rfl, Nat.le_of_ble_eq_true rfl⟩ h ?_
            rintro _ s22 ⟨rfl, h⟩
            refine r_aload_n 1 dX7_addRequest_114 rfl rfl ?_
            refine r_getR (j := 0) dX7_addRequest_115 sh_0 rfl kc_7 (by decide) lf_X7_22 ?_
            refine r_iconst dX7_addRequest_118 (by decide) ?_
            refine r_iload 0 dX7_addRequest_119 rfl ?_
            refine r_imul dX7_addRequest_121 b17 ?_
            refine r_iconst dX7_addRequest_122 (by decide) ?_
            refine r_sipush dX7_addRequest_123 (by decide) (by decide) ?_
            refine r_callV [vI (2 * (s11 1 1)), vI 0, vI 5000] [] dX7_addRequest_126 okX4_keepWindow ivX4_keepWindow seX4_keepWindow lm_X7_102 rfl rfl sh_1 rfl ⟨Nat.le_of_ble_eq_true rfl, Nat.le_of_ble_eq_true rfl, Nat.le_of_ble_eq_true rfl, Nat.le_of_ble_eq_true rfl⟩ h ?_
            rintro _ s24 ⟨rfl, h⟩
            refine r_aload_n 1 dX7_addRequest_129 rfl rfl ?_
            refine r_getR (j := 0) dX7_addRequest_130 sh_0 rfl kc_7 (by decide) lf_X7_22 ?_
            refine r_iconst dX7_addRequest_133 (by decide) ?_
            refine r_iload 0 dX7_addRequest_134 rfl ?_
            refine r_imul dX7_addRequest_136 b17 ?_
            refine r_iconst dX7_addRequest_137 (by decide) ?_
            refine r_iadd dX7_addRequest_138 b20 ?_
            refine r_iconst dX7_addRequest_139 (by decide) ?_
            refine r_sipush dX7_addRequest_140 (by decide) (by decide) ?_
            refine r_callV [vI ((2 * (s11 1 1)) + 1), vI 0, vI 5000] [] dX7_addRequest_143 okX4_keepWindow ivX4_keepWindow seX4_keepWindow lm_X7_102 rfl rfl sh_1 rfl ⟨Nat.le_of_ble_eq_true rfl, Nat.le_of_ble_eq_true rfl, Nat.le_of_ble_eq_true rfl, Nat.le_of_ble_eq_true rfl⟩ h ?_
            rintro _ s26 ⟨rfl, h⟩
            refine r_aload_n 1 dX7_addRequest_146 rfl rfl ?_
            refine r_getR (j := 0) dX7_addRequest_147 sh_0 rfl kc_7 (by decide) lf_X7_22 ?_
            refine r_iload 0 dX7_addRequest_150 rfl ?_
            refine r_iconst dX7_addRequest_152 (by decide) ?_
            obtain ⟨b27, h⟩ := h
            refine r_iadd dX7_addRequest_153 b27 ?_
            refine r_putI (j := 1) dX7_addRequest_154 sh_1 rfl kc_4 (by decide) lf_X7_92 rfl (by decide) ?_
            refine r_aload_n 1 dX7_addRequest_157 rfl rfl ?_
            refine r_getR (j := 2) dX7_addRequest_158 sh_0 rfl kc_7 (by decide) lf_X7_53 ?_
            refine r_callV [] [] dX7_addRequest_161 okX0_forget ivX0_forget seX0_forget lm_X7_86 rfl rfl sh_53 rfl ⟨Nat.le_of_ble_eq_true rfl, Nat.le_of_ble_eq_true rfl, Nat.le_of_ble_eq_true rfl, Nat.le_of_ble_eq_true rfl⟩ h ?_
            rintro _ s29 ⟨rfl, h⟩
            refine r_iload 0 dX7_addRequest_164 rfl ?_
            exact r_iret dX7_addRequest_166 rfl ⟨_, rfl, h⟩
          · replace h := h.2 c13
            refine r_sipush dX7_addRequest_49 (by decide) (by decide) ?_
            exact r_iret dX7_addRequest_52 rfl ⟨_, rfl, h⟩
set_option maxRecDepth 100000 in
set_option maxHeartbeats 4000000 in
theorem clX7_setWindow (l : Launch) (G : GT) (σ : Sto) (Q : Int → Sto → Prop) (x1 : Int) (x2 : Int) (x3 : Int) (x4 : Int)
    (h : CLi l G mX7_isRequest [vR 0, vI x1] σ (fun r1 s2 => (r1 = 0 → Q (-1001) s2) ∧ (¬ (r1 = 0) → CLi l G mX7_isWindow [vI x3, vI x4] s2 (fun r4 s5 => (r4 = 0 → Q (-1002) s5) ∧ (¬ (r4 = 0) → ((x2 = 0 → (-2147483648 ≤ 2 * x1 ∧ 2 * x1 ≤ 2147483647) ∧ True) ∧ (¬ (x2 = 0) → (-2147483648 ≤ 2 * x1 ∧ 2 * x1 ≤ 2147483647) ∧ (-2147483648 ≤ (2 * x1) + 1 ∧ (2 * x1) + 1 ≤ 2147483647) ∧ True)) ∧ ∀ y12 : Int, y12 = (if x2 = 0 then (2 * x1) else ((2 * x1) + 1)) → (0 ≤ y12 ∧ y12 < 24) ∧ (x3 = (s5 7 y12.toNat) → (x4 = (s5 8 y12.toNat) → Q 0 s5) ∧ (¬ (x4 = (s5 8 y12.toNat)) → CLv l G mX4_keepWindow [vR 1, vI y12, vI x3, vI x4] s5 (fun s20 => CLi l G mX7_routeStillFits [vR 0, vI x1] s20 (fun r21 s22 => (r21 = 0 → CLv l G mX4_keepWindow [vR 1, vI y12, vI (s5 7 y12.toNat), vI (s5 8 y12.toNat)] s22 (fun s25 => Q (-1005) s25)) ∧ (¬ (r21 = 0) → CLv l G mX0_forget [vR 53] s22 (fun s27 => Q 1 s27)))))) ∧ (¬ (x3 = (s5 7 y12.toNat)) → CLv l G mX4_keepWindow [vR 1, vI y12, vI x3, vI x4] s5 (fun s29 => CLi l G mX7_routeStillFits [vR 0, vI x1] s29 (fun r30 s31 => (r30 = 0 → CLv l G mX4_keepWindow [vR 1, vI y12, vI (s5 7 y12.toNat), vI (s5 8 y12.toNat)] s31 (fun s34 => Q (-1005) s34)) ∧ (¬ (r30 = 0) → CLv l G mX0_forget [vR 53] s31 (fun s36 => Q 1 s36)))))))))) :
    CLi l G mX7_setWindow [vR 0, vI x1, vI x2, vI x3, vI x4] σ Q := by
  show MWi l G mX7_setWindow 0 [(0, vR 0), (1, vI x1), (2, vI x2), (3, vI x3), (4, vI x4)] [] σ Q
  refine r_aload_n 0 dX7_setWindow_0 rfl rfl ?_
  refine r_iload_n 1 dX7_setWindow_1 rfl rfl ?_
  refine r_callV [vI x1] [] dX7_setWindow_2 okX7_isRequest ivX7_isRequest seX7_isRequest lm_X7_105 rfl rfl sh_0 rfl ⟨Nat.le_of_ble_eq_true rfl, Nat.le_of_ble_eq_true rfl, Nat.le_of_ble_eq_true rfl, Nat.le_of_ble_eq_true rfl⟩ h ?_
  rintro _ s2 ⟨r1, rfl, h⟩
  refine r_if_ne (tgt := 12) dX7_setWindow_5 (by decide) (fun (c3 : r1 = 0) => ?_) (fun (c3 : ¬ (r1 = 0)) => ?_)
  · replace h := h.1 c3
    refine r_sipush dX7_setWindow_8 (by decide) (by decide) ?_
    exact r_iret dX7_setWindow_11 rfl ⟨_, rfl, h⟩
  · replace h := h.2 c3
    refine r_iload_n 3 dX7_setWindow_12 rfl rfl ?_
    refine r_iload 4 dX7_setWindow_13 rfl ?_
    refine r_callS [vI x3, vI x4] [] dX7_setWindow_15 okX7_isWindow ssX7_isWindow lm_X7_65 rfl rfl ⟨Nat.le_of_ble_eq_true rfl, Nat.le_of_ble_eq_true rfl, Nat.le_of_ble_eq_true rfl, Nat.le_of_ble_eq_true rfl⟩ h ?_
    rintro _ s5 ⟨r4, rfl, h⟩
    refine r_if_ne (tgt := 25) dX7_setWindow_18 (by decide) (fun (c6 : r4 = 0) => ?_) (fun (c6 : ¬ (r4 = 0)) => ?_)
    · replace h := h.1 c6
      refine r_sipush dX7_setWindow_21 (by decide) (by decide) ?_
      exact r_iret dX7_setWindow_24 rfl ⟨_, rfl, h⟩
    · replace h := h.2 c6
      refine r_iload_n 2 dX7_setWindow_25 rfl rfl ?_
      obtain ⟨q11, h⟩ := h
      obtain ⟨y12, ey12⟩ : ∃ z : Int, z = (if x2 = 0 then (2 * x1) else ((2 * x1) + 1)) := ⟨_, rfl⟩
      replace h := h y12 ey12
      have hj13 : MWi l G mX7_setWindow 40 [(0, vR 0), (1, vI x1), (3, vI x3), (4, vI x4)] [vI y12] s5 Q := by
        refine r_istore dX7_setWindow_40 (by decide) rfl ?_
        refine r_aload_n 1 dX7_setWindow_42 rfl rfl ?_
        refine r_getR (j := 0) dX7_setWindow_43 sh_0 rfl kc_7 (by decide) lf_X7_22 ?_
        refine r_getR (j := 8) dX7_setWindow_46 sh_1 rfl kc_4 (by decide) lf_X7_108 ?_
        refine r_iload 0 dX7_setWindow_49 rfl ?_
        obtain ⟨b16, h⟩ := h
        refine r_iald dX7_setWindow_51 sh_7 b16.1 b16.2 ?_
        refine r_istore dX7_setWindow_52 (by decide) rfl ?_
        refine r_aload_n 2 dX7_setWindow_54 rfl rfl ?_
        refine r_getR (j := 0) dX7_setWindow_55 sh_0 rfl kc_7 (by decide) lf_X7_22 ?_
        refine r_getR (j := 9) dX7_setWindow_58 sh_1 rfl kc_4 (by decide) lf_X7_111 ?_
        refine r_iload 1 dX7_setWindow_61 rfl ?_
        refine r_iald dX7_setWindow_63 sh_8 b16.1 b16.2 ?_
        refine r_istore dX7_setWindow_64 (by decide) rfl ?_
        refine r_iload_n 5 dX7_setWindow_66 rfl rfl ?_
        refine r_iload 1 dX7_setWindow_67 rfl ?_
        refine r_icmp_ne (tgt := 81) dX7_setWindow_69 (by decide) (fun (c17 : x3 = (s5 7 y12.toNat)) => ?_) (fun (c17 : ¬ (x3 = (s5 7 y12.toNat))) => ?_)
        · replace h := h.1 c17
          refine r_iload 6 dX7_setWindow_72 rfl ?_
          refine r_iload 0 dX7_setWindow_74 rfl ?_
          refine r_icmp_ne (tgt := 81) dX7_setWindow_76 (by decide) (fun (c18 : x4 = (s5 8 y12.toNat)) => ?_) (fun (c18 : ¬ (x4 = (s5 8 y12.toNat))) => ?_)
          · replace h := h.1 c18
            refine r_iconst dX7_setWindow_79 (by decide) ?_
            exact r_iret dX7_setWindow_80 rfl ⟨_, rfl, h⟩
          · replace h := h.2 c18
            refine r_aload_n 3 dX7_setWindow_81 rfl rfl ?_
            refine r_getR (j := 0) dX7_setWindow_82 sh_0 rfl kc_7 (by decide) lf_X7_22 ?_
            refine r_iload 2 dX7_setWindow_85 rfl ?_
            refine r_iload_n 5 dX7_setWindow_87 rfl rfl ?_
            refine r_iload 6 dX7_setWindow_88 rfl ?_
            refine r_callV [vI y12, vI x3, vI x4] [] dX7_setWindow_90 okX4_keepWindow ivX4_keepWindow seX4_keepWindow lm_X7_102 rfl rfl sh_1 rfl ⟨Nat.le_of_ble_eq_true rfl, Nat.le_of_ble_eq_true rfl, Nat.le_of_ble_eq_true rfl, Nat.le_of_ble_eq_true rfl⟩ h ?_
            rintro _ s20 ⟨rfl, h⟩
            refine r_aload_n 3 dX7_setWindow_93 rfl rfl ?_
            refine r_iload_n 4 dX7_setWindow_94 rfl rfl ?_
            refine r_callV [vI x1] [] dX7_setWindow_95 okX7_routeStillFits ivX7_routeStillFits seX7_routeStillFits lm_X7_114 rfl rfl sh_0 rfl ⟨Nat.le_of_ble_eq_true rfl, Nat.le_of_ble_eq_true rfl, Nat.le_of_ble_eq_true rfl, Nat.le_of_ble_eq_true rfl⟩ h ?_
            rintro _ s22 ⟨r21, rfl, h⟩
            refine r_if_ne (tgt := 118) dX7_setWindow_98 (by decide) (fun (c23 : r21 = 0) => ?_) (fun (c23 : ¬ (r21 = 0)) => ?_)
            · replace h := h.1 c23
              refine r_aload_n 3 dX7_setWindow_101 rfl rfl ?_
              refine r_getR (j := 0) dX7_setWindow_102 sh_0 rfl kc_7 (by decide) lf_X7_22 ?_
              refine r_iload 2 dX7_setWindow_105 rfl ?_
              refine r_iload 1 dX7_setWindow_107 rfl ?_
              refine r_iload 0 dX7_setWindow_109 rfl ?_
              refine r_callV [vI y12, vI (s5 7 y12.toNat), vI (s5 8 y12.toNat)] [] dX7_setWindow_111 okX4_keepWindow ivX4_keepWindow seX4_keepWindow lm_X7_102 rfl rfl sh_1 rfl ⟨Nat.le_of_ble_eq_true rfl, Nat.le_of_ble_eq_true rfl, Nat.le_of_ble_eq_true rfl, Nat.le_of_ble_eq_true rfl⟩ h ?_
              rintro _ s25 ⟨rfl, h⟩
              refine r_sipush dX7_setWindow_114 (by decide) (by decide) ?_
              exact r_iret dX7_setWindow_117 rfl ⟨_, rfl, h⟩
            · replace h := h.2 c23
              refine r_aload_n 3 dX7_setWindow_118 rfl rfl ?_
              refine r_getR (j := 2) dX7_setWindow_119 sh_0 rfl kc_7 (by decide) lf_X7_53 ?_
              refine r_callV [] [] dX7_setWindow_122 okX0_forget ivX0_forget seX0_forget lm_X7_86 rfl rfl sh_53 rfl ⟨Nat.le_of_ble_eq_true rfl, Nat.le_of_ble_eq_true rfl, Nat.le_of_ble_eq_true rfl, Nat.le_of_ble_eq_true rfl⟩ h ?_
              rintro _ s27 ⟨rfl, h⟩
              refine r_iconst dX7_setWindow_125 (by decide) ?_
              exact r_iret dX7_setWindow_126 rfl ⟨_, rfl, h⟩
        · replace h := h.2 c17
          refine r_aload_n 3 dX7_setWindow_81 rfl rfl ?_
          refine r_getR (j := 0) dX7_setWindow_82 sh_0 rfl kc_7 (by decide) lf_X7_22 ?_
          refine r_iload 2 dX7_setWindow_85 rfl ?_
          refine r_iload_n 5 dX7_setWindow_87 rfl rfl ?_
          refine r_iload 6 dX7_setWindow_88 rfl ?_
          refine r_callV [vI y12, vI x3, vI x4] [] dX7_setWindow_90 okX4_keepWindow ivX4_keepWindow seX4_keepWindow lm_X7_102 rfl rfl sh_1 rfl ⟨Nat.le_of_ble_eq_true rfl, Nat.le_of_ble_eq_true rfl, Nat.le_of_ble_eq_true rfl, Nat.le_of_ble_eq_true rfl⟩ h ?_
          rintro _ s29 ⟨rfl, h⟩
          refine r_aload_n 3 dX7_setWindow_93 rfl rfl ?_
          refine r_iload_n 4 dX7_setWindow_94 rfl rfl ?_
          refine r_callV [vI x1] [] dX7_setWindow_95 okX7_routeStillFits ivX7_routeStillFits seX7_routeStillFits lm_X7_114 rfl rfl sh_0 rfl ⟨Nat.le_of_ble_eq_true rfl, Nat.le_of_ble_eq_true rfl, Nat.le_of_ble_eq_true rfl, Nat.le_of_ble_eq_true rfl⟩ h ?_
          rintro _ s31 ⟨r30, rfl, h⟩
          refine r_if_ne (tgt := 118) dX7_setWindow_98 (by decide) (fun (c32 : r30 = 0) => ?_) (fun (c32 : ¬ (r30 = 0)) => ?_)
          · replace h := h.1 c32
            refine r_aload_n 3 dX7_setWindow_101 rfl rfl ?_
            refine r_getR (j := 0) dX7_setWindow_102 sh_0 rfl kc_7 (by decide) lf_X7_22 ?_
            refine r_iload 2 dX7_setWindow_105 rfl ?_
            refine r_iload 1 dX7_setWindow_107 rfl ?_
            refine r_iload 0 dX7_setWindow_109 rfl ?_
            refine r_callV [vI y12, vI (s5 7 y12.toNat), vI (s5 8 y12.toNat)] [] dX7_setWindow_111 okX4_keepWindow ivX4_keepWindow seX4_keepWindow lm_X7_102 rfl rfl sh_1 rfl ⟨Nat.le_of_ble_eq_true rfl, Nat.le_of_ble_eq_true rfl, Nat.le_of_ble_eq_true rfl, Nat.le_of_ble_eq_true rfl⟩ h ?_
            rintro _ s34 ⟨rfl, h⟩
            refine r_sipush dX7_setWindow_114 (by decide) (by decide) ?_
            exact r_iret dX7_setWindow_117 rfl ⟨_, rfl, h⟩
          · replace h := h.2 c32
            refine r_aload_n 3 dX7_setWindow_118 rfl rfl ?_
            refine r_getR (j := 2) dX7_setWindow_119 sh_0 rfl kc_7 (by decide) lf_X7_53 ?_
            refine r_callV [] [] dX7_setWindow_122 okX0_forget ivX0_forget seX0_forget lm_X7_86 rfl rfl sh_53 rfl ⟨Nat.le_of_ble_eq_true rfl, Nat.le_of_ble_eq_true rfl, Nat.le_of_ble_eq_true rfl, Nat.le_of_ble_eq_true rfl⟩ h ?_
            rintro _ s36 ⟨rfl, h⟩
            refine r_iconst dX7_setWindow_125 (by decide) ?_
            exact r_iret dX7_setWindow_126 rfl ⟨_, rfl, h⟩
      replace h := q11
      refine r_if_eq (tgt := 37) dX7_setWindow_26 (by decide) (fun (c7 : x2 = 0) => ?_) (fun (c7 : ¬ (x2 = 0)) => ?_)
      · replace h := h.1 c7
        refine r_iconst dX7_setWindow_37 (by decide) ?_
        refine r_iload_n 1 dX7_setWindow_38 rfl rfl ?_
        obtain ⟨b8, h⟩ := h
        refine r_imul dX7_setWindow_39 b8 ?_
        refine MWF.sub [0, 1, 3, 4] rfl ?_
        have q14 : y12 = (2 * x1) := by rw [ey12, if_pos c7]
        rw [q14] at hj13
        exact hj13
      · replace h := h.2 c7
        refine r_iconst dX7_setWindow_29 (by decide) ?_
        refine r_iload_n 1 dX7_setWindow_30 rfl rfl ?_
        obtain ⟨b9, h⟩ := h
        refine r_imul dX7_setWindow_31 b9 ?_
        refine r_iconst dX7_setWindow_32 (by decide) ?_
        obtain ⟨b10, h⟩ := h
        refine r_iadd dX7_setWindow_33 b10 ?_
        refine r_goto (tgt := 40) dX7_setWindow_34 (by decide) ?_
        refine MWF.sub [0, 1, 3, 4] rfl ?_
        have q15 : y12 = ((2 * x1) + 1) := by rw [ey12, if_neg c7]
        rw [q15] at hj13
        exact hj13
set_option maxRecDepth 100000 in
set_option maxHeartbeats 4000000 in
theorem clX7_setLimit (l : Launch) (G : GT) (σ : Sto) (Q : Int → Sto → Prop) (x1 : Int) (x2 : Int)
    (h : CLi l G mX7_isRequest [vR 0, vI x1] σ (fun r1 s2 => (r1 = 0 → Q (-1001) s2) ∧ (¬ (r1 = 0) → CLi l G mX7_isLimit [vI x2] s2 (fun r4 s5 => (r4 = 0 → Q (-1002) s5) ∧ (¬ (r4 = 0) → (0 ≤ x1 ∧ x1 < 12) ∧ (x2 = (s5 5 x1.toNat) → Q (s5 5 x1.toNat) s5) ∧ (¬ (x2 = (s5 5 x1.toNat)) → CLi l G mX7_routeStillFits [vR 0, vI x1] (stS s5 5 x1.toNat x2) (fun r9 s10 => (r9 = 0 → Q (-1005) (stS s10 5 x1.toNat (s5 5 x1.toNat))) ∧ (¬ (r9 = 0) → CLv l G mX0_forget [vR 53] s10 (fun s13 => Q (s5 5 x1.toNat) s13))))))))) :
    CLi l G mX7_setLimit [vR 0, vI x1, vI x2] σ Q := by
  show MWi l G mX7_setLimit 0 [(0, vR 0), (1, vI x1), (2, vI x2)] [] σ Q
  refine r_aload_n 0 dX7_setLimit_0 rfl rfl ?_
  refine r_iload_n 1 dX7_setLimit_1 rfl rfl ?_
  refine r_callV [vI x1] [] dX7_setLimit_2 okX7_isRequest ivX7_isRequest seX7_isRequest lm_X7_105 rfl rfl sh_0 rfl ⟨Nat.le_of_ble_eq_true rfl, Nat.le_of_ble_eq_true rfl, Nat.le_of_ble_eq_true rfl, Nat.le_of_ble_eq_true rfl⟩ h ?_
  rintro _ s2 ⟨r1, rfl, h⟩
  refine r_if_ne (tgt := 12) dX7_setLimit_5 (by decide) (fun (c3 : r1 = 0) => ?_) (fun (c3 : ¬ (r1 = 0)) => ?_)
  · replace h := h.1 c3
    refine r_sipush dX7_setLimit_8 (by decide) (by decide) ?_
    exact r_iret dX7_setLimit_11 rfl ⟨_, rfl, h⟩
  · replace h := h.2 c3
    refine r_iload_n 2 dX7_setLimit_12 rfl rfl ?_
    refine r_callS [vI x2] [] dX7_setLimit_13 okX7_isLimit ssX7_isLimit lm_X7_89 rfl rfl ⟨Nat.le_of_ble_eq_true rfl, Nat.le_of_ble_eq_true rfl, Nat.le_of_ble_eq_true rfl, Nat.le_of_ble_eq_true rfl⟩ h ?_
    rintro _ s5 ⟨r4, rfl, h⟩
    refine r_if_ne (tgt := 23) dX7_setLimit_16 (by decide) (fun (c6 : r4 = 0) => ?_) (fun (c6 : ¬ (r4 = 0)) => ?_)
    · replace h := h.1 c6
      refine r_sipush dX7_setLimit_19 (by decide) (by decide) ?_
      exact r_iret dX7_setLimit_22 rfl ⟨_, rfl, h⟩
    · replace h := h.2 c6
      refine r_aload_n 0 dX7_setLimit_23 rfl rfl ?_
      refine r_getR (j := 0) dX7_setLimit_24 sh_0 rfl kc_7 (by decide) lf_X7_22 ?_
      refine r_getR (j := 6) dX7_setLimit_27 sh_1 rfl kc_4 (by decide) lf_X7_99 ?_
      refine r_iload_n 1 dX7_setLimit_30 rfl rfl ?_
      obtain ⟨b7, h⟩ := h
      refine r_iald dX7_setLimit_31 sh_5 b7.1 b7.2 ?_
      refine r_istore_n dX7_setLimit_32 rfl (by decide) rfl ?_
      refine r_iload_n 3 dX7_setLimit_33 rfl rfl ?_
      refine r_iload_n 0 dX7_setLimit_34 rfl rfl ?_
      refine r_icmp_ne (tgt := 40) dX7_setLimit_35 (by decide) (fun (c8 : x2 = (s5 5 x1.toNat)) => ?_) (fun (c8 : ¬ (x2 = (s5 5 x1.toNat))) => ?_)
      · replace h := h.1 c8
        refine r_iload_n 0 dX7_setLimit_38 rfl rfl ?_
        exact r_iret dX7_setLimit_39 rfl ⟨_, rfl, h⟩
      · replace h := h.2 c8
        refine r_aload_n 1 dX7_setLimit_40 rfl rfl ?_
        refine r_getR (j := 0) dX7_setLimit_41 sh_0 rfl kc_7 (by decide) lf_X7_22 ?_
        refine r_getR (j := 6) dX7_setLimit_44 sh_1 rfl kc_4 (by decide) lf_X7_99 ?_
        refine r_iload_n 2 dX7_setLimit_47 rfl rfl ?_
        refine r_iload_n 3 dX7_setLimit_48 rfl rfl ?_
        refine r_iast dX7_setLimit_49 sh_5 b7.1 b7.2 ?_
        refine r_aload_n 1 dX7_setLimit_50 rfl rfl ?_
        refine r_iload_n 2 dX7_setLimit_51 rfl rfl ?_
        refine r_callV [vI x1] [] dX7_setLimit_52 okX7_routeStillFits ivX7_routeStillFits seX7_routeStillFits lm_X7_114 rfl rfl sh_0 rfl ⟨Nat.le_of_ble_eq_true rfl, Nat.le_of_ble_eq_true rfl, Nat.le_of_ble_eq_true rfl, Nat.le_of_ble_eq_true rfl⟩ h ?_
        rintro _ s10 ⟨r9, rfl, h⟩
        refine r_if_ne (tgt := 72) dX7_setLimit_55 (by decide) (fun (c11 : r9 = 0) => ?_) (fun (c11 : ¬ (r9 = 0)) => ?_)
        · replace h := h.1 c11
          refine r_aload_n 1 dX7_setLimit_58 rfl rfl ?_
          refine r_getR (j := 0) dX7_setLimit_59 sh_0 rfl kc_7 (by decide) lf_X7_22 ?_
          refine r_getR (j := 6) dX7_setLimit_62 sh_1 rfl kc_4 (by decide) lf_X7_99 ?_
          refine r_iload_n 2 dX7_setLimit_65 rfl rfl ?_
          refine r_iload_n 0 dX7_setLimit_66 rfl rfl ?_
          refine r_iast dX7_setLimit_67 sh_5 b7.1 b7.2 ?_
          refine r_sipush dX7_setLimit_68 (by decide) (by decide) ?_
          exact r_iret dX7_setLimit_71 rfl ⟨_, rfl, h⟩
        · replace h := h.2 c11
          refine r_aload_n 1 dX7_setLimit_72 rfl rfl ?_
          refine r_getR (j := 2) dX7_setLimit_73 sh_0 rfl kc_7 (by decide) lf_X7_53 ?_
          refine r_callV [] [] dX7_setLimit_76 okX0_forget ivX0_forget seX0_forget lm_X7_86 rfl rfl sh_53 rfl ⟨Nat.le_of_ble_eq_true rfl, Nat.le_of_ble_eq_true rfl, Nat.le_of_ble_eq_true rfl, Nat.le_of_ble_eq_true rfl⟩ h ?_
          rintro _ s13 ⟨rfl, h⟩
          refine r_iload_n 0 dX7_setLimit_79 rfl rfl ?_
          exact r_iret dX7_setLimit_80 rfl ⟨_, rfl, h⟩
set_option maxRecDepth 100000 in
set_option maxHeartbeats 4000000 in
theorem clX7_setLoad (l : Launch) (G : GT) (σ : Sto) (Q : Int → Sto → Prop) (x1 : Int) (x2 : Int)
    (h : CLi l G mX7_isRequest [vR 0, vI x1] σ (fun r1 s2 => (r1 = 0 → Q (-1001) s2) ∧ (¬ (r1 = 0) → CLi l G mX7_isLoad [vI x2] s2 (fun r4 s5 => (r4 = 0 → Q (-1002) s5) ∧ (¬ (r4 = 0) → (-2147483648 ≤ 2 * x1 ∧ 2 * x1 ≤ 2147483647) ∧ (0 ≤ (2 * x1) ∧ (2 * x1) < 24) ∧ (x2 = (s5 6 (2 * x1).toNat) → Q (s5 6 (2 * x1).toNat) s5) ∧ (¬ (x2 = (s5 6 (2 * x1).toNat)) → CLv l G mX4_keepLoad [vR 1, vI x1, vI x2] s5 (fun s11 => CLi l G mX7_routeStillFits [vR 0, vI x1] s11 (fun r12 s13 => (r12 = 0 → CLv l G mX4_keepLoad [vR 1, vI x1, vI (s5 6 (2 * x1).toNat)] s13 (fun s16 => Q (-1005) s16)) ∧ (¬ (r12 = 0) → CLv l G mX0_forget [vR 53] s13 (fun s18 => Q (s5 6 (2 * x1).toNat) s18)))))))))) :
    CLi l G mX7_setLoad [vR 0, vI x1, vI x2] σ Q := by
  show MWi l G mX7_setLoad 0 [(0, vR 0), (1, vI x1), (2, vI x2)] [] σ Q
  refine r_aload_n 0 dX7_setLoad_0 rfl rfl ?_
  refine r_iload_n 1 dX7_setLoad_1 rfl rfl ?_
  refine r_callV [vI x1] [] dX7_setLoad_2 okX7_isRequest ivX7_isRequest seX7_isRequest lm_X7_105 rfl rfl sh_0 rfl ⟨Nat.le_of_ble_eq_true rfl, Nat.le_of_ble_eq_true rfl, Nat.le_of_ble_eq_true rfl, Nat.le_of_ble_eq_true rfl⟩ h ?_
  rintro _ s2 ⟨r1, rfl, h⟩
  refine r_if_ne (tgt := 12) dX7_setLoad_5 (by decide) (fun (c3 : r1 = 0) => ?_) (fun (c3 : ¬ (r1 = 0)) => ?_)
  · replace h := h.1 c3
    refine r_sipush dX7_setLoad_8 (by decide) (by decide) ?_
    exact r_iret dX7_setLoad_11 rfl ⟨_, rfl, h⟩
  · replace h := h.2 c3
    refine r_iload_n 2 dX7_setLoad_12 rfl rfl ?_
    refine r_callS [vI x2] [] dX7_setLoad_13 okX7_isLoad ssX7_isLoad lm_X7_61 rfl rfl ⟨Nat.le_of_ble_eq_true rfl, Nat.le_of_ble_eq_true rfl, Nat.le_of_ble_eq_true rfl, Nat.le_of_ble_eq_true rfl⟩ h ?_
    rintro _ s5 ⟨r4, rfl, h⟩
    refine r_if_ne (tgt := 23) dX7_setLoad_16 (by decide) (fun (c6 : r4 = 0) => ?_) (fun (c6 : ¬ (r4 = 0)) => ?_)
    · replace h := h.1 c6
      refine r_sipush dX7_setLoad_19 (by decide) (by decide) ?_
      exact r_iret dX7_setLoad_22 rfl ⟨_, rfl, h⟩
    · replace h := h.2 c6
      refine r_aload_n 0 dX7_setLoad_23 rfl rfl ?_
      refine r_getR (j := 0) dX7_setLoad_24 sh_0 rfl kc_7 (by decide) lf_X7_22 ?_
      refine r_getR (j := 7) dX7_setLoad_27 sh_1 rfl kc_4 (by decide) lf_X7_117 ?_
      refine r_iconst dX7_setLoad_30 (by decide) ?_
      refine r_iload_n 1 dX7_setLoad_31 rfl rfl ?_
      obtain ⟨b7, h⟩ := h
      refine r_imul dX7_setLoad_32 b7 ?_
      obtain ⟨b8, h⟩ := h
      refine r_iald dX7_setLoad_33 sh_6 b8.1 b8.2 ?_
      refine r_istore_n dX7_setLoad_34 rfl (by decide) rfl ?_
      refine r_iload_n 3 dX7_setLoad_35 rfl rfl ?_
      refine r_iload_n 0 dX7_setLoad_36 rfl rfl ?_
      refine r_icmp_ne (tgt := 42) dX7_setLoad_37 (by decide) (fun (c9 : x2 = (s5 6 (2 * x1).toNat)) => ?_) (fun (c9 : ¬ (x2 = (s5 6 (2 * x1).toNat))) => ?_)
      · replace h := h.1 c9
        refine r_iload_n 0 dX7_setLoad_40 rfl rfl ?_
        exact r_iret dX7_setLoad_41 rfl ⟨_, rfl, h⟩
      · replace h := h.2 c9
        refine r_aload_n 1 dX7_setLoad_42 rfl rfl ?_
        refine r_getR (j := 0) dX7_setLoad_43 sh_0 rfl kc_7 (by decide) lf_X7_22 ?_
        refine r_iload_n 2 dX7_setLoad_46 rfl rfl ?_
        refine r_iload_n 3 dX7_setLoad_47 rfl rfl ?_
        refine r_callV [vI x1, vI x2] [] dX7_setLoad_48 okX4_keepLoad ivX4_keepLoad seX4_keepLoad lm_X7_95 rfl rfl sh_1 rfl ⟨Nat.le_of_ble_eq_true rfl, Nat.le_of_ble_eq_true rfl, Nat.le_of_ble_eq_true rfl, Nat.le_of_ble_eq_true rfl⟩ h ?_
        rintro _ s11 ⟨rfl, h⟩
        refine r_aload_n 1 dX7_setLoad_51 rfl rfl ?_
        refine r_iload_n 2 dX7_setLoad_52 rfl rfl ?_
        refine r_callV [vI x1] [] dX7_setLoad_53 okX7_routeStillFits ivX7_routeStillFits seX7_routeStillFits lm_X7_114 rfl rfl sh_0 rfl ⟨Nat.le_of_ble_eq_true rfl, Nat.le_of_ble_eq_true rfl, Nat.le_of_ble_eq_true rfl, Nat.le_of_ble_eq_true rfl⟩ h ?_
        rintro _ s13 ⟨r12, rfl, h⟩
        refine r_if_ne (tgt := 72) dX7_setLoad_56 (by decide) (fun (c14 : r12 = 0) => ?_) (fun (c14 : ¬ (r12 = 0)) => ?_)
        · replace h := h.1 c14
          refine r_aload_n 1 dX7_setLoad_59 rfl rfl ?_
          refine r_getR (j := 0) dX7_setLoad_60 sh_0 rfl kc_7 (by decide) lf_X7_22 ?_
          refine r_iload_n 2 dX7_setLoad_63 rfl rfl ?_
          refine r_iload_n 0 dX7_setLoad_64 rfl rfl ?_
          refine r_callV [vI x1, vI (s5 6 (2 * x1).toNat)] [] dX7_setLoad_65 okX4_keepLoad ivX4_keepLoad seX4_keepLoad lm_X7_95 rfl rfl sh_1 rfl ⟨Nat.le_of_ble_eq_true rfl, Nat.le_of_ble_eq_true rfl, Nat.le_of_ble_eq_true rfl, Nat.le_of_ble_eq_true rfl⟩ h ?_
          rintro _ s16 ⟨rfl, h⟩
          refine r_sipush dX7_setLoad_68 (by decide) (by decide) ?_
          exact r_iret dX7_setLoad_71 rfl ⟨_, rfl, h⟩
        · replace h := h.2 c14
          refine r_aload_n 1 dX7_setLoad_72 rfl rfl ?_
          refine r_getR (j := 2) dX7_setLoad_73 sh_0 rfl kc_7 (by decide) lf_X7_53 ?_
          refine r_callV [] [] dX7_setLoad_76 okX0_forget ivX0_forget seX0_forget lm_X7_86 rfl rfl sh_53 rfl ⟨Nat.le_of_ble_eq_true rfl, Nat.le_of_ble_eq_true rfl, Nat.le_of_ble_eq_true rfl, Nat.le_of_ble_eq_true rfl⟩ h ?_
          rintro _ s18 ⟨rfl, h⟩
          refine r_iload_n 0 dX7_setLoad_79 rfl rfl ?_
          exact r_iret dX7_setLoad_80 rfl ⟨_, rfl, h⟩
set_option maxRecDepth 100000 in
set_option maxHeartbeats 4000000 in
theorem clX7_setService (l : Launch) (G : GT) (σ : Sto) (Q : Int → Sto → Prop) (x1 : Int)
    (h : (x1 < 0 → Q (-1002) σ) ∧ (¬ (x1 < 0) → (x1 ≤ 10 → (x1 = (σ 1 2) → Q (σ 1 2) σ) ∧ (¬ (x1 = (σ 1 2)) → CLi l G mX7_allRoutesStillFit [vR 0] (stS σ 1 2 x1) (fun r4 s5 => (r4 = 0 → Q (-1005) (stS s5 1 2 (σ 1 2))) ∧ (¬ (r4 = 0) → CLv l G mX0_forget [vR 53] s5 (fun s8 => Q (σ 1 2) s8))))) ∧ (¬ (x1 ≤ 10) → Q (-1002) σ))) :
    CLi l G mX7_setService [vR 0, vI x1] σ Q := by
  show MWi l G mX7_setService 0 [(0, vR 0), (1, vI x1)] [] σ Q
  refine r_iload_n 1 dX7_setService_0 rfl rfl ?_
  refine r_if_lt (tgt := 10) dX7_setService_1 (by decide) (fun (c1 : x1 < 0) => ?_) (fun (c1 : ¬ (x1 < 0)) => ?_)
  · replace h := h.1 c1
    refine r_sipush dX7_setService_10 (by decide) (by decide) ?_
    exact r_iret dX7_setService_13 rfl ⟨_, rfl, h⟩
  · replace h := h.2 c1
    refine r_iload_n 1 dX7_setService_4 rfl rfl ?_
    refine r_bipush dX7_setService_5 (by decide) (by decide) ?_
    refine r_icmp_le (tgt := 14) dX7_setService_7 (by decide) (fun (c2 : x1 ≤ 10) => ?_) (fun (c2 : ¬ (x1 ≤ 10)) => ?_)
    · replace h := h.1 c2
      refine r_aload_n 0 dX7_setService_14 rfl rfl ?_
      refine r_getR (j := 0) dX7_setService_15 sh_0 rfl kc_7 (by decide) lf_X7_22 ?_
      refine r_getI (j := 2) dX7_setService_18 sh_1 rfl kc_4 (by decide) lf_X7_120 ?_
      refine r_istore_n dX7_setService_21 rfl (by decide) rfl ?_
      refine r_iload_n 2 dX7_setService_22 rfl rfl ?_
      refine r_iload_n 0 dX7_setService_23 rfl rfl ?_
      refine r_icmp_ne (tgt := 29) dX7_setService_24 (by decide) (fun (c3 : x1 = (σ 1 2)) => ?_) (fun (c3 : ¬ (x1 = (σ 1 2))) => ?_)
      · replace h := h.1 c3
        refine r_iload_n 0 dX7_setService_27 rfl rfl ?_
        exact r_iret dX7_setService_28 rfl ⟨_, rfl, h⟩
      · replace h := h.2 c3
        refine r_aload_n 1 dX7_setService_29 rfl rfl ?_
        refine r_getR (j := 0) dX7_setService_30 sh_0 rfl kc_7 (by decide) lf_X7_22 ?_
        refine r_iload_n 2 dX7_setService_33 rfl rfl ?_
        refine r_putI (j := 2) dX7_setService_34 sh_1 rfl kc_4 (by decide) lf_X7_120 rfl (by decide) ?_
        refine r_aload_n 1 dX7_setService_37 rfl rfl ?_
        refine r_callV [] [] dX7_setService_38 okX7_allRoutesStillFit ivX7_allRoutesStillFit seX7_allRoutesStillFit lm_X7_123 rfl rfl sh_0 rfl ⟨Nat.le_of_ble_eq_true rfl, Nat.le_of_ble_eq_true rfl, Nat.le_of_ble_eq_true rfl, Nat.le_of_ble_eq_true rfl⟩ h ?_
        rintro _ s5 ⟨r4, rfl, h⟩
        refine r_if_ne (tgt := 56) dX7_setService_41 (by decide) (fun (c6 : r4 = 0) => ?_) (fun (c6 : ¬ (r4 = 0)) => ?_)
        · replace h := h.1 c6
          refine r_aload_n 1 dX7_setService_44 rfl rfl ?_
          refine r_getR (j := 0) dX7_setService_45 sh_0 rfl kc_7 (by decide) lf_X7_22 ?_
          refine r_iload_n 0 dX7_setService_48 rfl rfl ?_
          refine r_putI (j := 2) dX7_setService_49 sh_1 rfl kc_4 (by decide) lf_X7_120 rfl (by decide) ?_
          refine r_sipush dX7_setService_52 (by decide) (by decide) ?_
          exact r_iret dX7_setService_55 rfl ⟨_, rfl, h⟩
        · replace h := h.2 c6
          refine r_aload_n 1 dX7_setService_56 rfl rfl ?_
          refine r_getR (j := 2) dX7_setService_57 sh_0 rfl kc_7 (by decide) lf_X7_53 ?_
          refine r_callV [] [] dX7_setService_60 okX0_forget ivX0_forget seX0_forget lm_X7_86 rfl rfl sh_53 rfl ⟨Nat.le_of_ble_eq_true rfl, Nat.le_of_ble_eq_true rfl, Nat.le_of_ble_eq_true rfl, Nat.le_of_ble_eq_true rfl⟩ h ?_
          rintro _ s8 ⟨rfl, h⟩
          refine r_iload_n 0 dX7_setService_63 rfl rfl ?_
          exact r_iret dX7_setService_64 rfl ⟨_, rfl, h⟩
    · replace h := h.2 c2
      refine r_sipush dX7_setService_10 (by decide) (by decide) ?_
      exact r_iret dX7_setService_13 rfl ⟨_, rfl, h⟩
set_option maxRecDepth 100000 in
set_option maxHeartbeats 4000000 in
theorem clX7_count (l : Launch) (G : GT) (σ : Sto) (Q : Int → Sto → Prop) (x1 : Int)
    (h : (x1 = 0 → Q (σ 1 0) σ) ∧ (x1 = 1 → Q (σ 1 1) σ) ∧ (x1 = 2 → CLi l G mX7_openRequests [vR 0] σ (fun r4 s5 => Q r4 s5)) ∧ (x1 = 3 → CLi l G mX4_totalLength [vR 1, vR 74] σ (fun r7 s8 => Q r7 s8)) ∧ (x1 = 4 → Q (σ 1 2) σ) ∧ (x1 = 5 → Q (σ 53 0) σ) ∧ (x1 < 0 ∨ 5 < x1 → Q (-1002) σ)) :
    CLi l G mX7_count [vR 0, vI x1] σ Q := by
  show MWi l G mX7_count 0 [(0, vR 0), (1, vI x1)] [] σ Q
  refine r_iload_n 1 dX7_count_0 rfl rfl ?_
  by_cases c1 : x1 = 0
  · replace h := h.1 c1
    refine r_tableIn (tgt := 40) dX7_count_1 (by omega) (by omega) (by rw [c1]; rfl) (by decide) ?_
    refine r_aload_n 0 dX7_count_40 rfl rfl ?_
    refine r_getR (j := 0) dX7_count_41 sh_0 rfl kc_7 (by decide) lf_X7_22 ?_
    refine r_getI (j := 0) dX7_count_44 sh_1 rfl kc_4 (by decide) lf_X7_68 ?_
    exact r_iret dX7_count_47 rfl ⟨_, rfl, h⟩
  replace h := h.2
  by_cases c2 : x1 = 1
  · replace h := h.1 c2
    refine r_tableIn (tgt := 48) dX7_count_1 (by omega) (by omega) (by rw [c2]; rfl) (by decide) ?_
    refine r_aload_n 0 dX7_count_48 rfl rfl ?_
    refine r_getR (j := 0) dX7_count_49 sh_0 rfl kc_7 (by decide) lf_X7_22 ?_
    refine r_getI (j := 1) dX7_count_52 sh_1 rfl kc_4 (by decide) lf_X7_92 ?_
    exact r_iret dX7_count_55 rfl ⟨_, rfl, h⟩
  replace h := h.2
  by_cases c3 : x1 = 2
  · replace h := h.1 c3
    refine r_tableIn (tgt := 56) dX7_count_1 (by omega) (by omega) (by rw [c3]; rfl) (by decide) ?_
    refine r_aload_n 0 dX7_count_56 rfl rfl ?_
    refine r_callV [] [] dX7_count_57 okX7_openRequests ivX7_openRequests seX7_openRequests lm_X7_127 rfl rfl sh_0 rfl ⟨Nat.le_of_ble_eq_true rfl, Nat.le_of_ble_eq_true rfl, Nat.le_of_ble_eq_true rfl, Nat.le_of_ble_eq_true rfl⟩ h ?_
    rintro _ s5 ⟨r4, rfl, h⟩
    exact r_iret dX7_count_60 rfl ⟨_, rfl, h⟩
  replace h := h.2
  by_cases c6 : x1 = 3
  · replace h := h.1 c6
    refine r_tableIn (tgt := 61) dX7_count_1 (by omega) (by omega) (by rw [c6]; rfl) (by decide) ?_
    refine r_aload_n 0 dX7_count_61 rfl rfl ?_
    refine r_getR (j := 0) dX7_count_62 sh_0 rfl kc_7 (by decide) lf_X7_22 ?_
    refine r_aload_n 0 dX7_count_65 rfl rfl ?_
    refine r_getR (j := 1) dX7_count_66 sh_0 rfl kc_7 (by decide) lf_X7_46 ?_
    refine r_callV [vR 74] [] dX7_count_69 okX4_totalLength ivX4_totalLength seX4_totalLength lm_X7_131 rfl rfl sh_1 rfl ⟨Nat.le_of_ble_eq_true rfl, Nat.le_of_ble_eq_true rfl, Nat.le_of_ble_eq_true rfl, Nat.le_of_ble_eq_true rfl⟩ h ?_
    rintro _ s8 ⟨r7, rfl, h⟩
    exact r_iret dX7_count_72 rfl ⟨_, rfl, h⟩
  replace h := h.2
  by_cases c9 : x1 = 4
  · replace h := h.1 c9
    refine r_tableIn (tgt := 73) dX7_count_1 (by omega) (by omega) (by rw [c9]; rfl) (by decide) ?_
    refine r_aload_n 0 dX7_count_73 rfl rfl ?_
    refine r_getR (j := 0) dX7_count_74 sh_0 rfl kc_7 (by decide) lf_X7_22 ?_
    refine r_getI (j := 2) dX7_count_77 sh_1 rfl kc_4 (by decide) lf_X7_120 ?_
    exact r_iret dX7_count_80 rfl ⟨_, rfl, h⟩
  replace h := h.2
  by_cases c10 : x1 = 5
  · replace h := h.1 c10
    refine r_tableIn (tgt := 81) dX7_count_1 (by omega) (by omega) (by rw [c10]; rfl) (by decide) ?_
    refine r_aload_n 0 dX7_count_81 rfl rfl ?_
    refine r_getR (j := 2) dX7_count_82 sh_0 rfl kc_7 (by decide) lf_X7_53 ?_
    refine r_getI (j := 0) dX7_count_85 sh_53 rfl kc_0 (by decide) lf_X7_135 ?_
    exact r_iret dX7_count_88 rfl ⟨_, rfl, h⟩
  replace h := h.2
  have o11 : x1 < 0 ∨ 5 < x1 := by omega
  replace h := h o11
  refine r_tableOut (tgt := 89) dX7_count_1 o11 (by decide) ?_
  refine r_sipush dX7_count_89 (by decide) (by decide) ?_
  exact r_iret dX7_count_92 rfl ⟨_, rfl, h⟩
set_option maxRecDepth 100000 in
set_option maxHeartbeats 4000000 in
theorem clX7_request (l : Launch) (G : GT) (σ : Sto) (Q : Int → Sto → Prop) (x1 : Int) (x2 : Int)
    (h : CLi l G mX7_isRequest [vR 0, vI x1] σ (fun r1 s2 => (r1 = 0 → Q (-1001) s2) ∧ (¬ (r1 = 0) → (-2147483648 ≤ 2 * x1 ∧ 2 * x1 ≤ 2147483647) ∧ (x2 = 0 → CLi l G mX7_isOpen [vR 0, vI x1] s2 (fun r6 s7 => ((r6 = 0 → (0 ≤ x1 ∧ x1 < 12) ∧ True)) ∧ ∀ y11 : Int, y11 = (if r6 = 0 then (s7 (74 + 2) x1.toNat) else (-1007)) → Q y11 s7)) ∧ (x2 = 1 → (0 ≤ (2 * x1) ∧ (2 * x1) < 24) ∧ Q (s2 6 (2 * x1).toNat) s2) ∧ (x2 = 2 → (0 ≤ x1 ∧ x1 < 12) ∧ Q (s2 5 x1.toNat) s2) ∧ (x2 = 3 → (0 ≤ (2 * x1) ∧ (2 * x1) < 24) ∧ Q (s2 7 (2 * x1).toNat) s2) ∧ (x2 = 4 → (0 ≤ (2 * x1) ∧ (2 * x1) < 24) ∧ Q (s2 8 (2 * x1).toNat) s2) ∧ (x2 = 5 → (-2147483648 ≤ (2 * x1) + 1 ∧ (2 * x1) + 1 ≤ 2147483647) ∧ (0 ≤ ((2 * x1) + 1) ∧ ((2 * x1) + 1) < 24) ∧ Q (s2 7 ((2 * x1) + 1).toNat) s2) ∧ (x2 = 6 → (-2147483648 ≤ (2 * x1) + 1 ∧ (2 * x1) + 1 ≤ 2147483647) ∧ (0 ≤ ((2 * x1) + 1) ∧ ((2 * x1) + 1) < 24) ∧ Q (s2 8 ((2 * x1) + 1).toNat) s2) ∧ (x2 = 7 → (0 ≤ (2 * x1) ∧ (2 * x1) < 28) ∧ (-2147483648 ≤ (2 * x1) + 1 ∧ (2 * x1) + 1 ≤ 2147483647) ∧ (0 ≤ ((2 * x1) + 1) ∧ ((2 * x1) + 1) < 28) ∧ Q (s2 (12 + (2 * x1).toNat) ((2 * x1) + 1).toNat) s2) ∧ (x2 < 0 ∨ 7 < x2 → Q (-1002) s2)))) :
    CLi l G mX7_request [vR 0, vI x1, vI x2] σ Q := by
  show MWi l G mX7_request 0 [(0, vR 0), (1, vI x1), (2, vI x2)] [] σ Q
  refine r_aload_n 0 dX7_request_0 rfl rfl ?_
  refine r_iload_n 1 dX7_request_1 rfl rfl ?_
  refine r_callV [vI x1] [] dX7_request_2 okX7_isRequest ivX7_isRequest seX7_isRequest lm_X7_105 rfl rfl sh_0 rfl ⟨Nat.le_of_ble_eq_true rfl, Nat.le_of_ble_eq_true rfl, Nat.le_of_ble_eq_true rfl, Nat.le_of_ble_eq_true rfl⟩ h ?_
  rintro _ s2 ⟨r1, rfl, h⟩
  refine r_if_ne (tgt := 12) dX7_request_5 (by decide) (fun (c3 : r1 = 0) => ?_) (fun (c3 : ¬ (r1 = 0)) => ?_)
  · replace h := h.1 c3
    refine r_sipush dX7_request_8 (by decide) (by decide) ?_
    exact r_iret dX7_request_11 rfl ⟨_, rfl, h⟩
  · replace h := h.2 c3
    refine r_iconst dX7_request_12 (by decide) ?_
    refine r_iload_n 1 dX7_request_13 rfl rfl ?_
    obtain ⟨b4, h⟩ := h
    refine r_imul dX7_request_14 b4 ?_
    refine r_istore_n dX7_request_15 rfl (by decide) rfl ?_
    refine r_iload_n 3 dX7_request_16 rfl rfl ?_
    by_cases c5 : x2 = 0
    · replace h := h.1 c5
      refine r_tableIn (tgt := 64) dX7_request_17 (by omega) (by omega) (by rw [c5]; rfl) (by decide) ?_
      refine r_aload_n 1 dX7_request_64 rfl rfl ?_
      refine r_iload_n 2 dX7_request_65 rfl rfl ?_
      refine r_callV [vI x1] [] dX7_request_66 okX7_isOpen ivX7_isOpen seX7_isOpen lm_X7_138 rfl rfl sh_0 rfl ⟨Nat.le_of_ble_eq_true rfl, Nat.le_of_ble_eq_true rfl, Nat.le_of_ble_eq_true rfl, Nat.le_of_ble_eq_true rfl⟩ h ?_
      rintro _ s7 ⟨r6, rfl, h⟩
      obtain ⟨q10, h⟩ := h
      obtain ⟨y11, ey11⟩ : ∃ z : Int, z = (if r6 = 0 then (s7 (74 + 2) x1.toNat) else (-1007)) := ⟨_, rfl⟩
      replace h := h y11 ey11
      have hj12 : MWi l G mX7_request 87 [] [vI y11] s7 Q := by
        exact r_iret dX7_request_87 rfl ⟨_, rfl, h⟩
      replace h := q10
      refine r_if_eq (tgt := 78) dX7_request_69 (by decide) (fun (c8 : r6 = 0) => ?_) (fun (c8 : ¬ (r6 = 0)) => ?_)
      · replace h := h c8
        refine r_aload_n 1 dX7_request_78 rfl rfl ?_
        refine r_getR (j := 1) dX7_request_79 sh_0 rfl kc_7 (by decide) lf_X7_46 ?_
        refine r_getR (j := 1) dX7_request_82 pl_74.1 rfl kc_3 (by decide) lf_X7_141 ?_
        refine r_iload_n 2 dX7_request_85 rfl rfl ?_
        obtain ⟨b9, h⟩ := h
        refine r_iald dX7_request_86 pl_74.2.2.1 b9.1 b9.2 ?_
        refine MWF.sub [] rfl ?_
        have q13 : y11 = (s7 (74 + 2) x1.toNat) := by rw [ey11, if_pos c8]
        rw [q13] at hj12
        exact hj12
      · refine r_sipush dX7_request_72 (by decide) (by decide) ?_
        refine r_goto (tgt := 87) dX7_request_75 (by decide) ?_
        refine MWF.sub [] rfl ?_
        have q14 : y11 = (-1007) := by rw [ey11, if_neg c8]
        rw [q14] at hj12
        exact hj12
    replace h := h.2
    by_cases c15 : x2 = 1
    · replace h := h.1 c15
      refine r_tableIn (tgt := 88) dX7_request_17 (by omega) (by omega) (by rw [c15]; rfl) (by decide) ?_
      refine r_aload_n 1 dX7_request_88 rfl rfl ?_
      refine r_getR (j := 0) dX7_request_89 sh_0 rfl kc_7 (by decide) lf_X7_22 ?_
      refine r_getR (j := 7) dX7_request_92 sh_1 rfl kc_4 (by decide) lf_X7_117 ?_
      refine r_iload_n 0 dX7_request_95 rfl rfl ?_
      obtain ⟨b16, h⟩ := h
      refine r_iald dX7_request_96 sh_6 b16.1 b16.2 ?_
      exact r_iret dX7_request_97 rfl ⟨_, rfl, h⟩
    replace h := h.2
    by_cases c17 : x2 = 2
    · replace h := h.1 c17
      refine r_tableIn (tgt := 98) dX7_request_17 (by omega) (by omega) (by rw [c17]; rfl) (by decide) ?_
      refine r_aload_n 1 dX7_request_98 rfl rfl ?_
      refine r_getR (j := 0) dX7_request_99 sh_0 rfl kc_7 (by decide) lf_X7_22 ?_
      refine r_getR (j := 6) dX7_request_102 sh_1 rfl kc_4 (by decide) lf_X7_99 ?_
      refine r_iload_n 2 dX7_request_105 rfl rfl ?_
      obtain ⟨b18, h⟩ := h
      refine r_iald dX7_request_106 sh_5 b18.1 b18.2 ?_
      exact r_iret dX7_request_107 rfl ⟨_, rfl, h⟩
    replace h := h.2
    by_cases c19 : x2 = 3
    · replace h := h.1 c19
      refine r_tableIn (tgt := 108) dX7_request_17 (by omega) (by omega) (by rw [c19]; rfl) (by decide) ?_
      refine r_aload_n 1 dX7_request_108 rfl rfl ?_
      refine r_getR (j := 0) dX7_request_109 sh_0 rfl kc_7 (by decide) lf_X7_22 ?_
      refine r_getR (j := 8) dX7_request_112 sh_1 rfl kc_4 (by decide) lf_X7_108 ?_
      refine r_iload_n 0 dX7_request_115 rfl rfl ?_
      obtain ⟨b20, h⟩ := h
      refine r_iald dX7_request_116 sh_7 b20.1 b20.2 ?_
      exact r_iret dX7_request_117 rfl ⟨_, rfl, h⟩
    replace h := h.2
    by_cases c21 : x2 = 4
    · replace h := h.1 c21
      refine r_tableIn (tgt := 118) dX7_request_17 (by omega) (by omega) (by rw [c21]; rfl) (by decide) ?_
      refine r_aload_n 1 dX7_request_118 rfl rfl ?_
      refine r_getR (j := 0) dX7_request_119 sh_0 rfl kc_7 (by decide) lf_X7_22 ?_
      refine r_getR (j := 9) dX7_request_122 sh_1 rfl kc_4 (by decide) lf_X7_111 ?_
      refine r_iload_n 0 dX7_request_125 rfl rfl ?_
      obtain ⟨b22, h⟩ := h
      refine r_iald dX7_request_126 sh_8 b22.1 b22.2 ?_
      exact r_iret dX7_request_127 rfl ⟨_, rfl, h⟩
    replace h := h.2
    by_cases c23 : x2 = 5
    · replace h := h.1 c23
      refine r_tableIn (tgt := 128) dX7_request_17 (by omega) (by omega) (by rw [c23]; rfl) (by decide) ?_
      refine r_aload_n 1 dX7_request_128 rfl rfl ?_
      refine r_getR (j := 0) dX7_request_129 sh_0 rfl kc_7 (by decide) lf_X7_22 ?_
      refine r_getR (j := 8) dX7_request_132 sh_1 rfl kc_4 (by decide) lf_X7_108 ?_
      refine r_iload_n 0 dX7_request_135 rfl rfl ?_
      refine r_iconst dX7_request_136 (by decide) ?_
      obtain ⟨b24, h⟩ := h
      refine r_iadd dX7_request_137 b24 ?_
      obtain ⟨b25, h⟩ := h
      refine r_iald dX7_request_138 sh_7 b25.1 b25.2 ?_
      exact r_iret dX7_request_139 rfl ⟨_, rfl, h⟩
    replace h := h.2
    by_cases c26 : x2 = 6
    · replace h := h.1 c26
      refine r_tableIn (tgt := 140) dX7_request_17 (by omega) (by omega) (by rw [c26]; rfl) (by decide) ?_
      refine r_aload_n 1 dX7_request_140 rfl rfl ?_
      refine r_getR (j := 0) dX7_request_141 sh_0 rfl kc_7 (by decide) lf_X7_22 ?_
      refine r_getR (j := 9) dX7_request_144 sh_1 rfl kc_4 (by decide) lf_X7_111 ?_
      refine r_iload_n 0 dX7_request_147 rfl rfl ?_
      refine r_iconst dX7_request_148 (by decide) ?_
      obtain ⟨b27, h⟩ := h
      refine r_iadd dX7_request_149 b27 ?_
      obtain ⟨b28, h⟩ := h
      refine r_iald dX7_request_150 sh_8 b28.1 b28.2 ?_
      exact r_iret dX7_request_151 rfl ⟨_, rfl, h⟩
    replace h := h.2
    by_cases c29 : x2 = 7
    · replace h := h.1 c29
      refine r_tableIn (tgt := 152) dX7_request_17 (by omega) (by omega) (by rw [c29]; rfl) (by decide) ?_
      refine r_aload_n 1 dX7_request_152 rfl rfl ?_
      refine r_getR (j := 0) dX7_request_153 sh_0 rfl kc_7 (by decide) lf_X7_22 ?_
      refine r_getR (j := 12) dX7_request_156 sh_1 rfl kc_4 (by decide) lf_X7_144 ?_
      refine r_iload_n 0 dX7_request_159 rfl rfl ?_
      obtain ⟨b30, h⟩ := h
      refine r_aald dX7_request_160 sh_11 (fun _ => rfl) rfl b30.1 (tv_at b30.1 b30.2) ?_
      refine r_iload_n 0 dX7_request_161 rfl rfl ?_
      refine r_iconst dX7_request_162 (by decide) ?_
      obtain ⟨b31, h⟩ := h
      refine r_iadd dX7_request_163 b31 ?_
      obtain ⟨b32, h⟩ := h
      refine r_iald dX7_request_164 (tv_sh b30.1 b30.2) b32.1 b32.2 ?_
      exact r_iret dX7_request_165 rfl ⟨_, rfl, h⟩
    replace h := h.2
    have o33 : x2 < 0 ∨ 7 < x2 := by omega
    replace h := h o33
    refine r_tableOut (tgt := 166) dX7_request_17 o33 (by decide) ?_
    refine r_sipush dX7_request_166 (by decide) (by decide) ?_
    exact r_iret dX7_request_169 rfl ⟨_, rfl, h⟩
set_option maxRecDepth 100000 in
set_option maxHeartbeats 4000000 in
theorem clX7_vehicle (l : Launch) (G : GT) (σ : Sto) (Q : Int → Sto → Prop) (x1 : Int) (x2 : Int)
    (h : CLi l G mX7_isVehicle [vR 0, vI x1] σ (fun r1 s2 => (r1 = 0 → Q (-1001) s2) ∧ (¬ (r1 = 0) → (0 ≤ x1 ∧ x1 < 4) ∧ (x2 = 0 → Q (s2 2 x1.toNat) s2) ∧ (x2 = 1 → Q (s2 3 x1.toNat) s2) ∧ (x2 = 2 → Q (s2 4 x1.toNat) s2) ∧ (x2 = 3 → Q (s2 (74 + 3 + x1.toNat) 2) s2) ∧ (x2 = 4 → CLi l G mX4_length [vR 1, vR (74 + 3 + x1.toNat)] s2 (fun r10 s11 => Q r10 s11)) ∧ (x2 = 5 → CLv l G mX6_lookAt [vR 40, vR (74 + 3 + x1.toNat)] s2 (fun s14 => Q (s14 40 4) s14)) ∧ (x2 = 6 → CLi l G mX3_requestsOf [vR 74, vI x1] s2 (fun r16 s17 => Q r16 s17)) ∧ (x2 < 0 ∨ 6 < x2 → Q (-1002) s2)))) :
    CLi l G mX7_vehicle [vR 0, vI x1, vI x2] σ Q := by
  show MWi l G mX7_vehicle 0 [(0, vR 0), (1, vI x1), (2, vI x2)] [] σ Q
  refine r_aload_n 0 dX7_vehicle_0 rfl rfl ?_
  refine r_iload_n 1 dX7_vehicle_1 rfl rfl ?_
  refine r_callV [vI x1] [] dX7_vehicle_2 okX7_isVehicle ivX7_isVehicle seX7_isVehicle lm_X7_148 rfl rfl sh_0 rfl ⟨Nat.le_of_ble_eq_true rfl, Nat.le_of_ble_eq_true rfl, Nat.le_of_ble_eq_true rfl, Nat.le_of_ble_eq_true rfl⟩ h ?_
  rintro _ s2 ⟨r1, rfl, h⟩
  refine r_if_ne (tgt := 12) dX7_vehicle_5 (by decide) (fun (c3 : r1 = 0) => ?_) (fun (c3 : ¬ (r1 = 0)) => ?_)
  · replace h := h.1 c3
    refine r_sipush dX7_vehicle_8 (by decide) (by decide) ?_
    exact r_iret dX7_vehicle_11 rfl ⟨_, rfl, h⟩
  · replace h := h.2 c3
    refine r_aload_n 0 dX7_vehicle_12 rfl rfl ?_
    refine r_getR (j := 1) dX7_vehicle_13 sh_0 rfl kc_7 (by decide) lf_X7_46 ?_
    refine r_getR (j := 0) dX7_vehicle_16 pl_74.1 rfl kc_3 (by decide) lf_X7_151 ?_
    refine r_iload_n 1 dX7_vehicle_19 rfl rfl ?_
    obtain ⟨b4, h⟩ := h
    refine r_aald dX7_vehicle_20 pl_74.2.1 (fun _ => rfl) rfl b4.1 (pl_at b4.1 b4.2) ?_
    refine r_astore_n dX7_vehicle_21 rfl (by decide) rfl ?_
    refine r_iload_n 3 dX7_vehicle_22 rfl rfl ?_
    by_cases c5 : x2 = 0
    · replace h := h.1 c5
      refine r_tableIn (tgt := 64) dX7_vehicle_23 (by omega) (by omega) (by rw [c5]; rfl) (by decide) ?_
      refine r_aload_n 1 dX7_vehicle_64 rfl rfl ?_
      refine r_getR (j := 0) dX7_vehicle_65 sh_0 rfl kc_7 (by decide) lf_X7_22 ?_
      refine r_getR (j := 3) dX7_vehicle_68 sh_1 rfl kc_4 (by decide) lf_X7_72 ?_
      refine r_iload_n 2 dX7_vehicle_71 rfl rfl ?_
      refine r_iald dX7_vehicle_72 sh_2 b4.1 b4.2 ?_
      exact r_iret dX7_vehicle_73 rfl ⟨_, rfl, h⟩
    replace h := h.2
    by_cases c6 : x2 = 1
    · replace h := h.1 c6
      refine r_tableIn (tgt := 74) dX7_vehicle_23 (by omega) (by omega) (by rw [c6]; rfl) (by decide) ?_
      refine r_aload_n 1 dX7_vehicle_74 rfl rfl ?_
      refine r_getR (j := 0) dX7_vehicle_75 sh_0 rfl kc_7 (by decide) lf_X7_22 ?_
      refine r_getR (j := 4) dX7_vehicle_78 sh_1 rfl kc_4 (by decide) lf_X7_76 ?_
      refine r_iload_n 2 dX7_vehicle_81 rfl rfl ?_
      refine r_iald dX7_vehicle_82 sh_3 b4.1 b4.2 ?_
      exact r_iret dX7_vehicle_83 rfl ⟨_, rfl, h⟩
    replace h := h.2
    by_cases c7 : x2 = 2
    · replace h := h.1 c7
      refine r_tableIn (tgt := 84) dX7_vehicle_23 (by omega) (by omega) (by rw [c7]; rfl) (by decide) ?_
      refine r_aload_n 1 dX7_vehicle_84 rfl rfl ?_
      refine r_getR (j := 0) dX7_vehicle_85 sh_0 rfl kc_7 (by decide) lf_X7_22 ?_
      refine r_getR (j := 5) dX7_vehicle_88 sh_1 rfl kc_4 (by decide) lf_X7_79 ?_
      refine r_iload_n 2 dX7_vehicle_91 rfl rfl ?_
      refine r_iald dX7_vehicle_92 sh_4 b4.1 b4.2 ?_
      exact r_iret dX7_vehicle_93 rfl ⟨_, rfl, h⟩
    replace h := h.2
    by_cases c8 : x2 = 3
    · replace h := h.1 c8
      refine r_tableIn (tgt := 94) dX7_vehicle_23 (by omega) (by omega) (by rw [c8]; rfl) (by decide) ?_
      refine r_aload_n 0 dX7_vehicle_94 rfl rfl ?_
      refine r_getI (j := 2) dX7_vehicle_95 (pl_rt pl_74 b4.1 b4.2).1 rfl kc_5 (by decide) lf_X7_155 ?_
      exact r_iret dX7_vehicle_98 rfl ⟨_, rfl, h⟩
    replace h := h.2
    by_cases c9 : x2 = 4
    · replace h := h.1 c9
      refine r_tableIn (tgt := 99) dX7_vehicle_23 (by omega) (by omega) (by rw [c9]; rfl) (by decide) ?_
      refine r_aload_n 1 dX7_vehicle_99 rfl rfl ?_
      refine r_getR (j := 0) dX7_vehicle_100 sh_0 rfl kc_7 (by decide) lf_X7_22 ?_
      refine r_aload_n 0 dX7_vehicle_103 rfl rfl ?_
      refine r_callV [vR (74 + 3 + x1.toNat)] [] dX7_vehicle_104 okX4_length ivX4_length seX4_length lm_X7_158 rfl rfl sh_1 rfl ⟨Nat.le_of_ble_eq_true rfl, Nat.le_of_ble_eq_true rfl, Nat.le_of_ble_eq_true rfl, Nat.le_of_ble_eq_true rfl⟩ h ?_
      rintro _ s11 ⟨r10, rfl, h⟩
      exact r_iret dX7_vehicle_107 rfl ⟨_, rfl, h⟩
    replace h := h.2
    by_cases c12 : x2 = 5
    · replace h := h.1 c12
      refine r_tableIn (tgt := 108) dX7_vehicle_23 (by omega) (by omega) (by rw [c12]; rfl) (by decide) ?_
      refine r_aload_n 1 dX7_vehicle_108 rfl rfl ?_
      refine r_getR (j := 3) dX7_vehicle_109 sh_0 rfl kc_7 (by decide) lf_X7_26 ?_
      refine r_aload_n 0 dX7_vehicle_112 rfl rfl ?_
      refine r_callV [vR (74 + 3 + x1.toNat)] [] dX7_vehicle_113 okX6_lookAt ivX6_lookAt seX6_lookAt lm_X7_162 rfl rfl sh_40 rfl ⟨Nat.le_of_ble_eq_true rfl, Nat.le_of_ble_eq_true rfl, Nat.le_of_ble_eq_true rfl, Nat.le_of_ble_eq_true rfl⟩ h ?_
      rintro _ s14 ⟨rfl, h⟩
      refine r_aload_n 1 dX7_vehicle_116 rfl rfl ?_
      refine r_getR (j := 3) dX7_vehicle_117 sh_0 rfl kc_7 (by decide) lf_X7_26 ?_
      refine r_getI (j := 4) dX7_vehicle_120 sh_40 rfl kc_6 (by decide) lf_X7_166 ?_
      exact r_iret dX7_vehicle_123 rfl ⟨_, rfl, h⟩
    replace h := h.2
    by_cases c15 : x2 = 6
    · replace h := h.1 c15
      refine r_tableIn (tgt := 124) dX7_vehicle_23 (by omega) (by omega) (by rw [c15]; rfl) (by decide) ?_
      refine r_aload_n 1 dX7_vehicle_124 rfl rfl ?_
      refine r_getR (j := 1) dX7_vehicle_125 sh_0 rfl kc_7 (by decide) lf_X7_46 ?_
      refine r_iload_n 2 dX7_vehicle_128 rfl rfl ?_
      refine r_callV [vI x1] [] dX7_vehicle_129 okX3_requestsOf ivX3_requestsOf seX3_requestsOf lm_X7_169 rfl rfl pl_74.1 rfl ⟨Nat.le_of_ble_eq_true rfl, Nat.le_of_ble_eq_true rfl, Nat.le_of_ble_eq_true rfl, Nat.le_of_ble_eq_true rfl⟩ h ?_
      rintro _ s17 ⟨r16, rfl, h⟩
      exact r_iret dX7_vehicle_132 rfl ⟨_, rfl, h⟩
    replace h := h.2
    have o18 : x2 < 0 ∨ 6 < x2 := by omega
    replace h := h o18
    refine r_tableOut (tgt := 133) dX7_vehicle_23 o18 (by decide) ?_
    refine r_sipush dX7_vehicle_133 (by decide) (by decide) ?_
    exact r_iret dX7_vehicle_136 rfl ⟨_, rfl, h⟩
set_option maxRecDepth 100000 in
set_option maxHeartbeats 4000000 in
theorem clX7_stop (l : Launch) (G : GT) (σ : Sto) (Q : Int → Sto → Prop) (x1 : Int) (x2 : Int) (x3 : Int)
    (h : CLi l G mX7_isVehicle [vR 0, vI x1] σ (fun r1 s2 => (r1 = 0 → Q (-1001) s2) ∧ (¬ (r1 = 0) → (0 ≤ x1 ∧ x1 < 4) ∧ (x2 < 0 → Q (-1001) s2) ∧ (¬ (x2 < 0) → (x2 < (s2 (74 + 3 + x1.toNat) 2) → (0 ≤ x2 ∧ x2 < 24) ∧ (x3 = 0 → (0 ≤ (s2 ((74 + 3 + x1.toNat) + 4) x2.toNat)) ∧ Q ((s2 ((74 + 3 + x1.toNat) + 4) x2.toNat) / 2) s2) ∧ (x3 = 1 → (0 ≤ (s2 ((74 + 3 + x1.toNat) + 4) x2.toNat)) ∧ Q ((s2 ((74 + 3 + x1.toNat) + 4) x2.toNat) % 2) s2) ∧ (x3 = 2 → CLi l G mX6_fits [vR 40, vR (74 + 3 + x1.toNat)] s2 (fun r13 s14 => Q (s14 41 x2.toNat) s14)) ∧ (x3 = 3 → CLv l G mX6_makeLatest [vR 40, vR (74 + 3 + x1.toNat)] s2 (fun s17 => Q (s17 42 x2.toNat) s17)) ∧ (x3 = 4 → CLv l G mX6_lookAt [vR 40, vR (74 + 3 + x1.toNat)] s2 (fun s20 => Q (s20 43 x2.toNat) s20)) ∧ (x3 = 5 → CLi l G mX6_fits [vR 40, vR (74 + 3 + x1.toNat)] s2 (fun r22 s23 => CLi l G mX6_waitBefore [vR 40, vI x2] s23 (fun r24 s25 => Q r24 s25))) ∧ (x3 < 0 ∨ 5 < x3 → Q (-1002) s2)) ∧ (¬ (x2 < (s2 (74 + 3 + x1.toNat) 2)) → Q (-1001) s2))))) :
    CLi l G mX7_stop [vR 0, vI x1, vI x2, vI x3] σ Q := by
  show MWi l G mX7_stop 0 [(0, vR 0), (1, vI x1), (2, vI x2), (3, vI x3)] [] σ Q
  refine r_aload_n 0 dX7_stop_0 rfl rfl ?_
  refine r_iload_n 1 dX7_stop_1 rfl rfl ?_
  refine r_callV [vI x1] [] dX7_stop_2 okX7_isVehicle ivX7_isVehicle seX7_isVehicle lm_X7_148 rfl rfl sh_0 rfl ⟨Nat.le_of_ble_eq_true rfl, Nat.le_of_ble_eq_true rfl, Nat.le_of_ble_eq_true rfl, Nat.le_of_ble_eq_true rfl⟩ h ?_
  rintro _ s2 ⟨r1, rfl, h⟩
  refine r_if_ne (tgt := 12) dX7_stop_5 (by decide) (fun (c3 : r1 = 0) => ?_) (fun (c3 : ¬ (r1 = 0)) => ?_)
  · replace h := h.1 c3
    refine r_sipush dX7_stop_8 (by decide) (by decide) ?_
    exact r_iret dX7_stop_11 rfl ⟨_, rfl, h⟩
  · replace h := h.2 c3
    refine r_aload_n 0 dX7_stop_12 rfl rfl ?_
    refine r_getR (j := 1) dX7_stop_13 sh_0 rfl kc_7 (by decide) lf_X7_46 ?_
    refine r_getR (j := 0) dX7_stop_16 pl_74.1 rfl kc_3 (by decide) lf_X7_151 ?_
    refine r_iload_n 1 dX7_stop_19 rfl rfl ?_
    obtain ⟨b4, h⟩ := h
    refine r_aald dX7_stop_20 pl_74.2.1 (fun _ => rfl) rfl b4.1 (pl_at b4.1 b4.2) ?_
    refine r_astore dX7_stop_21 (by decide) rfl ?_
    refine r_iload_n 3 dX7_stop_23 rfl rfl ?_
    refine r_if_lt (tgt := 36) dX7_stop_24 (by decide) (fun (c5 : x2 < 0) => ?_) (fun (c5 : ¬ (x2 < 0)) => ?_)
    · replace h := h.1 c5
      refine r_sipush dX7_stop_36 (by decide) (by decide) ?_
      exact r_iret dX7_stop_39 rfl ⟨_, rfl, h⟩
    · replace h := h.2 c5
      refine r_iload_n 3 dX7_stop_27 rfl rfl ?_
      refine r_aload 0 dX7_stop_28 rfl ?_
      refine r_getI (j := 2) dX7_stop_30 (pl_rt pl_74 b4.1 b4.2).1 rfl kc_5 (by decide) lf_X7_155 ?_
      refine r_icmp_lt (tgt := 40) dX7_stop_33 (by decide) (fun (c6 : x2 < (s2 (74 + 3 + x1.toNat) 2)) => ?_) (fun (c6 : ¬ (x2 < (s2 (74 + 3 + x1.toNat) 2))) => ?_)
      · replace h := h.1 c6
        refine r_aload 0 dX7_stop_40 rfl ?_
        refine r_getR (j := 3) dX7_stop_42 (pl_rt pl_74 b4.1 b4.2).1 rfl kc_5 (by decide) lf_X7_173 ?_
        refine r_iload_n 3 dX7_stop_45 rfl rfl ?_
        obtain ⟨b7, h⟩ := h
        refine r_iald dX7_stop_46 (pl_rt pl_74 b4.1 b4.2).2 b7.1 b7.2 ?_
        refine r_istore dX7_stop_47 (by decide) rfl ?_
        refine r_iload_n 5 dX7_stop_49 rfl rfl ?_
        by_cases c8 : x3 = 0
        · replace h := h.1 c8
          refine r_tableIn (tgt := 88) dX7_stop_50 (by omega) (by omega) (by rw [c8]; rfl) (by decide) ?_
          refine r_iload 0 dX7_stop_88 rfl ?_
          refine r_iconst dX7_stop_90 (by decide) ?_
          obtain ⟨b9, h⟩ := h
          refine r_idiv dX7_stop_91 b9 (by decide) ?_
          exact r_iret dX7_stop_92 rfl ⟨_, rfl, h⟩
        replace h := h.2
        by_cases c10 : x3 = 1
        · replace h := h.1 c10
          refine r_tableIn (tgt := 93) dX7_stop_50 (by omega) (by omega) (by rw [c10]; rfl) (by decide) ?_
          refine r_iload 0 dX7_stop_93 rfl ?_
          refine r_iconst dX7_stop_95 (by decide) ?_
          obtain ⟨b11, h⟩ := h
          refine r_irem dX7_stop_96 b11 (by decide) ?_
          exact r_iret dX7_stop_97 rfl ⟨_, rfl, h⟩
        replace h := h.2
        by_cases c12 : x3 = 2
        · replace h := h.1 c12
          refine r_tableIn (tgt := 98) dX7_stop_50 (by omega) (by omega) (by rw [c12]; rfl) (by decide) ?_
          refine r_aload_n 2 dX7_stop_98 rfl rfl ?_
          refine r_getR (j := 3) dX7_stop_99 sh_0 rfl kc_7 (by decide) lf_X7_26 ?_
          refine r_aload 1 dX7_stop_102 rfl ?_
          refine r_callV [vR (74 + 3 + x1.toNat)] [] dX7_stop_104 okX6_fits ivX6_fits seX6_fits lm_X7_176 rfl rfl sh_40 rfl ⟨Nat.le_of_ble_eq_true rfl, Nat.le_of_ble_eq_true rfl, Nat.le_of_ble_eq_true rfl, Nat.le_of_ble_eq_true rfl⟩ h ?_
          rintro _ s14 ⟨r13, rfl, h⟩
          refine r_pop dX7_stop_107 ?_
          refine r_aload_n 2 dX7_stop_108 rfl rfl ?_
          refine r_getR (j := 3) dX7_stop_109 sh_0 rfl kc_7 (by decide) lf_X7_26 ?_
          refine r_getR (j := 0) dX7_stop_112 sh_40 rfl kc_6 (by decide) lf_X7_180 ?_
          refine r_iload_n 4 dX7_stop_115 rfl rfl ?_
          refine r_iald dX7_stop_116 sh_41 b7.1 b7.2 ?_
          exact r_iret dX7_stop_117 rfl ⟨_, rfl, h⟩
        replace h := h.2
        by_cases c15 : x3 = 3
        · replace h := h.1 c15
          refine r_tableIn (tgt := 118) dX7_stop_50 (by omega) (by omega) (by rw [c15]; rfl) (by decide) ?_
          refine r_aload_n 2 dX7_stop_118 rfl rfl ?_
          refine r_getR (j := 3) dX7_stop_119 sh_0 rfl kc_7 (by decide) lf_X7_26 ?_
          refine r_aload 1 dX7_stop_122 rfl ?_
          refine r_callV [vR (74 + 3 + x1.toNat)] [] dX7_stop_124 okX6_makeLatest ivX6_makeLatest seX6_makeLatest lm_X7_183 rfl rfl sh_40 rfl ⟨Nat.le_of_ble_eq_true rfl, Nat.le_of_ble_eq_true rfl, Nat.le_of_ble_eq_true rfl, Nat.le_of_ble_eq_true rfl⟩ h ?_
          rintro _ s17 ⟨rfl, h⟩
          refine r_aload_n 2 dX7_stop_127 rfl rfl ?_
          refine r_getR (j := 3) dX7_stop_128 sh_0 rfl kc_7 (by decide) lf_X7_26 ?_
          refine r_getR (j := 1) dX7_stop_131 sh_40 rfl kc_6 (by decide) lf_X7_186 ?_
          refine r_iload_n 4 dX7_stop_134 rfl rfl ?_
          refine r_iald dX7_stop_135 sh_42 b7.1 b7.2 ?_
          exact r_iret dX7_stop_136 rfl ⟨_, rfl, h⟩
        replace h := h.2
        by_cases c18 : x3 = 4
        · replace h := h.1 c18
          refine r_tableIn (tgt := 137) dX7_stop_50 (by omega) (by omega) (by rw [c18]; rfl) (by decide) ?_
          refine r_aload_n 2 dX7_stop_137 rfl rfl ?_
          refine r_getR (j := 3) dX7_stop_138 sh_0 rfl kc_7 (by decide) lf_X7_26 ?_
          refine r_aload 1 dX7_stop_141 rfl ?_
          refine r_callV [vR (74 + 3 + x1.toNat)] [] dX7_stop_143 okX6_lookAt ivX6_lookAt seX6_lookAt lm_X7_162 rfl rfl sh_40 rfl ⟨Nat.le_of_ble_eq_true rfl, Nat.le_of_ble_eq_true rfl, Nat.le_of_ble_eq_true rfl, Nat.le_of_ble_eq_true rfl⟩ h ?_
          rintro _ s20 ⟨rfl, h⟩
          refine r_aload_n 2 dX7_stop_146 rfl rfl ?_
          refine r_getR (j := 3) dX7_stop_147 sh_0 rfl kc_7 (by decide) lf_X7_26 ?_
          refine r_getR (j := 2) dX7_stop_150 sh_40 rfl kc_6 (by decide) lf_X7_189 ?_
          refine r_iload_n 4 dX7_stop_153 rfl rfl ?_
          refine r_iald dX7_stop_154 sh_43 b7.1 b7.2 ?_
          exact r_iret dX7_stop_155 rfl ⟨_, rfl, h⟩
        replace h := h.2
        by_cases c21 : x3 = 5
        · replace h := h.1 c21
          refine r_tableIn (tgt := 156) dX7_stop_50 (by omega) (by omega) (by rw [c21]; rfl) (by decide) ?_
          refine r_aload_n 2 dX7_stop_156 rfl rfl ?_
          refine r_getR (j := 3) dX7_stop_157 sh_0 rfl kc_7 (by decide) lf_X7_26 ?_
          refine r_aload 1 dX7_stop_160 rfl ?_
          refine r_callV [vR (74 + 3 + x1.toNat)] [] dX7_stop_162 okX6_fits ivX6_fits seX6_fits lm_X7_176 rfl rfl sh_40 rfl ⟨Nat.le_of_ble_eq_true rfl, Nat.le_of_ble_eq_true rfl, Nat.le_of_ble_eq_true rfl, Nat.le_of_ble_eq_true rfl⟩ h ?_
          rintro _ s23 ⟨r22, rfl, h⟩
          refine r_pop dX7_stop_165 ?_
          refine r_aload_n 2 dX7_stop_166 rfl rfl ?_
          refine r_getR (j := 3) dX7_stop_167 sh_0 rfl kc_7 (by decide) lf_X7_26 ?_
          refine r_iload_n 4 dX7_stop_170 rfl rfl ?_
          refine r_callV [vI x2] [] dX7_stop_171 okX6_waitBefore ivX6_waitBefore seX6_waitBefore lm_X7_192 rfl rfl sh_40 rfl ⟨Nat.le_of_ble_eq_true rfl, Nat.le_of_ble_eq_true rfl, Nat.le_of_ble_eq_true rfl, Nat.le_of_ble_eq_true rfl⟩ h ?_
          rintro _ s25 ⟨r24, rfl, h⟩
          exact r_iret dX7_stop_174 rfl ⟨_, rfl, h⟩
        replace h := h.2
        have o26 : x3 < 0 ∨ 5 < x3 := by omega
        replace h := h o26
        refine r_tableOut (tgt := 175) dX7_stop_50 o26 (by decide) ?_
        refine r_sipush dX7_stop_175 (by decide) (by decide) ?_
        exact r_iret dX7_stop_178 rfl ⟨_, rfl, h⟩
      · replace h := h.2 c6
        refine r_sipush dX7_stop_36 (by decide) (by decide) ?_
        exact r_iret dX7_stop_39 rfl ⟨_, rfl, h⟩
set_option maxRecDepth 100000 in
set_option maxHeartbeats 4000000 in
theorem clX7_rideTime (l : Launch) (G : GT) (σ : Sto) (Q : Int → Sto → Prop) (x1 : Int) (x2 : Int)
    (h : CLi l G mX7_isRequest [vR 0, vI x1] σ (fun r1 s2 => (r1 = 0 → Q (-1001) s2) ∧ (¬ (r1 = 0) → CLi l G mX7_isOpen [vR 0, vI x1] s2 (fun r4 s5 => (r4 = 0 → (0 ≤ x1 ∧ x1 < 12) ∧ (0 ≤ (s5 (74 + 2) x1.toNat) ∧ (s5 (74 + 2) x1.toNat) < 4) ∧ (x2 = 0 → CLi l G mX6_fits [vR 40, vR (74 + 3 + (s5 (74 + 2) x1.toNat).toNat)] s5 (fun r10 s11 => CLi l G mX6_minutesAboard [vR 40, vR 41, vI x1] s11 (fun r12 s13 => Q r12 s13))) ∧ (¬ (x2 = 0) → CLv l G mX6_makeLatest [vR 40, vR (74 + 3 + (s5 (74 + 2) x1.toNat).toNat)] s5 (fun s15 => CLi l G mX6_minutesAboard [vR 40, vR 42, vI x1] s15 (fun r16 s17 => Q r16 s17)))) ∧ (¬ (r4 = 0) → Q (-1004) s5))))) :
    CLi l G mX7_rideTime [vR 0, vI x1, vI x2] σ Q := by
  show MWi l G mX7_rideTime 0 [(0, vR 0), (1, vI x1), (2, vI x2)] [] σ Q
  refine r_aload_n 0 dX7_rideTime_0 rfl rfl ?_
  refine r_iload_n 1 dX7_rideTime_1 rfl rfl ?_
  refine r_callV [vI x1] [] dX7_rideTime_2 okX7_isRequest ivX7_isRequest seX7_isRequest lm_X7_105 rfl rfl sh_0 rfl ⟨Nat.le_of_ble_eq_true rfl, Nat.le_of_ble_eq_true rfl, Nat.le_of_ble_eq_true rfl, Nat.le_of_ble_eq_true rfl⟩ h ?_
  rintro _ s2 ⟨r1, rfl, h⟩
  refine r_if_ne (tgt := 12) dX7_rideTime_5 (by decide) (fun (c3 : r1 = 0) => ?_) (fun (c3 : ¬ (r1 = 0)) => ?_)
  · replace h := h.1 c3
    refine r_sipush dX7_rideTime_8 (by decide) (by decide) ?_
    exact r_iret dX7_rideTime_11 rfl ⟨_, rfl, h⟩
  · replace h := h.2 c3
    refine r_aload_n 0 dX7_rideTime_12 rfl rfl ?_
    refine r_iload_n 1 dX7_rideTime_13 rfl rfl ?_
    refine r_callV [vI x1] [] dX7_rideTime_14 okX7_isOpen ivX7_isOpen seX7_isOpen lm_X7_138 rfl rfl sh_0 rfl ⟨Nat.le_of_ble_eq_true rfl, Nat.le_of_ble_eq_true rfl, Nat.le_of_ble_eq_true rfl, Nat.le_of_ble_eq_true rfl⟩ h ?_
    rintro _ s5 ⟨r4, rfl, h⟩
    refine r_if_eq (tgt := 24) dX7_rideTime_17 (by decide) (fun (c6 : r4 = 0) => ?_) (fun (c6 : ¬ (r4 = 0)) => ?_)
    · replace h := h.1 c6
      refine r_aload_n 0 dX7_rideTime_24 rfl rfl ?_
      refine r_getR (j := 1) dX7_rideTime_25 sh_0 rfl kc_7 (by decide) lf_X7_46 ?_
      refine r_getR (j := 0) dX7_rideTime_28 pl_74.1 rfl kc_3 (by decide) lf_X7_151 ?_
      refine r_aload_n 0 dX7_rideTime_31 rfl rfl ?_
      refine r_getR (j := 1) dX7_rideTime_32 sh_0 rfl kc_7 (by decide) lf_X7_46 ?_
      refine r_getR (j := 1) dX7_rideTime_35 pl_74.1 rfl kc_3 (by decide) lf_X7_141 ?_
      refine r_iload_n 1 dX7_rideTime_38 rfl rfl ?_
      obtain ⟨b7, h⟩ := h
      refine r_iald dX7_rideTime_39 pl_74.2.2.1 b7.1 b7.2 ?_
      obtain ⟨b8, h⟩ := h
      refine r_aald dX7_rideTime_40 pl_74.2.1 (fun _ => rfl) rfl b8.1 (pl_at b8.1 b8.2) ?_
      refine r_astore_n dX7_rideTime_41 rfl (by decide) rfl ?_
      refine r_iload_n 3 dX7_rideTime_42 rfl rfl ?_
      refine r_if_eq (tgt := 70) dX7_rideTime_43 (by decide) (fun (c9 : x2 = 0) => ?_) (fun (c9 : ¬ (x2 = 0)) => ?_)
      · replace h := h.1 c9
        refine r_aload_n 1 dX7_rideTime_70 rfl rfl ?_
        refine r_getR (j := 3) dX7_rideTime_71 sh_0 rfl kc_7 (by decide) lf_X7_26 ?_
        refine r_aload_n 0 dX7_rideTime_74 rfl rfl ?_
        refine r_callV [vR (74 + 3 + (s5 (74 + 2) x1.toNat).toNat)] [] dX7_rideTime_75 okX6_fits ivX6_fits seX6_fits lm_X7_176 rfl rfl sh_40 rfl ⟨Nat.le_of_ble_eq_true rfl, Nat.le_of_ble_eq_true rfl, Nat.le_of_ble_eq_true rfl, Nat.le_of_ble_eq_true rfl⟩ h ?_
        rintro _ s11 ⟨r10, rfl, h⟩
        refine r_pop dX7_rideTime_78 ?_
        refine r_aload_n 1 dX7_rideTime_79 rfl rfl ?_
        refine r_getR (j := 3) dX7_rideTime_80 sh_0 rfl kc_7 (by decide) lf_X7_26 ?_
        refine r_aload_n 1 dX7_rideTime_83 rfl rfl ?_
        refine r_getR (j := 3) dX7_rideTime_84 sh_0 rfl kc_7 (by decide) lf_X7_26 ?_
        refine r_getR (j := 0) dX7_rideTime_87 sh_40 rfl kc_6 (by decide) lf_X7_180 ?_
        refine r_iload_n 2 dX7_rideTime_90 rfl rfl ?_
        refine r_callV [vR 41, vI x1] [] dX7_rideTime_91 okX6_minutesAboard ivX6_minutesAboard seX6_minutesAboard lm_X7_195 rfl rfl sh_40 rfl ⟨Nat.le_of_ble_eq_true rfl, Nat.le_of_ble_eq_true rfl, Nat.le_of_ble_eq_true rfl, Nat.le_of_ble_eq_true rfl⟩ h ?_
        rintro _ s13 ⟨r12, rfl, h⟩
        exact r_iret dX7_rideTime_94 rfl ⟨_, rfl, h⟩
      · replace h := h.2 c9
        refine r_aload_n 1 dX7_rideTime_46 rfl rfl ?_
        refine r_getR (j := 3) dX7_rideTime_47 sh_0 rfl kc_7 (by decide) lf_X7_26 ?_
        refine r_aload_n 0 dX7_rideTime_50 rfl rfl ?_
        refine r_callV [vR (74 + 3 + (s5 (74 + 2) x1.toNat).toNat)] [] dX7_rideTime_51 okX6_makeLatest ivX6_makeLatest seX6_makeLatest lm_X7_183 rfl rfl sh_40 rfl ⟨Nat.le_of_ble_eq_true rfl, Nat.le_of_ble_eq_true rfl, Nat.le_of_ble_eq_true rfl, Nat.le_of_ble_eq_true rfl⟩ h ?_
        rintro _ s15 ⟨rfl, h⟩
        refine r_aload_n 1 dX7_rideTime_54 rfl rfl ?_
        refine r_getR (j := 3) dX7_rideTime_55 sh_0 rfl kc_7 (by decide) lf_X7_26 ?_
        refine r_aload_n 1 dX7_rideTime_58 rfl rfl ?_
        refine r_getR (j := 3) dX7_rideTime_59 sh_0 rfl kc_7 (by decide) lf_X7_26 ?_
        refine r_getR (j := 1) dX7_rideTime_62 sh_40 rfl kc_6 (by decide) lf_X7_186 ?_
        refine r_iload_n 2 dX7_rideTime_65 rfl rfl ?_
        refine r_callV [vR 42, vI x1] [] dX7_rideTime_66 okX6_minutesAboard ivX6_minutesAboard seX6_minutesAboard lm_X7_195 rfl rfl sh_40 rfl ⟨Nat.le_of_ble_eq_true rfl, Nat.le_of_ble_eq_true rfl, Nat.le_of_ble_eq_true rfl, Nat.le_of_ble_eq_true rfl⟩ h ?_
        rintro _ s17 ⟨r16, rfl, h⟩
        exact r_iret dX7_rideTime_69 rfl ⟨_, rfl, h⟩
    · replace h := h.2 c6
      refine r_sipush dX7_rideTime_20 (by decide) (by decide) ?_
      exact r_iret dX7_rideTime_23 rfl ⟨_, rfl, h⟩
set_option maxRecDepth 100000 in
set_option maxHeartbeats 4000000 in
theorem clX7_depotTime (l : Launch) (G : GT) (σ : Sto) (Q : Int → Sto → Prop) (x1 : Int) (x2 : Int)
    (h : CLi l G mX7_isVehicle [vR 0, vI x1] σ (fun r1 s2 => (r1 = 0 → Q (-1001) s2) ∧ (¬ (r1 = 0) → (0 ≤ x1 ∧ x1 < 4) ∧ ((s2 (74 + 3 + x1.toNat) 2) = 0 → Q (-1007) s2) ∧ (¬ ((s2 (74 + 3 + x1.toNat) 2) = 0) → (x2 = 0 → CLv l G mX6_makeLatest [vR 40, vR (74 + 3 + x1.toNat)] s2 (fun s8 => (-2147483648 ≤ (s8 42 0) - (s8 44 0) ∧ (s8 42 0) - (s8 44 0) ≤ 2147483647) ∧ Q ((s8 42 0) - (s8 44 0)) s8)) ∧ (¬ (x2 = 0) → CLi l G mX6_fits [vR 40, vR (74 + 3 + x1.toNat)] s2 (fun r10 s11 => (-2147483648 ≤ (s11 (74 + 3 + x1.toNat) 2) - 1 ∧ (s11 (74 + 3 + x1.toNat) 2) - 1 ≤ 2147483647) ∧ (0 ≤ ((s11 (74 + 3 + x1.toNat) 2) - 1) ∧ ((s11 (74 + 3 + x1.toNat) 2) - 1) < 24) ∧ (0 ≤ (s11 (74 + 3 + x1.toNat) 2) ∧ (s11 (74 + 3 + x1.toNat) 2) < 25) ∧ (-2147483648 ≤ (s11 41 ((s11 (74 + 3 + x1.toNat) 2) - 1).toNat) + (s11 44 (s11 (74 + 3 + x1.toNat) 2).toNat) ∧ (s11 41 ((s11 (74 + 3 + x1.toNat) 2) - 1).toNat) + (s11 44 (s11 (74 + 3 + x1.toNat) 2).toNat) ≤ 2147483647) ∧ Q ((s11 41 ((s11 (74 + 3 + x1.toNat) 2) - 1).toNat) + (s11 44 (s11 (74 + 3 + x1.toNat) 2).toNat)) s11)))))) :
    CLi l G mX7_depotTime [vR 0, vI x1, vI x2] σ Q := by
  show MWi l G mX7_depotTime 0 [(0, vR 0), (1, vI x1), (2, vI x2)] [] σ Q
  refine r_aload_n 0 dX7_depotTime_0 rfl rfl ?_
  refine r_iload_n 1 dX7_depotTime_1 rfl rfl ?_
  refine r_callV [vI x1] [] dX7_depotTime_2 okX7_isVehicle ivX7_isVehicle seX7_isVehicle lm_X7_148 rfl rfl sh_0 rfl ⟨Nat.le_of_ble_eq_true rfl, Nat.le_of_ble_eq_true rfl, Nat.le_of_ble_eq_true rfl, Nat.le_of_ble_eq_true rfl⟩ h ?_
  rintro _ s2 ⟨r1, rfl, h⟩
  refine r_if_ne (tgt := 12) dX7_depotTime_5 (by decide) (fun (c3 : r1 = 0) => ?_) (fun (c3 : ¬ (r1 = 0)) => ?_)
  · replace h := h.1 c3
    refine r_sipush dX7_depotTime_8 (by decide) (by decide) ?_
    exact r_iret dX7_depotTime_11 rfl ⟨_, rfl, h⟩
  · replace h := h.2 c3
    refine r_aload_n 0 dX7_depotTime_12 rfl rfl ?_
    refine r_getR (j := 1) dX7_depotTime_13 sh_0 rfl kc_7 (by decide) lf_X7_46 ?_
    refine r_getR (j := 0) dX7_depotTime_16 pl_74.1 rfl kc_3 (by decide) lf_X7_151 ?_
    refine r_iload_n 1 dX7_depotTime_19 rfl rfl ?_
    obtain ⟨b4, h⟩ := h
    refine r_aald dX7_depotTime_20 pl_74.2.1 (fun _ => rfl) rfl b4.1 (pl_at b4.1 b4.2) ?_
    refine r_astore_n dX7_depotTime_21 rfl (by decide) rfl ?_
    refine r_aload_n 0 dX7_depotTime_22 rfl rfl ?_
    refine r_getI (j := 2) dX7_depotTime_23 (pl_rt pl_74 b4.1 b4.2).1 rfl kc_5 (by decide) lf_X7_155 ?_
    refine r_if_ne (tgt := 33) dX7_depotTime_26 (by decide) (fun (c5 : (s2 (74 + 3 + x1.toNat) 2) = 0) => ?_) (fun (c5 : ¬ ((s2 (74 + 3 + x1.toNat) 2) = 0)) => ?_)
    · replace h := h.1 c5
      refine r_sipush dX7_depotTime_29 (by decide) (by decide) ?_
      exact r_iret dX7_depotTime_32 rfl ⟨_, rfl, h⟩
    · replace h := h.2 c5
      refine r_iload_n 3 dX7_depotTime_33 rfl rfl ?_
      refine r_if_eq (tgt := 74) dX7_depotTime_34 (by decide) (fun (c6 : x2 = 0) => ?_) (fun (c6 : ¬ (x2 = 0)) => ?_)
      · replace h := h.1 c6
        refine r_aload_n 1 dX7_depotTime_74 rfl rfl ?_
        refine r_getR (j := 3) dX7_depotTime_75 sh_0 rfl kc_7 (by decide) lf_X7_26 ?_
        refine r_aload_n 0 dX7_depotTime_78 rfl rfl ?_
        refine r_callV [vR (74 + 3 + x1.toNat)] [] dX7_depotTime_79 okX6_makeLatest ivX6_makeLatest seX6_makeLatest lm_X7_183 rfl rfl sh_40 rfl ⟨Nat.le_of_ble_eq_true rfl, Nat.le_of_ble_eq_true rfl, Nat.le_of_ble_eq_true rfl, Nat.le_of_ble_eq_true rfl⟩ h ?_
        rintro _ s8 ⟨rfl, h⟩
        refine r_aload_n 1 dX7_depotTime_82 rfl rfl ?_
        refine r_getR (j := 3) dX7_depotTime_83 sh_0 rfl kc_7 (by decide) lf_X7_26 ?_
        refine r_getR (j := 1) dX7_depotTime_86 sh_40 rfl kc_6 (by decide) lf_X7_186 ?_
        refine r_iconst dX7_depotTime_89 (by decide) ?_
        refine r_iald dX7_depotTime_90 sh_42 (by decide) (by decide) ?_
        refine r_aload_n 1 dX7_depotTime_91 rfl rfl ?_
        refine r_getR (j := 3) dX7_depotTime_92 sh_0 rfl kc_7 (by decide) lf_X7_26 ?_
        refine r_getR (j := 3) dX7_depotTime_95 sh_40 rfl kc_6 (by decide) lf_X7_199 ?_
        refine r_iconst dX7_depotTime_98 (by decide) ?_
        refine r_iald dX7_depotTime_99 sh_44 (by decide) (by decide) ?_
        obtain ⟨b9, h⟩ := h
        refine r_isub dX7_depotTime_100 b9 ?_
        exact r_iret dX7_depotTime_101 rfl ⟨_, rfl, h⟩
      · replace h := h.2 c6
        refine r_aload_n 1 dX7_depotTime_37 rfl rfl ?_
        refine r_getR (j := 3) dX7_depotTime_38 sh_0 rfl kc_7 (by decide) lf_X7_26 ?_
        refine r_aload_n 0 dX7_depotTime_41 rfl rfl ?_
        refine r_callV [vR (74 + 3 + x1.toNat)] [] dX7_depotTime_42 okX6_fits ivX6_fits seX6_fits lm_X7_176 rfl rfl sh_40 rfl ⟨Nat.le_of_ble_eq_true rfl, Nat.le_of_ble_eq_true rfl, Nat.le_of_ble_eq_true rfl, Nat.le_of_ble_eq_true rfl⟩ h ?_
        rintro _ s11 ⟨r10, rfl, h⟩
        refine r_pop dX7_depotTime_45 ?_
        refine r_aload_n 1 dX7_depotTime_46 rfl rfl ?_
        refine r_getR (j := 3) dX7_depotTime_47 sh_0 rfl kc_7 (by decide) lf_X7_26 ?_
        refine r_getR (j := 0) dX7_depotTime_50 sh_40 rfl kc_6 (by decide) lf_X7_180 ?_
        refine r_aload_n 0 dX7_depotTime_53 rfl rfl ?_
        refine r_getI (j := 2) dX7_depotTime_54 (pl_rt pl_74 b4.1 b4.2).1 rfl kc_5 (by decide) lf_X7_155 ?_
        refine r_iconst dX7_depotTime_57 (by decide) ?_
        obtain ⟨b12, h⟩ := h
        refine r_isub dX7_depotTime_58 b12 ?_
        obtain ⟨b13, h⟩ := h
        refine r_iald dX7_depotTime_59 sh_41 b13.1 b13.2 ?_
        refine r_aload_n 1 dX7_depotTime_60 rfl rfl ?_
        refine r_getR (j := 3) dX7_depotTime_61 sh_0 rfl kc_7 (by decide) lf_X7_26 ?_
        refine r_getR (j := 3) dX7_depotTime_64 sh_40 rfl kc_6 (by decide) lf_X7_199 ?_
        refine r_aload_n 0 dX7_depotTime_67 rfl rfl ?_
        refine r_getI (j := 2) dX7_depotTime_68 (pl_rt pl_74 b4.1 b4.2).1 rfl kc_5 (by decide) lf_X7_155 ?_
        obtain ⟨b14, h⟩ := h
        refine r_iald dX7_depotTime_71 sh_44 b14.1 b14.2 ?_
        obtain ⟨b15, h⟩ := h
        refine r_iadd dX7_depotTime_72 b15 ?_
        exact r_iret dX7_depotTime_73 rfl ⟨_, rfl, h⟩
set_option maxRecDepth 100000 in
set_option maxHeartbeats 4000000 in
theorem clX7_cost (l : Launch) (G : GT) (σ : Sto) (Q : Int → Sto → Prop) (x1 : Int) (x2 : Int) (x3 : Int) (x4 : Int)
    (h : CLi l G mX7_insertionError [vR 0, vI x1, vI x2, vI x3, vI x4] σ (fun r1 s2 => (r1 = 0 → (0 ≤ x2 ∧ x2 < 4) ∧ CLi l G mX4_addedLength [vR 1, vR (74 + 3 + x2.toNat), vI x1, vI x3, vI x4] s2 (fun r5 s6 => Q r5 s6)) ∧ (¬ (r1 = 0) → Q r1 s2))) :
    CLi l G mX7_cost [vR 0, vI x1, vI x2, vI x3, vI x4] σ Q := by
  show MWi l G mX7_cost 0 [(0, vR 0), (1, vI x1), (2, vI x2), (3, vI x3), (4, vI x4)] [] σ Q
  refine r_aload_n 0 dX7_cost_0 rfl rfl ?_
  refine r_iload_n 1 dX7_cost_1 rfl rfl ?_
  refine r_iload_n 2 dX7_cost_2 rfl rfl ?_
  refine r_iload_n 3 dX7_cost_3 rfl rfl ?_
  refine r_iload 4 dX7_cost_4 rfl ?_
  refine r_callV [vI x1, vI x2, vI x3, vI x4] [] dX7_cost_6 okX7_insertionError ivX7_insertionError seX7_insertionError lm_X7_202 rfl rfl sh_0 rfl ⟨Nat.le_of_ble_eq_true rfl, Nat.le_of_ble_eq_true rfl, Nat.le_of_ble_eq_true rfl, Nat.le_of_ble_eq_true rfl⟩ h ?_
  rintro _ s2 ⟨r1, rfl, h⟩
  refine r_istore dX7_cost_9 (by decide) rfl ?_
  refine r_iload 0 dX7_cost_11 rfl ?_
  refine r_if_eq (tgt := 19) dX7_cost_13 (by decide) (fun (c3 : r1 = 0) => ?_) (fun (c3 : ¬ (r1 = 0)) => ?_)
  · replace h := h.1 c3
    refine r_aload_n 1 dX7_cost_19 rfl rfl ?_
    refine r_getR (j := 0) dX7_cost_20 sh_0 rfl kc_7 (by decide) lf_X7_22 ?_
    refine r_aload_n 1 dX7_cost_23 rfl rfl ?_
    refine r_getR (j := 1) dX7_cost_24 sh_0 rfl kc_7 (by decide) lf_X7_46 ?_
    refine r_getR (j := 0) dX7_cost_27 pl_74.1 rfl kc_3 (by decide) lf_X7_151 ?_
    refine r_iload_n 3 dX7_cost_30 rfl rfl ?_
    obtain ⟨b4, h⟩ := h
    refine r_aald dX7_cost_31 pl_74.2.1 (fun _ => rfl) rfl b4.1 (pl_at b4.1 b4.2) ?_
    refine r_iload_n 2 dX7_cost_32 rfl rfl ?_
    refine r_iload_n 4 dX7_cost_33 rfl rfl ?_
    refine r_iload 5 dX7_cost_34 rfl ?_
    refine r_callV [vR (74 + 3 + x2.toNat), vI x1, vI x3, vI x4] [] dX7_cost_36 okX4_addedLength ivX4_addedLength seX4_addedLength lm_X7_206 rfl rfl sh_1 rfl ⟨Nat.le_of_ble_eq_true rfl, Nat.le_of_ble_eq_true rfl, Nat.le_of_ble_eq_true rfl, Nat.le_of_ble_eq_true rfl⟩ h ?_
    rintro _ s6 ⟨r5, rfl, h⟩
    exact r_iret dX7_cost_39 rfl ⟨_, rfl, h⟩
  · replace h := h.2 c3
    refine r_iload 0 dX7_cost_16 rfl ?_
    exact r_iret dX7_cost_18 rfl ⟨_, rfl, h⟩
set_option maxRecDepth 100000 in
set_option maxHeartbeats 4000000 in
theorem clX7_insert (l : Launch) (G : GT) (σ : Sto) (Q : Int → Sto → Prop) (x1 : Int) (x2 : Int) (x3 : Int) (x4 : Int)
    (h : CLi l G mX7_insertionError [vR 0, vI x1, vI x2, vI x3, vI x4] σ (fun r1 s2 => (r1 = 0 → (0 ≤ x2 ∧ x2 < 4) ∧ CLi l G mX4_addedLength [vR 1, vR (74 + 3 + x2.toNat), vI x1, vI x3, vI x4] s2 (fun r5 s6 => CLv l G mX0_record [vR 53, vR 74] s6 (fun s8 => CLv l G mX3_put [vR 74, vI x1, vI x2, vI x3, vI x4] s8 (fun s10 => Q r5 s10)))) ∧ (¬ (r1 = 0) → Q r1 s2))) :
    CLi l G mX7_insert [vR 0, vI x1, vI x2, vI x3, vI x4] σ Q := by
  show MWi l G mX7_insert 0 [(0, vR 0), (1, vI x1), (2, vI x2), (3, vI x3), (4, vI x4)] [] σ Q
  refine r_aload_n 0 dX7_insert_0 rfl rfl ?_
  refine r_iload_n 1 dX7_insert_1 rfl rfl ?_
  refine r_iload_n 2 dX7_insert_2 rfl rfl ?_
  refine r_iload_n 3 dX7_insert_3 rfl rfl ?_
  refine r_iload 4 dX7_insert_4 rfl ?_
  refine r_callV [vI x1, vI x2, vI x3, vI x4] [] dX7_insert_6 okX7_insertionError ivX7_insertionError seX7_insertionError lm_X7_202 rfl rfl sh_0 rfl ⟨Nat.le_of_ble_eq_true rfl, Nat.le_of_ble_eq_true rfl, Nat.le_of_ble_eq_true rfl, Nat.le_of_ble_eq_true rfl⟩ h ?_
  rintro _ s2 ⟨r1, rfl, h⟩
  refine r_istore dX7_insert_9 (by decide) rfl ?_
  refine r_iload 0 dX7_insert_11 rfl ?_
  refine r_if_eq (tgt := 19) dX7_insert_13 (by decide) (fun (c3 : r1 = 0) => ?_) (fun (c3 : ¬ (r1 = 0)) => ?_)
  · replace h := h.1 c3
    refine r_aload_n 1 dX7_insert_19 rfl rfl ?_
    refine r_getR (j := 0) dX7_insert_20 sh_0 rfl kc_7 (by decide) lf_X7_22 ?_
    refine r_aload_n 1 dX7_insert_23 rfl rfl ?_
    refine r_getR (j := 1) dX7_insert_24 sh_0 rfl kc_7 (by decide) lf_X7_46 ?_
    refine r_getR (j := 0) dX7_insert_27 pl_74.1 rfl kc_3 (by decide) lf_X7_151 ?_
    refine r_iload_n 3 dX7_insert_30 rfl rfl ?_
    obtain ⟨b4, h⟩ := h
    refine r_aald dX7_insert_31 pl_74.2.1 (fun _ => rfl) rfl b4.1 (pl_at b4.1 b4.2) ?_
    refine r_iload_n 2 dX7_insert_32 rfl rfl ?_
    refine r_iload_n 4 dX7_insert_33 rfl rfl ?_
    refine r_iload 5 dX7_insert_34 rfl ?_
    refine r_callV [vR (74 + 3 + x2.toNat), vI x1, vI x3, vI x4] [] dX7_insert_36 okX4_addedLength ivX4_addedLength seX4_addedLength lm_X7_206 rfl rfl sh_1 rfl ⟨Nat.le_of_ble_eq_true rfl, Nat.le_of_ble_eq_true rfl, Nat.le_of_ble_eq_true rfl, Nat.le_of_ble_eq_true rfl⟩ h ?_
    rintro _ s6 ⟨r5, rfl, h⟩
    refine r_istore dX7_insert_39 (by decide) rfl ?_
    refine r_aload_n 2 dX7_insert_41 rfl rfl ?_
    refine r_getR (j := 2) dX7_insert_42 sh_0 rfl kc_7 (by decide) lf_X7_53 ?_
    refine r_aload_n 2 dX7_insert_45 rfl rfl ?_
    refine r_getR (j := 1) dX7_insert_46 sh_0 rfl kc_7 (by decide) lf_X7_46 ?_
    refine r_callV [vR 74] [] dX7_insert_49 okX0_record ivX0_record seX0_record lm_X7_210 rfl rfl sh_53 rfl ⟨Nat.le_of_ble_eq_true rfl, Nat.le_of_ble_eq_true rfl, Nat.le_of_ble_eq_true rfl, Nat.le_of_ble_eq_true rfl⟩ h ?_
    rintro _ s8 ⟨rfl, h⟩
    refine r_aload_n 2 dX7_insert_52 rfl rfl ?_
    refine r_getR (j := 1) dX7_insert_53 sh_0 rfl kc_7 (by decide) lf_X7_46 ?_
    refine r_iload_n 3 dX7_insert_56 rfl rfl ?_
    refine r_iload_n 4 dX7_insert_57 rfl rfl ?_
    refine r_iload_n 5 dX7_insert_58 rfl rfl ?_
    refine r_iload 6 dX7_insert_59 rfl ?_
    refine r_callV [vI x1, vI x2, vI x3, vI x4] [] dX7_insert_61 okX3_put ivX3_put seX3_put lm_X7_214 rfl rfl pl_74.1 rfl ⟨Nat.le_of_ble_eq_true rfl, Nat.le_of_ble_eq_true rfl, Nat.le_of_ble_eq_true rfl, Nat.le_of_ble_eq_true rfl⟩ h ?_
    rintro _ s10 ⟨rfl, h⟩
    refine r_iload 0 dX7_insert_64 rfl ?_
    exact r_iret dX7_insert_66 rfl ⟨_, rfl, h⟩
  · replace h := h.2 c3
    refine r_iload 0 dX7_insert_16 rfl ?_
    exact r_iret dX7_insert_18 rfl ⟨_, rfl, h⟩
set_option maxRecDepth 100000 in
set_option maxHeartbeats 4000000 in
theorem clX7_best (l : Launch) (G : GT) (σ : Sto) (Q : Int → Sto → Prop) (x1 : Int) (x2 : Int)
    (h : CLi l G mX7_openRequestError_ [vR 0, vI x1, vI x2] σ (fun r1 s2 => (r1 = 0 → CLv l G mX1_startOver [vR 50] s2 (fun s5 => (0 ≤ x2 ∧ x2 < 4) ∧ CLv l G mX1_tryRoute [vR 50, vR (74 + 3 + x2.toNat), vI x1] s5 (fun s8 => ((¬ ((s8 50 0) = 0) → (-2147483648 ≤ 100 * (s8 50 3) ∧ 100 * (s8 50 3) ≤ 2147483647) ∧ (-2147483648 ≤ (100 * (s8 50 3)) + (s8 50 4) ∧ (100 * (s8 50 3)) + (s8 50 4) ≤ 2147483647) ∧ True)) ∧ ∀ y13 : Int, y13 = (if (s8 50 0) = 0 then (-1007) else ((100 * (s8 50 3)) + (s8 50 4))) → Q y13 s8))) ∧ (¬ (r1 = 0) → Q r1 s2))) :
    CLi l G mX7_best [vR 0, vI x1, vI x2] σ Q := by
  show MWi l G mX7_best 0 [(0, vR 0), (1, vI x1), (2, vI x2)] [] σ Q
  refine r_aload_n 0 dX7_best_0 rfl rfl ?_
  refine r_iload_n 1 dX7_best_1 rfl rfl ?_
  refine r_iload_n 2 dX7_best_2 rfl rfl ?_
  refine r_callV [vI x1, vI x2] [] dX7_best_3 okX7_openRequestError_ ivX7_openRequestError_ seX7_openRequestError_ lm_X7_218 rfl rfl sh_0 rfl ⟨Nat.le_of_ble_eq_true rfl, Nat.le_of_ble_eq_true rfl, Nat.le_of_ble_eq_true rfl, Nat.le_of_ble_eq_true rfl⟩ h ?_
  rintro _ s2 ⟨r1, rfl, h⟩
  refine r_istore_n dX7_best_6 rfl (by decide) rfl ?_
  refine r_iload_n 0 dX7_best_7 rfl rfl ?_
  refine r_if_eq (tgt := 13) dX7_best_8 (by decide) (fun (c3 : r1 = 0) => ?_) (fun (c3 : ¬ (r1 = 0)) => ?_)
  · replace h := h.1 c3
    refine r_aload_n 1 dX7_best_13 rfl rfl ?_
    refine r_getR (j := 4) dX7_best_14 sh_0 rfl kc_7 (by decide) lf_X7_30 ?_
    refine r_callV [] [] dX7_best_17 okX1_startOver ivX1_startOver seX1_startOver lm_X7_222 rfl rfl sh_50 rfl ⟨Nat.le_of_ble_eq_true rfl, Nat.le_of_ble_eq_true rfl, Nat.le_of_ble_eq_true rfl, Nat.le_of_ble_eq_true rfl⟩ h ?_
    rintro _ s5 ⟨rfl, h⟩
    refine r_aload_n 1 dX7_best_20 rfl rfl ?_
    refine r_getR (j := 4) dX7_best_21 sh_0 rfl kc_7 (by decide) lf_X7_30 ?_
    refine r_aload_n 1 dX7_best_24 rfl rfl ?_
    refine r_getR (j := 1) dX7_best_25 sh_0 rfl kc_7 (by decide) lf_X7_46 ?_
    refine r_getR (j := 0) dX7_best_28 pl_74.1 rfl kc_3 (by decide) lf_X7_151 ?_
    refine r_iload_n 3 dX7_best_31 rfl rfl ?_
    obtain ⟨b6, h⟩ := h
    refine r_aald dX7_best_32 pl_74.2.1 (fun _ => rfl) rfl b6.1 (pl_at b6.1 b6.2) ?_
    refine r_iload_n 2 dX7_best_33 rfl rfl ?_
    refine r_callV [vR (74 + 3 + x2.toNat), vI x1] [] dX7_best_34 okX1_tryRoute ivX1_tryRoute seX1_tryRoute lm_X7_225 rfl rfl sh_50 rfl ⟨Nat.le_of_ble_eq_true rfl, Nat.le_of_ble_eq_true rfl, Nat.le_of_ble_eq_true rfl, Nat.le_of_ble_eq_true rfl⟩ h ?_
    rintro _ s8 ⟨rfl, h⟩
    refine r_aload_n 1 dX7_best_37 rfl rfl ?_
    refine r_getR (j := 4) dX7_best_38 sh_0 rfl kc_7 (by decide) lf_X7_30 ?_
    refine r_getI (j := 0) dX7_best_41 sh_50 rfl kc_1 (by decide) lf_X7_229 ?_
    obtain ⟨q12, h⟩ := h
    obtain ⟨y13, ey13⟩ : ∃ z : Int, z = (if (s8 50 0) = 0 then (-1007) else ((100 * (s8 50 3)) + (s8 50 4))) := ⟨_, rfl⟩
    replace h := h y13 ey13
    have hj14 : MWi l G mX7_best 71 [] [vI y13] s8 Q := by
      exact r_iret dX7_best_71 rfl ⟨_, rfl, h⟩
    replace h := q12
    refine r_if_eq (tgt := 68) dX7_best_44 (by decide) (fun (c9 : (s8 50 0) = 0) => ?_) (fun (c9 : ¬ ((s8 50 0) = 0)) => ?_)
    · refine r_sipush dX7_best_68 (by decide) (by decide) ?_
      refine MWF.sub [] rfl ?_
      have q15 : y13 = (-1007) := by rw [ey13, if_pos c9]
      rw [q15] at hj14
      exact hj14
    · replace h := h c9
      refine r_bipush dX7_best_47 (by decide) (by decide) ?_
      refine r_aload_n 1 dX7_best_49 rfl rfl ?_
      refine r_getR (j := 4) dX7_best_50 sh_0 rfl kc_7 (by decide) lf_X7_30 ?_
      refine r_getI (j := 3) dX7_best_53 sh_50 rfl kc_1 (by decide) lf_X7_233 ?_
      obtain ⟨b10, h⟩ := h
      refine r_imul dX7_best_56 b10 ?_
      refine r_aload_n 1 dX7_best_57 rfl rfl ?_
      refine r_getR (j := 4) dX7_best_58 sh_0 rfl kc_7 (by decide) lf_X7_30 ?_
      refine r_getI (j := 4) dX7_best_61 sh_50 rfl kc_1 (by decide) lf_X7_236 ?_
      obtain ⟨b11, h⟩ := h
      refine r_iadd dX7_best_64 b11 ?_
      refine r_goto (tgt := 71) dX7_best_65 (by decide) ?_
      refine MWF.sub [] rfl ?_
      have q16 : y13 = ((100 * (s8 50 3)) + (s8 50 4)) := by rw [ey13, if_neg c9]
      rw [q16] at hj14
      exact hj14
  · replace h := h.2 c3
    refine r_iload_n 0 dX7_best_11 rfl rfl ?_
    exact r_iret dX7_best_12 rfl ⟨_, rfl, h⟩
set_option maxRecDepth 100000 in
set_option maxHeartbeats 4000000 in
theorem clX7_assignTo (l : Launch) (G : GT) (σ : Sto) (Q : Int → Sto → Prop) (x1 : Int) (x2 : Int)
    (h : CLi l G mX7_openRequestError_ [vR 0, vI x1, vI x2] σ (fun r1 s2 => (r1 = 0 → CLv l G mX1_startOver [vR 50] s2 (fun s5 => (0 ≤ x2 ∧ x2 < 4) ∧ CLv l G mX1_tryRoute [vR 50, vR (74 + 3 + x2.toNat), vI x1] s5 (fun s8 => CLi l G mX7_carryOutInsertion [vR 0, vI x1] s8 (fun r9 s10 => ∀ y12 : Int, y12 = (if r9 = 0 then (-1005) else (s10 50 1)) → Q y12 s10)))) ∧ (¬ (r1 = 0) → Q r1 s2))) :
    CLi l G mX7_assignTo [vR 0, vI x1, vI x2] σ Q := by
  show MWi l G mX7_assignTo 0 [(0, vR 0), (1, vI x1), (2, vI x2)] [] σ Q
  refine r_aload_n 0 dX7_assignTo_0 rfl rfl ?_
  refine r_iload_n 1 dX7_assignTo_1 rfl rfl ?_
  refine r_iload_n 2 dX7_assignTo_2 rfl rfl ?_
  refine r_callV [vI x1, vI x2] [] dX7_assignTo_3 okX7_openRequestError_ ivX7_openRequestError_ seX7_openRequestError_ lm_X7_218 rfl rfl sh_0 rfl ⟨Nat.le_of_ble_eq_true rfl, Nat.le_of_ble_eq_true rfl, Nat.le_of_ble_eq_true rfl, Nat.le_of_ble_eq_true rfl⟩ h ?_
  rintro _ s2 ⟨r1, rfl, h⟩
  refine r_istore_n dX7_assignTo_6 rfl (by decide) rfl ?_
  refine r_iload_n 0 dX7_assignTo_7 rfl rfl ?_
  refine r_if_eq (tgt := 13) dX7_assignTo_8 (by decide) (fun (c3 : r1 = 0) => ?_) (fun (c3 : ¬ (r1 = 0)) => ?_)
  · replace h := h.1 c3
    refine r_aload_n 1 dX7_assignTo_13 rfl rfl ?_
    refine r_getR (j := 4) dX7_assignTo_14 sh_0 rfl kc_7 (by decide) lf_X7_30 ?_
    refine r_callV [] [] dX7_assignTo_17 okX1_startOver ivX1_startOver seX1_startOver lm_X7_222 rfl rfl sh_50 rfl ⟨Nat.le_of_ble_eq_true rfl, Nat.le_of_ble_eq_true rfl, Nat.le_of_ble_eq_true rfl, Nat.le_of_ble_eq_true rfl⟩ h ?_
    rintro _ s5 ⟨rfl, h⟩
    refine r_aload_n 1 dX7_assignTo_20 rfl rfl ?_
    refine r_getR (j := 4) dX7_assignTo_21 sh_0 rfl kc_7 (by decide) lf_X7_30 ?_
    refine r_aload_n 1 dX7_assignTo_24 rfl rfl ?_
    refine r_getR (j := 1) dX7_assignTo_25 sh_0 rfl kc_7 (by decide) lf_X7_46 ?_
    refine r_getR (j := 0) dX7_assignTo_28 pl_74.1 rfl kc_3 (by decide) lf_X7_151 ?_
    refine r_iload_n 3 dX7_assignTo_31 rfl rfl ?_
    obtain ⟨b6, h⟩ := h
    refine r_aald dX7_assignTo_32 pl_74.2.1 (fun _ => rfl) rfl b6.1 (pl_at b6.1 b6.2) ?_
    refine r_iload_n 2 dX7_assignTo_33 rfl rfl ?_
    refine r_callV [vR (74 + 3 + x2.toNat), vI x1] [] dX7_assignTo_34 okX1_tryRoute ivX1_tryRoute seX1_tryRoute lm_X7_225 rfl rfl sh_50 rfl ⟨Nat.le_of_ble_eq_true rfl, Nat.le_of_ble_eq_true rfl, Nat.le_of_ble_eq_true rfl, Nat.le_of_ble_eq_true rfl⟩ h ?_
    rintro _ s8 ⟨rfl, h⟩
    refine r_aload_n 1 dX7_assignTo_37 rfl rfl ?_
    refine r_iload_n 2 dX7_assignTo_38 rfl rfl ?_
    refine r_callV [vI x1] [] dX7_assignTo_39 okX7_carryOutInsertion ivX7_carryOutInsertion seX7_carryOutInsertion lm_X7_239 rfl rfl sh_0 rfl ⟨Nat.le_of_ble_eq_true rfl, Nat.le_of_ble_eq_true rfl, Nat.le_of_ble_eq_true rfl, Nat.le_of_ble_eq_true rfl⟩ h ?_
    rintro _ s10 ⟨r9, rfl, h⟩
    obtain ⟨y12, ey12⟩ : ∃ z : Int, z = (if r9 = 0 then (-1005) else (s10 50 1)) := ⟨_, rfl⟩
    replace h := h y12 ey12
    have hj13 : MWi l G mX7_assignTo 58 [] [vI y12] s10 Q := by
      exact r_iret dX7_assignTo_58 rfl ⟨_, rfl, h⟩
    refine r_if_eq (tgt := 55) dX7_assignTo_42 (by decide) (fun (c11 : r9 = 0) => ?_) (fun (c11 : ¬ (r9 = 0)) => ?_)
    · refine r_sipush dX7_assignTo_55 (by decide) (by decide) ?_
      refine MWF.sub [] rfl ?_
      have q14 : y12 = (-1005) := by rw [ey12, if_pos c11]
      rw [q14] at hj13
      exact hj13
    · refine r_aload_n 1 dX7_assignTo_45 rfl rfl ?_
      refine r_getR (j := 4) dX7_assignTo_46 sh_0 rfl kc_7 (by decide) lf_X7_30 ?_
      refine r_getI (j := 1) dX7_assignTo_49 sh_50 rfl kc_1 (by decide) lf_X7_242 ?_
      refine r_goto (tgt := 58) dX7_assignTo_52 (by decide) ?_
      refine MWF.sub [] rfl ?_
      have q15 : y12 = (s10 50 1) := by rw [ey12, if_neg c11]
      rw [q15] at hj13
      exact hj13
  · replace h := h.2 c3
    refine r_iload_n 0 dX7_assignTo_11 rfl rfl ?_
    exact r_iret dX7_assignTo_12 rfl ⟨_, rfl, h⟩
set_option maxRecDepth 100000 in
set_option maxHeartbeats 4000000 in
theorem clX7_assign (l : Launch) (G : GT) (σ : Sto) (Q : Int → Sto → Prop) (x1 : Int)
    (h : CLi l G mX7_openRequestError [vR 0, vI x1] σ (fun r1 s2 => (r1 = 0 → CLv l G mX1_tryAllBut [vR 50, vI (-1), vR 74, vI x1] s2 (fun s5 => CLi l G mX7_carryOutInsertion [vR 0, vI x1] s5 (fun r6 s7 => ∀ y9 : Int, y9 = (if r6 = 0 then (-1005) else (s7 50 2)) → Q y9 s7))) ∧ (¬ (r1 = 0) → Q r1 s2))) :
    CLi l G mX7_assign [vR 0, vI x1] σ Q := by
  show MWi l G mX7_assign 0 [(0, vR 0), (1, vI x1)] [] σ Q
  refine r_aload_n 0 dX7_assign_0 rfl rfl ?_
  refine r_iload_n 1 dX7_assign_1 rfl rfl ?_
  refine r_callV [vI x1] [] dX7_assign_2 okX7_openRequestError ivX7_openRequestError seX7_openRequestError lm_X7_245 rfl rfl sh_0 rfl ⟨Nat.le_of_ble_eq_true rfl, Nat.le_of_ble_eq_true rfl, Nat.le_of_ble_eq_true rfl, Nat.le_of_ble_eq_true rfl⟩ h ?_
  rintro _ s2 ⟨r1, rfl, h⟩
  refine r_istore_n dX7_assign_5 rfl (by decide) rfl ?_
  refine r_iload_n 0 dX7_assign_6 rfl rfl ?_
  refine r_if_eq (tgt := 12) dX7_assign_7 (by decide) (fun (c3 : r1 = 0) => ?_) (fun (c3 : ¬ (r1 = 0)) => ?_)
  · replace h := h.1 c3
    refine r_aload_n 1 dX7_assign_12 rfl rfl ?_
    refine r_getR (j := 4) dX7_assign_13 sh_0 rfl kc_7 (by decide) lf_X7_30 ?_
    refine r_iconst dX7_assign_16 (by decide) ?_
    refine r_aload_n 1 dX7_assign_17 rfl rfl ?_
    refine r_getR (j := 1) dX7_assign_18 sh_0 rfl kc_7 (by decide) lf_X7_46 ?_
    refine r_iload_n 2 dX7_assign_21 rfl rfl ?_
    refine r_callV [vI (-1), vR 74, vI x1] [] dX7_assign_22 okX1_tryAllBut ivX1_tryAllBut seX1_tryAllBut lm_X7_247 rfl rfl sh_50 rfl ⟨Nat.le_of_ble_eq_true rfl, Nat.le_of_ble_eq_true rfl, Nat.le_of_ble_eq_true rfl, Nat.le_of_ble_eq_true rfl⟩ h ?_
    rintro _ s5 ⟨rfl, h⟩
    refine r_aload_n 1 dX7_assign_25 rfl rfl ?_
    refine r_iload_n 2 dX7_assign_26 rfl rfl ?_
    refine r_callV [vI x1] [] dX7_assign_27 okX7_carryOutInsertion ivX7_carryOutInsertion seX7_carryOutInsertion lm_X7_239 rfl rfl sh_0 rfl ⟨Nat.le_of_ble_eq_true rfl, Nat.le_of_ble_eq_true rfl, Nat.le_of_ble_eq_true rfl, Nat.le_of_ble_eq_true rfl⟩ h ?_
    rintro _ s7 ⟨r6, rfl, h⟩
    obtain ⟨y9, ey9⟩ : ∃ z : Int, z = (if r6 = 0 then (-1005) else (s7 50 2)) := ⟨_, rfl⟩
    replace h := h y9 ey9
    have hj10 : MWi l G mX7_assign 46 [] [vI y9] s7 Q := by
      exact r_iret dX7_assign_46 rfl ⟨_, rfl, h⟩
    refine r_if_eq (tgt := 43) dX7_assign_30 (by decide) (fun (c8 : r6 = 0) => ?_) (fun (c8 : ¬ (r6 = 0)) => ?_)
    · refine r_sipush dX7_assign_43 (by decide) (by decide) ?_
      refine MWF.sub [] rfl ?_
      have q11 : y9 = (-1005) := by rw [ey9, if_pos c8]
      rw [q11] at hj10
      exact hj10
    · refine r_aload_n 1 dX7_assign_33 rfl rfl ?_
      refine r_getR (j := 4) dX7_assign_34 sh_0 rfl kc_7 (by decide) lf_X7_30 ?_
      refine r_getI (j := 2) dX7_assign_37 sh_50 rfl kc_1 (by decide) lf_X7_251 ?_
      refine r_goto (tgt := 46) dX7_assign_40 (by decide) ?_
      refine MWF.sub [] rfl ?_
      have q12 : y9 = (s7 50 2) := by rw [ey9, if_neg c8]
      rw [q12] at hj10
      exact hj10
  · replace h := h.2 c3
    refine r_iload_n 0 dX7_assign_10 rfl rfl ?_
    exact r_iret dX7_assign_11 rfl ⟨_, rfl, h⟩
set_option maxRecDepth 100000 in
set_option maxHeartbeats 4000000 in
theorem clX7_remove (l : Launch) (G : GT) (σ : Sto) (Q : Int → Sto → Prop) (x1 : Int)
    (h : CLi l G mX7_isRequest [vR 0, vI x1] σ (fun r1 s2 => (r1 = 0 → Q (-1001) s2) ∧ (¬ (r1 = 0) → CLi l G mX7_isOpen [vR 0, vI x1] s2 (fun r4 s5 => (r4 = 0 → CLi l G mX4_totalLength [vR 1, vR 74] s5 (fun r7 s8 => CLv l G mX0_record [vR 53, vR 74] s8 (fun s10 => CLv l G mX3_take [vR 74, vI x1] s10 (fun s12 => CLi l G mX4_totalLength [vR 1, vR 74] s12 (fun r13 s14 => (-2147483648 ≤ r7 - r13 ∧ r7 - r13 ≤ 2147483647) ∧ Q (r7 - r13) s14))))) ∧ (¬ (r4 = 0) → Q (-1004) s5))))) :
    CLi l G mX7_remove [vR 0, vI x1] σ Q := by
  show MWi l G mX7_remove 0 [(0, vR 0), (1, vI x1)] [] σ Q
  refine r_aload_n 0 dX7_remove_0 rfl rfl ?_
  refine r_iload_n 1 dX7_remove_1 rfl rfl ?_
  refine r_callV [vI x1] [] dX7_remove_2 okX7_isRequest ivX7_isRequest seX7_isRequest lm_X7_105 rfl rfl sh_0 rfl ⟨Nat.le_of_ble_eq_true rfl, Nat.le_of_ble_eq_true rfl, Nat.le_of_ble_eq_true rfl, Nat.le_of_ble_eq_true rfl⟩ h ?_
  rintro _ s2 ⟨r1, rfl, h⟩
  refine r_if_ne (tgt := 12) dX7_remove_5 (by decide) (fun (c3 : r1 = 0) => ?_) (fun (c3 : ¬ (r1 = 0)) => ?_)
  · replace h := h.1 c3
    refine r_sipush dX7_remove_8 (by decide) (by decide) ?_
    exact r_iret dX7_remove_11 rfl ⟨_, rfl, h⟩
  · replace h := h.2 c3
    refine r_aload_n 0 dX7_remove_12 rfl rfl ?_
    refine r_iload_n 1 dX7_remove_13 rfl rfl ?_
    refine r_callV [vI x1] [] dX7_remove_14 okX7_isOpen ivX7_isOpen seX7_isOpen lm_X7_138 rfl rfl sh_0 rfl ⟨Nat.le_of_ble_eq_true rfl, Nat.le_of_ble_eq_true rfl, Nat.le_of_ble_eq_true rfl, Nat.le_of_ble_eq_true rfl⟩ h ?_
    rintro _ s5 ⟨r4, rfl, h⟩
    refine r_if_eq (tgt := 24) dX7_remove_17 (by decide) (fun (c6 : r4 = 0) => ?_) (fun (c6 : ¬ (r4 = 0)) => ?_)
    · replace h := h.1 c6
      refine r_aload_n 0 dX7_remove_24 rfl rfl ?_
      refine r_getR (j := 0) dX7_remove_25 sh_0 rfl kc_7 (by decide) lf_X7_22 ?_
      refine r_aload_n 0 dX7_remove_28 rfl rfl ?_
      refine r_getR (j := 1) dX7_remove_29 sh_0 rfl kc_7 (by decide) lf_X7_46 ?_
      refine r_callV [vR 74] [] dX7_remove_32 okX4_totalLength ivX4_totalLength seX4_totalLength lm_X7_131 rfl rfl sh_1 rfl ⟨Nat.le_of_ble_eq_true rfl, Nat.le_of_ble_eq_true rfl, Nat.le_of_ble_eq_true rfl, Nat.le_of_ble_eq_true rfl⟩ h ?_
      rintro _ s8 ⟨r7, rfl, h⟩
      refine r_istore_n dX7_remove_35 rfl (by decide) rfl ?_
      refine r_aload_n 1 dX7_remove_36 rfl rfl ?_
      refine r_getR (j := 2) dX7_remove_37 sh_0 rfl kc_7 (by decide) lf_X7_53 ?_
      refine r_aload_n 1 dX7_remove_40 rfl rfl ?_
      refine r_getR (j := 1) dX7_remove_41 sh_0 rfl kc_7 (by decide) lf_X7_46 ?_
      refine r_callV [vR 74] [] dX7_remove_44 okX0_record ivX0_record seX0_record lm_X7_210 rfl rfl sh_53 rfl ⟨Nat.le_of_ble_eq_true rfl, Nat.le_of_ble_eq_true rfl, Nat.le_of_ble_eq_true rfl, Nat.le_of_ble_eq_true rfl⟩ h ?_
      rintro _ s10 ⟨rfl, h⟩
      refine r_aload_n 1 dX7_remove_47 rfl rfl ?_
      refine r_getR (j := 1) dX7_remove_48 sh_0 rfl kc_7 (by decide) lf_X7_46 ?_
      refine r_iload_n 2 dX7_remove_51 rfl rfl ?_
      refine r_callV [vI x1] [] dX7_remove_52 okX3_take ivX3_take seX3_take lm_X7_254 rfl rfl pl_74.1 rfl ⟨Nat.le_of_ble_eq_true rfl, Nat.le_of_ble_eq_true rfl, Nat.le_of_ble_eq_true rfl, Nat.le_of_ble_eq_true rfl⟩ h ?_
      rintro _ s12 ⟨rfl, h⟩
      refine r_iload_n 0 dX7_remove_55 rfl rfl ?_
      refine r_aload_n 1 dX7_remove_56 rfl rfl ?_
      refine r_getR (j := 0) dX7_remove_57 sh_0 rfl kc_7 (by decide) lf_X7_22 ?_
      refine r_aload_n 1 dX7_remove_60 rfl rfl ?_
      refine r_getR (j := 1) dX7_remove_61 sh_0 rfl kc_7 (by decide) lf_X7_46 ?_
      refine r_callV [vR 74] [vI r7] dX7_remove_64 okX4_totalLength ivX4_totalLength seX4_totalLength lm_X7_131 rfl rfl sh_1 rfl ⟨Nat.le_of_ble_eq_true rfl, Nat.le_of_ble_eq_true rfl, Nat.le_of_ble_eq_true rfl, Nat.le_of_ble_eq_true rfl⟩ h ?_
      rintro _ s14 ⟨r13, rfl, h⟩
      obtain ⟨b15, h⟩ := h
      refine r_isub dX7_remove_67 b15 ?_
      exact r_iret dX7_remove_68 rfl ⟨_, rfl, h⟩
    · replace h := h.2 c6
      refine r_sipush dX7_remove_20 (by decide) (by decide) ?_
      exact r_iret dX7_remove_23 rfl ⟨_, rfl, h⟩
set_option maxRecDepth 100000 in
set_option maxHeartbeats 4000000 in
theorem clX7_chainCost (l : Launch) (G : GT) (σ : Sto) (Q : Int → Sto → Prop) (x1 : Int)
    (h : CLi l G mX7_openRequestError [vR 0, vI x1] σ (fun r1 s2 => (r1 = 0 → CLv l G mX2_findChain [vR 52, vR 74, vI x1] s2 (fun s5 => ((¬ ((s5 52 0) = 0) → (-2147483648 ≤ (s5 52 1) + 10000 ∧ (s5 52 1) + 10000 ≤ 2147483647) ∧ True)) ∧ ∀ y9 : Int, y9 = (if (s5 52 0) = 0 then (-1005) else ((s5 52 1) + 10000)) → Q y9 s5)) ∧ (¬ (r1 = 0) → Q r1 s2))) :
    CLi l G mX7_chainCost [vR 0, vI x1] σ Q := by
  show MWi l G mX7_chainCost 0 [(0, vR 0), (1, vI x1)] [] σ Q
  refine r_aload_n 0 dX7_chainCost_0 rfl rfl ?_
  refine r_iload_n 1 dX7_chainCost_1 rfl rfl ?_
  refine r_callV [vI x1] [] dX7_chainCost_2 okX7_openRequestError ivX7_openRequestError seX7_openRequestError lm_X7_245 rfl rfl sh_0 rfl ⟨Nat.le_of_ble_eq_true rfl, Nat.le_of_ble_eq_true rfl, Nat.le_of_ble_eq_true rfl, Nat.le_of_ble_eq_true rfl⟩ h ?_
  rintro _ s2 ⟨r1, rfl, h⟩
  refine r_istore_n dX7_chainCost_5 rfl (by decide) rfl ?_
  refine r_iload_n 0 dX7_chainCost_6 rfl rfl ?_
  refine r_if_eq (tgt := 12) dX7_chainCost_7 (by decide) (fun (c3 : r1 = 0) => ?_) (fun (c3 : ¬ (r1 = 0)) => ?_)
  · replace h := h.1 c3
    refine r_aload_n 1 dX7_chainCost_12 rfl rfl ?_
    refine r_getR (j := 5) dX7_chainCost_13 sh_0 rfl kc_7 (by decide) lf_X7_39 ?_
    refine r_aload_n 1 dX7_chainCost_16 rfl rfl ?_
    refine r_getR (j := 1) dX7_chainCost_17 sh_0 rfl kc_7 (by decide) lf_X7_46 ?_
    refine r_iload_n 2 dX7_chainCost_20 rfl rfl ?_
    refine r_callV [vR 74, vI x1] [] dX7_chainCost_21 okX2_findChain ivX2_findChain seX2_findChain lm_X7_258 rfl rfl sh_52 rfl ⟨Nat.le_of_ble_eq_true rfl, Nat.le_of_ble_eq_true rfl, Nat.le_of_ble_eq_true rfl, Nat.le_of_ble_eq_true rfl⟩ h ?_
    rintro _ s5 ⟨rfl, h⟩
    refine r_aload_n 1 dX7_chainCost_24 rfl rfl ?_
    refine r_getR (j := 5) dX7_chainCost_25 sh_0 rfl kc_7 (by decide) lf_X7_39 ?_
    refine r_getI (j := 0) dX7_chainCost_28 sh_52 rfl kc_2 (by decide) lf_X7_262 ?_
    obtain ⟨q8, h⟩ := h
    obtain ⟨y9, ey9⟩ : ∃ z : Int, z = (if (s5 52 0) = 0 then (-1005) else ((s5 52 1) + 10000)) := ⟨_, rfl⟩
    replace h := h y9 ey9
    have hj10 : MWi l G mX7_chainCost 51 [] [vI y9] s5 Q := by
      exact r_iret dX7_chainCost_51 rfl ⟨_, rfl, h⟩
    replace h := q8
    refine r_if_eq (tgt := 48) dX7_chainCost_31 (by decide) (fun (c6 : (s5 52 0) = 0) => ?_) (fun (c6 : ¬ ((s5 52 0) = 0)) => ?_)
    · refine r_sipush dX7_chainCost_48 (by decide) (by decide) ?_
      refine MWF.sub [] rfl ?_
      have q11 : y9 = (-1005) := by rw [ey9, if_pos c6]
      rw [q11] at hj10
      exact hj10
    · replace h := h c6
      refine r_aload_n 1 dX7_chainCost_34 rfl rfl ?_
      refine r_getR (j := 5) dX7_chainCost_35 sh_0 rfl kc_7 (by decide) lf_X7_39 ?_
      refine r_getI (j := 1) dX7_chainCost_38 sh_52 rfl kc_2 (by decide) lf_X7_263 ?_
      refine r_sipush dX7_chainCost_41 (by decide) (by decide) ?_
      obtain ⟨b7, h⟩ := h
      refine r_iadd dX7_chainCost_44 b7 ?_
      refine r_goto (tgt := 51) dX7_chainCost_45 (by decide) ?_
      refine MWF.sub [] rfl ?_
      have q12 : y9 = ((s5 52 1) + 10000) := by rw [ey9, if_neg c6]
      rw [q12] at hj10
      exact hj10
  · replace h := h.2 c3
    refine r_iload_n 0 dX7_chainCost_10 rfl rfl ?_
    exact r_iret dX7_chainCost_11 rfl ⟨_, rfl, h⟩
set_option maxRecDepth 100000 in
set_option maxHeartbeats 4000000 in
theorem clX7_chain (l : Launch) (G : GT) (σ : Sto) (Q : Int → Sto → Prop) (x1 : Int)
    (h : CLi l G mX7_openRequestError [vR 0, vI x1] σ (fun r1 s2 => (r1 = 0 → CLv l G mX2_findChain [vR 52, vR 74, vI x1] s2 (fun s5 => ((s5 52 0) = 0 → Q (-1005) s5) ∧ (¬ ((s5 52 0) = 0) → CLv l G mX0_record [vR 53, vR 74] s5 (fun s8 => CLv l G mX3_become [vR 74, vR 85] s8 (fun s10 => (-2147483648 ≤ 100 * (s10 52 2) ∧ 100 * (s10 52 2) ≤ 2147483647) ∧ (-2147483648 ≤ (100 * (s10 52 2)) + (s10 52 3) ∧ (100 * (s10 52 2)) + (s10 52 3) ≤ 2147483647) ∧ Q ((100 * (s10 52 2)) + (s10 52 3)) s10))))) ∧ (¬ (r1 = 0) → Q r1 s2))) :
    CLi l G mX7_chain [vR 0, vI x1] σ Q := by
  show MWi l G mX7_chain 0 [(0, vR 0), (1, vI x1)] [] σ Q
  refine r_aload_n 0 dX7_chain_0 rfl rfl ?_
  refine r_iload_n 1 dX7_chain_1 rfl rfl ?_
  refine r_callV [vI x1] [] dX7_chain_2 okX7_openRequestError ivX7_openRequestError seX7_openRequestError lm_X7_245 rfl rfl sh_0 rfl ⟨Nat.le_of_ble_eq_true rfl, Nat.le_of_ble_eq_true rfl, Nat.le_of_ble_eq_true rfl, Nat.le_of_ble_eq_true rfl⟩ h ?_
  rintro _ s2 ⟨r1, rfl, h⟩
  refine r_istore_n dX7_chain_5 rfl (by decide) rfl ?_
  refine r_iload_n 0 dX7_chain_6 rfl rfl ?_
  refine r_if_eq (tgt := 12) dX7_chain_7 (by decide) (fun (c3 : r1 = 0) => ?_) (fun (c3 : ¬ (r1 = 0)) => ?_)
  · replace h := h.1 c3
    refine r_aload_n 1 dX7_chain_12 rfl rfl ?_
    refine r_getR (j := 5) dX7_chain_13 sh_0 rfl kc_7 (by decide) lf_X7_39 ?_
    refine r_aload_n 1 dX7_chain_16 rfl rfl ?_
    refine r_getR (j := 1) dX7_chain_17 sh_0 rfl kc_7 (by decide) lf_X7_46 ?_
    refine r_iload_n 2 dX7_chain_20 rfl rfl ?_
    refine r_callV [vR 74, vI x1] [] dX7_chain_21 okX2_findChain ivX2_findChain seX2_findChain lm_X7_258 rfl rfl sh_52 rfl ⟨Nat.le_of_ble_eq_true rfl, Nat.le_of_ble_eq_true rfl, Nat.le_of_ble_eq_true rfl, Nat.le_of_ble_eq_true rfl⟩ h ?_
    rintro _ s5 ⟨rfl, h⟩
    refine r_aload_n 1 dX7_chain_24 rfl rfl ?_
    refine r_getR (j := 5) dX7_chain_25 sh_0 rfl kc_7 (by decide) lf_X7_39 ?_
    refine r_getI (j := 0) dX7_chain_28 sh_52 rfl kc_2 (by decide) lf_X7_262 ?_
    refine r_if_ne (tgt := 38) dX7_chain_31 (by decide) (fun (c6 : (s5 52 0) = 0) => ?_) (fun (c6 : ¬ ((s5 52 0) = 0)) => ?_)
    · replace h := h.1 c6
      refine r_sipush dX7_chain_34 (by decide) (by decide) ?_
      exact r_iret dX7_chain_37 rfl ⟨_, rfl, h⟩
    · replace h := h.2 c6
      refine r_aload_n 1 dX7_chain_38 rfl rfl ?_
      refine r_getR (j := 2) dX7_chain_39 sh_0 rfl kc_7 (by decide) lf_X7_53 ?_
      refine r_aload_n 1 dX7_chain_42 rfl rfl ?_
      refine r_getR (j := 1) dX7_chain_43 sh_0 rfl kc_7 (by decide) lf_X7_46 ?_
      refine r_callV [vR 74] [] dX7_chain_46 okX0_record ivX0_record seX0_record lm_X7_210 rfl rfl sh_53 rfl ⟨Nat.le_of_ble_eq_true rfl, Nat.le_of_ble_eq_true rfl, Nat.le_of_ble_eq_true rfl, Nat.le_of_ble_eq_true rfl⟩ h ?_
      rintro _ s8 ⟨rfl, h⟩
      refine r_aload_n 1 dX7_chain_49 rfl rfl ?_
      refine r_getR (j := 1) dX7_chain_50 sh_0 rfl kc_7 (by decide) lf_X7_46 ?_
      refine r_aload_n 1 dX7_chain_53 rfl rfl ?_
      refine r_getR (j := 5) dX7_chain_54 sh_0 rfl kc_7 (by decide) lf_X7_39 ?_
      refine r_getR (j := 4) dX7_chain_57 sh_52 rfl kc_2 (by decide) lf_X7_266 ?_
      refine r_callV [vR 85] [] dX7_chain_60 okX3_become ivX3_become seX3_become lm_X7_269 rfl rfl pl_74.1 rfl ⟨Nat.le_of_ble_eq_true rfl, Nat.le_of_ble_eq_true rfl, Nat.le_of_ble_eq_true rfl, Nat.le_of_ble_eq_true rfl⟩ h ?_
      rintro _ s10 ⟨rfl, h⟩
      refine r_bipush dX7_chain_63 (by decide) (by decide) ?_
      refine r_aload_n 1 dX7_chain_65 rfl rfl ?_
      refine r_getR (j := 5) dX7_chain_66 sh_0 rfl kc_7 (by decide) lf_X7_39 ?_
      refine r_getI (j := 2) dX7_chain_69 sh_52 rfl kc_2 (by decide) lf_X7_272 ?_
      obtain ⟨b11, h⟩ := h
      refine r_imul dX7_chain_72 b11 ?_
      refine r_aload_n 1 dX7_chain_73 rfl rfl ?_
      refine r_getR (j := 5) dX7_chain_74 sh_0 rfl kc_7 (by decide) lf_X7_39 ?_
      refine r_getI (j := 3) dX7_chain_77 sh_52 rfl kc_2 (by decide) lf_X7_275 ?_
      obtain ⟨b12, h⟩ := h
      refine r_iadd dX7_chain_80 b12 ?_
      exact r_iret dX7_chain_81 rfl ⟨_, rfl, h⟩
  · replace h := h.2 c3
    refine r_iload_n 0 dX7_chain_10 rfl rfl ?_
    exact r_iret dX7_chain_11 rfl ⟨_, rfl, h⟩
set_option maxRecDepth 100000 in
set_option maxHeartbeats 4000000 in
theorem clX7_improve (l : Launch) (G : GT) (σ : Sto) (Q : Int → Sto → Prop) 
    (h : CLv l G mX2_findImprovement [vR 52, vR 74] σ (fun s2 => ((s2 52 0) = 0 → Q (-1007) s2) ∧ (¬ ((s2 52 0) = 0) → CLv l G mX0_record [vR 53, vR 74] s2 (fun s5 => CLv l G mX3_become [vR 74, vR 85] s5 (fun s7 => (-2147483648 ≤ -(s7 52 1) ∧ -(s7 52 1) ≤ 2147483647) ∧ Q (-(s7 52 1)) s7))))) :
    CLi l G mX7_improve [vR 0] σ Q := by
  show MWi l G mX7_improve 0 [(0, vR 0)] [] σ Q
  refine r_aload_n 0 dX7_improve_0 rfl rfl ?_
  refine r_getR (j := 5) dX7_improve_1 sh_0 rfl kc_7 (by decide) lf_X7_39 ?_
  refine r_aload_n 0 dX7_improve_4 rfl rfl ?_
  refine r_getR (j := 1) dX7_improve_5 sh_0 rfl kc_7 (by decide) lf_X7_46 ?_
  refine r_callV [vR 74] [] dX7_improve_8 okX2_findImprovement ivX2_findImprovement seX2_findImprovement lm_X7_278 rfl rfl sh_52 rfl ⟨Nat.le_of_ble_eq_true rfl, Nat.le_of_ble_eq_true rfl, Nat.le_of_ble_eq_true rfl, Nat.le_of_ble_eq_true rfl⟩ h ?_
  rintro _ s2 ⟨rfl, h⟩
  refine r_aload_n 0 dX7_improve_11 rfl rfl ?_
  refine r_getR (j := 5) dX7_improve_12 sh_0 rfl kc_7 (by decide) lf_X7_39 ?_
  refine r_getI (j := 0) dX7_improve_15 sh_52 rfl kc_2 (by decide) lf_X7_262 ?_
  refine r_if_ne (tgt := 25) dX7_improve_18 (by decide) (fun (c3 : (s2 52 0) = 0) => ?_) (fun (c3 : ¬ ((s2 52 0) = 0)) => ?_)
  · replace h := h.1 c3
    refine r_sipush dX7_improve_21 (by decide) (by decide) ?_
    exact r_iret dX7_improve_24 rfl ⟨_, rfl, h⟩
  · replace h := h.2 c3
    refine r_aload_n 0 dX7_improve_25 rfl rfl ?_
    refine r_getR (j := 2) dX7_improve_26 sh_0 rfl kc_7 (by decide) lf_X7_53 ?_
    refine r_aload_n 0 dX7_improve_29 rfl rfl ?_
    refine r_getR (j := 1) dX7_improve_30 sh_0 rfl kc_7 (by decide) lf_X7_46 ?_
    refine r_callV [vR 74] [] dX7_improve_33 okX0_record ivX0_record seX0_record lm_X7_210 rfl rfl sh_53 rfl ⟨Nat.le_of_ble_eq_true rfl, Nat.le_of_ble_eq_true rfl, Nat.le_of_ble_eq_true rfl, Nat.le_of_ble_eq_true rfl⟩ h ?_
    rintro _ s5 ⟨rfl, h⟩
    refine r_aload_n 0 dX7_improve_36 rfl rfl ?_
    refine r_getR (j := 1) dX7_improve_37 sh_0 rfl kc_7 (by decide) lf_X7_46 ?_
    refine r_aload_n 0 dX7_improve_40 rfl rfl ?_
    refine r_getR (j := 5) dX7_improve_41 sh_0 rfl kc_7 (by decide) lf_X7_39 ?_
    refine r_getR (j := 4) dX7_improve_44 sh_52 rfl kc_2 (by decide) lf_X7_266 ?_
    refine r_callV [vR 85] [] dX7_improve_47 okX3_become ivX3_become seX3_become lm_X7_269 rfl rfl pl_74.1 rfl ⟨Nat.le_of_ble_eq_true rfl, Nat.le_of_ble_eq_true rfl, Nat.le_of_ble_eq_true rfl, Nat.le_of_ble_eq_true rfl⟩ h ?_
    rintro _ s7 ⟨rfl, h⟩
    refine r_aload_n 0 dX7_improve_50 rfl rfl ?_
    refine r_getR (j := 5) dX7_improve_51 sh_0 rfl kc_7 (by decide) lf_X7_39 ?_
    refine r_getI (j := 1) dX7_improve_54 sh_52 rfl kc_2 (by decide) lf_X7_263 ?_
    obtain ⟨b8, h⟩ := h
    refine r_ineg dX7_improve_57 b8 ?_
    exact r_iret dX7_improve_58 rfl ⟨_, rfl, h⟩
set_option maxRecDepth 100000 in
set_option maxHeartbeats 4000000 in
theorem clX7_undo (l : Launch) (G : GT) (σ : Sto) (Q : Int → Sto → Prop) 
    (h : ((σ 53 0) = 0 → Q (-1007) σ) ∧ (¬ ((σ 53 0) = 0) → CLv l G mX0_restoreLatest [vR 53, vR 74] σ (fun s3 => Q (s3 53 0) s3))) :
    CLi l G mX7_undo [vR 0] σ Q := by
  show MWi l G mX7_undo 0 [(0, vR 0)] [] σ Q
  refine r_aload_n 0 dX7_undo_0 rfl rfl ?_
  refine r_getR (j := 2) dX7_undo_1 sh_0 rfl kc_7 (by decide) lf_X7_53 ?_
  refine r_getI (j := 0) dX7_undo_4 sh_53 rfl kc_0 (by decide) lf_X7_135 ?_
  refine r_if_ne (tgt := 14) dX7_undo_7 (by decide) (fun (c1 : (σ 53 0) = 0) => ?_) (fun (c1 : ¬ ((σ 53 0) = 0)) => ?_)
  · replace h := h.1 c1
    refine r_sipush dX7_undo_10 (by decide) (by decide) ?_
    exact r_iret dX7_undo_13 rfl ⟨_, rfl, h⟩
  · replace h := h.2 c1
    refine r_aload_n 0 dX7_undo_14 rfl rfl ?_
    refine r_getR (j := 2) dX7_undo_15 sh_0 rfl kc_7 (by decide) lf_X7_53 ?_
    refine r_aload_n 0 dX7_undo_18 rfl rfl ?_
    refine r_getR (j := 1) dX7_undo_19 sh_0 rfl kc_7 (by decide) lf_X7_46 ?_
    refine r_callV [vR 74] [] dX7_undo_22 okX0_restoreLatest ivX0_restoreLatest seX0_restoreLatest lm_X7_281 rfl rfl sh_53 rfl ⟨Nat.le_of_ble_eq_true rfl, Nat.le_of_ble_eq_true rfl, Nat.le_of_ble_eq_true rfl, Nat.le_of_ble_eq_true rfl⟩ h ?_
    rintro _ s3 ⟨rfl, h⟩
    refine r_aload_n 0 dX7_undo_25 rfl rfl ?_
    refine r_getR (j := 2) dX7_undo_26 sh_0 rfl kc_7 (by decide) lf_X7_53 ?_
    refine r_getI (j := 0) dX7_undo_29 sh_53 rfl kc_0 (by decide) lf_X7_135 ?_
    exact r_iret dX7_undo_32 rfl ⟨_, rfl, h⟩
set_option maxRecDepth 100000 in
set_option maxHeartbeats 4000000 in
theorem clX7_isPlace (l : Launch) (G : GT) (σ : Sto) (Q : Int → Sto → Prop) (x0 : Int) (x1 : Int)
    (h : ∀ y5 : Int, y5 = (if x0 < 0 then 0 else (if 99 < x0 then 0 else (if x1 < 0 then 0 else (if 99 < x1 then 0 else 1)))) → Q y5 σ) :
    CLi l G mX7_isPlace [vI x0, vI x1] σ Q := by
  show MWi l G mX7_isPlace 0 [(0, vI x0), (1, vI x1)] [] σ Q
  refine r_iload_n 0 dX7_isPlace_0 rfl rfl ?_
  obtain ⟨y5, ey5⟩ : ∃ z : Int, z = (if x0 < 0 then 0 else (if 99 < x0 then 0 else (if x1 < 0 then 0 else (if 99 < x1 then 0 else 1)))) := ⟨_, rfl⟩
  replace h := h y5 ey5
  have hj6 : MWi l G mX7_isPlace 25 [] [vI y5] σ Q := by
    exact r_zret dX7_isPlace_25 rfl (by rw [ey5]; (repeat' split) <;> decide) ⟨_, rfl, h⟩
  refine r_if_lt (tgt := 24) dX7_isPlace_1 (by decide) (fun (c1 : x0 < 0) => ?_) (fun (c1 : ¬ (x0 < 0)) => ?_)
  · refine r_iconst dX7_isPlace_24 (by decide) ?_
    refine MWF.sub [] rfl ?_
    have q7 : y5 = 0 := by rw [ey5, if_pos c1]
    rw [q7] at hj6
    exact hj6
  · refine r_iload_n 0 dX7_isPlace_4 rfl rfl ?_
    refine r_bipush dX7_isPlace_5 (by decide) (by decide) ?_
    refine r_icmp_gt (tgt := 24) dX7_isPlace_7 (by decide) (fun (c2 : 99 < x0) => ?_) (fun (c2 : ¬ (99 < x0)) => ?_)
    · refine r_iconst dX7_isPlace_24 (by decide) ?_
      refine MWF.sub [] rfl ?_
      have q8 : y5 = 0 := by rw [ey5, if_neg c1, if_pos c2]
      rw [q8] at hj6
      exact hj6
    · refine r_iload_n 1 dX7_isPlace_10 rfl rfl ?_
      refine r_if_lt (tgt := 24) dX7_isPlace_11 (by decide) (fun (c3 : x1 < 0) => ?_) (fun (c3 : ¬ (x1 < 0)) => ?_)
      · refine r_iconst dX7_isPlace_24 (by decide) ?_
        refine MWF.sub [] rfl ?_
        have q9 : y5 = 0 := by rw [ey5, if_neg c1, if_neg c2, if_pos c3]
        rw [q9] at hj6
        exact hj6
      · refine r_iload_n 1 dX7_isPlace_14 rfl rfl ?_
        refine r_bipush dX7_isPlace_15 (by decide) (by decide) ?_
        refine r_icmp_gt (tgt := 24) dX7_isPlace_17 (by decide) (fun (c4 : 99 < x1) => ?_) (fun (c4 : ¬ (99 < x1)) => ?_)
        · refine r_iconst dX7_isPlace_24 (by decide) ?_
          refine MWF.sub [] rfl ?_
          have q10 : y5 = 0 := by rw [ey5, if_neg c1, if_neg c2, if_neg c3, if_pos c4]
          rw [q10] at hj6
          exact hj6
        · refine r_iconst dX7_isPlace_20 (by decide) ?_
          refine r_goto (tgt := 25) dX7_isPlace_21 (by decide) ?_
          refine MWF.sub [] rfl ?_
          have q11 : y5 = 1 := by rw [ey5, if_neg c1, if_neg c2, if_neg c3, if_neg c4]
          rw [q11] at hj6
          exact hj6
set_option maxRecDepth 100000 in
set_option maxHeartbeats 4000000 in
theorem clX7_isLoad (l : Launch) (G : GT) (σ : Sto) (Q : Int → Sto → Prop) (x0 : Int)
    (h : ∀ y3 : Int, y3 = (if x0 < 1 then 0 else (if 8 < x0 then 0 else 1)) → Q y3 σ) :
    CLi l G mX7_isLoad [vI x0] σ Q := by
  show MWi l G mX7_isLoad 0 [(0, vI x0)] [] σ Q
  refine r_iload_n 0 dX7_isLoad_0 rfl rfl ?_
  refine r_iconst dX7_isLoad_1 (by decide) ?_
  obtain ⟨y3, ey3⟩ : ∃ z : Int, z = (if x0 < 1 then 0 else (if 8 < x0 then 0 else 1)) := ⟨_, rfl⟩
  replace h := h y3 ey3
  have hj4 : MWi l G mX7_isLoad 16 [] [vI y3] σ Q := by
    exact r_zret dX7_isLoad_16 rfl (by rw [ey3]; (repeat' split) <;> decide) ⟨_, rfl, h⟩
  refine r_icmp_lt (tgt := 15) dX7_isLoad_2 (by decide) (fun (c1 : x0 < 1) => ?_) (fun (c1 : ¬ (x0 < 1)) => ?_)
  · refine r_iconst dX7_isLoad_15 (by decide) ?_
    refine MWF.sub [] rfl ?_
    have q5 : y3 = 0 := by rw [ey3, if_pos c1]
    rw [q5] at hj4
    exact hj4
  · refine r_iload_n 0 dX7_isLoad_5 rfl rfl ?_
    refine r_bipush dX7_isLoad_6 (by decide) (by decide) ?_
    refine r_icmp_gt (tgt := 15) dX7_isLoad_8 (by decide) (fun (c2 : 8 < x0) => ?_) (fun (c2 : ¬ (8 < x0)) => ?_)
    · refine r_iconst dX7_isLoad_15 (by decide) ?_
      refine MWF.sub [] rfl ?_
      have q6 : y3 = 0 := by rw [ey3, if_neg c1, if_pos c2]
      rw [q6] at hj4
      exact hj4
    · refine r_iconst dX7_isLoad_11 (by decide) ?_
      refine r_goto (tgt := 16) dX7_isLoad_12 (by decide) ?_
      refine MWF.sub [] rfl ?_
      have q7 : y3 = 1 := by rw [ey3, if_neg c1, if_neg c2]
      rw [q7] at hj4
      exact hj4
set_option maxRecDepth 100000 in
set_option maxHeartbeats 4000000 in
theorem clX7_isLimit (l : Launch) (G : GT) (σ : Sto) (Q : Int → Sto → Prop) (x0 : Int)
    (h : ∀ y3 : Int, y3 = (if x0 < 0 then 0 else (if 1000 < x0 then 0 else 1)) → Q y3 σ) :
    CLi l G mX7_isLimit [vI x0] σ Q := by
  show MWi l G mX7_isLimit 0 [(0, vI x0)] [] σ Q
  refine r_iload_n 0 dX7_isLimit_0 rfl rfl ?_
  obtain ⟨y3, ey3⟩ : ∃ z : Int, z = (if x0 < 0 then 0 else (if 1000 < x0 then 0 else 1)) := ⟨_, rfl⟩
  replace h := h y3 ey3
  have hj4 : MWi l G mX7_isLimit 16 [] [vI y3] σ Q := by
    exact r_zret dX7_isLimit_16 rfl (by rw [ey3]; (repeat' split) <;> decide) ⟨_, rfl, h⟩
  refine r_if_lt (tgt := 15) dX7_isLimit_1 (by decide) (fun (c1 : x0 < 0) => ?_) (fun (c1 : ¬ (x0 < 0)) => ?_)
  · refine r_iconst dX7_isLimit_15 (by decide) ?_
    refine MWF.sub [] rfl ?_
    have q5 : y3 = 0 := by rw [ey3, if_pos c1]
    rw [q5] at hj4
    exact hj4
  · refine r_iload_n 0 dX7_isLimit_4 rfl rfl ?_
    refine r_sipush dX7_isLimit_5 (by decide) (by decide) ?_
    refine r_icmp_gt (tgt := 15) dX7_isLimit_8 (by decide) (fun (c2 : 1000 < x0) => ?_) (fun (c2 : ¬ (1000 < x0)) => ?_)
    · refine r_iconst dX7_isLimit_15 (by decide) ?_
      refine MWF.sub [] rfl ?_
      have q6 : y3 = 0 := by rw [ey3, if_neg c1, if_pos c2]
      rw [q6] at hj4
      exact hj4
    · refine r_iconst dX7_isLimit_11 (by decide) ?_
      refine r_goto (tgt := 16) dX7_isLimit_12 (by decide) ?_
      refine MWF.sub [] rfl ?_
      have q7 : y3 = 1 := by rw [ey3, if_neg c1, if_neg c2]
      rw [q7] at hj4
      exact hj4
set_option maxRecDepth 100000 in
set_option maxHeartbeats 4000000 in
theorem clX7_isWindow (l : Launch) (G : GT) (σ : Sto) (Q : Int → Sto → Prop) (x0 : Int) (x1 : Int)
    (h : ∀ y4 : Int, y4 = (if x0 < 0 then 0 else (if x1 < x0 then 0 else (if 5000 < x1 then 0 else 1))) → Q y4 σ) :
    CLi l G mX7_isWindow [vI x0, vI x1] σ Q := by
  show MWi l G mX7_isWindow 0 [(0, vI x0), (1, vI x1)] [] σ Q
  refine r_iload_n 0 dX7_isWindow_0 rfl rfl ?_
  obtain ⟨y4, ey4⟩ : ∃ z : Int, z = (if x0 < 0 then 0 else (if x1 < x0 then 0 else (if 5000 < x1 then 0 else 1))) := ⟨_, rfl⟩
  replace h := h y4 ey4
  have hj5 : MWi l G mX7_isWindow 21 [] [vI y4] σ Q := by
    exact r_zret dX7_isWindow_21 rfl (by rw [ey4]; (repeat' split) <;> decide) ⟨_, rfl, h⟩
  refine r_if_lt (tgt := 20) dX7_isWindow_1 (by decide) (fun (c1 : x0 < 0) => ?_) (fun (c1 : ¬ (x0 < 0)) => ?_)
  · refine r_iconst dX7_isWindow_20 (by decide) ?_
    refine MWF.sub [] rfl ?_
    have q6 : y4 = 0 := by rw [ey4, if_pos c1]
    rw [q6] at hj5
    exact hj5
  · refine r_iload_n 0 dX7_isWindow_4 rfl rfl ?_
    refine r_iload_n 1 dX7_isWindow_5 rfl rfl ?_
    refine r_icmp_gt (tgt := 20) dX7_isWindow_6 (by decide) (fun (c2 : x1 < x0) => ?_) (fun (c2 : ¬ (x1 < x0)) => ?_)
    · refine r_iconst dX7_isWindow_20 (by decide) ?_
      refine MWF.sub [] rfl ?_
      have q7 : y4 = 0 := by rw [ey4, if_neg c1, if_pos c2]
      rw [q7] at hj5
      exact hj5
    · refine r_iload_n 1 dX7_isWindow_9 rfl rfl ?_
      refine r_sipush dX7_isWindow_10 (by decide) (by decide) ?_
      refine r_icmp_gt (tgt := 20) dX7_isWindow_13 (by decide) (fun (c3 : 5000 < x1) => ?_) (fun (c3 : ¬ (5000 < x1)) => ?_)
      · refine r_iconst dX7_isWindow_20 (by decide) ?_
        refine MWF.sub [] rfl ?_
        have q8 : y4 = 0 := by rw [ey4, if_neg c1, if_neg c2, if_pos c3]
        rw [q8] at hj5
        exact hj5
      · refine r_iconst dX7_isWindow_16 (by decide) ?_
        refine r_goto (tgt := 21) dX7_isWindow_17 (by decide) ?_
        refine MWF.sub [] rfl ?_
        have q9 : y4 = 1 := by rw [ey4, if_neg c1, if_neg c2, if_neg c3]
        rw [q9] at hj5
        exact hj5
set_option maxRecDepth 100000 in
set_option maxHeartbeats 4000000 in
theorem clX7_isVehicle (l : Launch) (G : GT) (σ : Sto) (Q : Int → Sto → Prop) (x1 : Int)
    (h : ∀ y3 : Int, y3 = (if x1 < 0 then 0 else (if (σ 1 0) ≤ x1 then 0 else 1)) → Q y3 σ) :
    CLi l G mX7_isVehicle [vR 0, vI x1] σ Q := by
  show MWi l G mX7_isVehicle 0 [(0, vR 0), (1, vI x1)] [] σ Q
  refine r_iload_n 1 dX7_isVehicle_0 rfl rfl ?_
  obtain ⟨y3, ey3⟩ : ∃ z : Int, z = (if x1 < 0 then 0 else (if (σ 1 0) ≤ x1 then 0 else 1)) := ⟨_, rfl⟩
  replace h := h y3 ey3
  have hj4 : MWi l G mX7_isVehicle 20 [] [vI y3] σ Q := by
    exact r_zret dX7_isVehicle_20 rfl (by rw [ey3]; (repeat' split) <;> decide) ⟨_, rfl, h⟩
  refine r_if_lt (tgt := 19) dX7_isVehicle_1 (by decide) (fun (c1 : x1 < 0) => ?_) (fun (c1 : ¬ (x1 < 0)) => ?_)
  · refine r_iconst dX7_isVehicle_19 (by decide) ?_
    refine MWF.sub [] rfl ?_
    have q5 : y3 = 0 := by rw [ey3, if_pos c1]
    rw [q5] at hj4
    exact hj4
  · refine r_iload_n 1 dX7_isVehicle_4 rfl rfl ?_
    refine r_aload_n 0 dX7_isVehicle_5 rfl rfl ?_
    refine r_getR (j := 0) dX7_isVehicle_6 sh_0 rfl kc_7 (by decide) lf_X7_22 ?_
    refine r_getI (j := 0) dX7_isVehicle_9 sh_1 rfl kc_4 (by decide) lf_X7_68 ?_
    refine r_icmp_ge (tgt := 19) dX7_isVehicle_12 (by decide) (fun (c2 : (σ 1 0) ≤ x1) => ?_) (fun (c2 : ¬ ((σ 1 0) ≤ x1)) => ?_)
    · refine r_iconst dX7_isVehicle_19 (by decide) ?_
      refine MWF.sub [] rfl ?_
      have q6 : y3 = 0 := by rw [ey3, if_neg c1, if_pos c2]
      rw [q6] at hj4
      exact hj4
    · refine r_iconst dX7_isVehicle_15 (by decide) ?_
      refine r_goto (tgt := 20) dX7_isVehicle_16 (by decide) ?_
      refine MWF.sub [] rfl ?_
      have q7 : y3 = 1 := by rw [ey3, if_neg c1, if_neg c2]
      rw [q7] at hj4
      exact hj4
set_option maxRecDepth 100000 in
set_option maxHeartbeats 4000000 in
theorem clX7_isRequest (l : Launch) (G : GT) (σ : Sto) (Q : Int → Sto → Prop) (x1 : Int)
    (h : ∀ y3 : Int, y3 = (if x1 < 0 then 0 else (if (σ 1 1) ≤ x1 then 0 else 1)) → Q y3 σ) :
    CLi l G mX7_isRequest [vR 0, vI x1] σ Q := by
  show MWi l G mX7_isRequest 0 [(0, vR 0), (1, vI x1)] [] σ Q
  refine r_iload_n 1 dX7_isRequest_0 rfl rfl ?_
  obtain ⟨y3, ey3⟩ : ∃ z : Int, z = (if x1 < 0 then 0 else (if (σ 1 1) ≤ x1 then 0 else 1)) := ⟨_, rfl⟩
  replace h := h y3 ey3
  have hj4 : MWi l G mX7_isRequest 20 [] [vI y3] σ Q := by
    exact r_zret dX7_isRequest_20 rfl (by rw [ey3]; (repeat' split) <;> decide) ⟨_, rfl, h⟩
  refine r_if_lt (tgt := 19) dX7_isRequest_1 (by decide) (fun (c1 : x1 < 0) => ?_) (fun (c1 : ¬ (x1 < 0)) => ?_)
  · refine r_iconst dX7_isRequest_19 (by decide) ?_
    refine MWF.sub [] rfl ?_
    have q5 : y3 = 0 := by rw [ey3, if_pos c1]
    rw [q5] at hj4
    exact hj4
  · refine r_iload_n 1 dX7_isRequest_4 rfl rfl ?_
    refine r_aload_n 0 dX7_isRequest_5 rfl rfl ?_
    refine r_getR (j := 0) dX7_isRequest_6 sh_0 rfl kc_7 (by decide) lf_X7_22 ?_
    refine r_getI (j := 1) dX7_isRequest_9 sh_1 rfl kc_4 (by decide) lf_X7_92 ?_
    refine r_icmp_ge (tgt := 19) dX7_isRequest_12 (by decide) (fun (c2 : (σ 1 1) ≤ x1) => ?_) (fun (c2 : ¬ ((σ 1 1) ≤ x1)) => ?_)
    · refine r_iconst dX7_isRequest_19 (by decide) ?_
      refine MWF.sub [] rfl ?_
      have q6 : y3 = 0 := by rw [ey3, if_neg c1, if_pos c2]
      rw [q6] at hj4
      exact hj4
    · refine r_iconst dX7_isRequest_15 (by decide) ?_
      refine r_goto (tgt := 20) dX7_isRequest_16 (by decide) ?_
      refine MWF.sub [] rfl ?_
      have q7 : y3 = 1 := by rw [ey3, if_neg c1, if_neg c2]
      rw [q7] at hj4
      exact hj4
set_option maxRecDepth 100000 in
set_option maxHeartbeats 4000000 in
theorem clX7_isOpen (l : Launch) (G : GT) (σ : Sto) (Q : Int → Sto → Prop) (x1 : Int)
    (h : (0 ≤ x1 ∧ x1 < 12) ∧ ∀ y3 : Int, y3 = (if (σ (74 + 2) x1.toNat) = (-1) then 1 else 0) → Q y3 σ) :
    CLi l G mX7_isOpen [vR 0, vI x1] σ Q := by
  show MWi l G mX7_isOpen 0 [(0, vR 0), (1, vI x1)] [] σ Q
  refine r_aload_n 0 dX7_isOpen_0 rfl rfl ?_
  refine r_getR (j := 1) dX7_isOpen_1 sh_0 rfl kc_7 (by decide) lf_X7_46 ?_
  refine r_getR (j := 1) dX7_isOpen_4 pl_74.1 rfl kc_3 (by decide) lf_X7_141 ?_
  refine r_iload_n 1 dX7_isOpen_7 rfl rfl ?_
  obtain ⟨b1, h⟩ := h
  refine r_iald dX7_isOpen_8 pl_74.2.2.1 b1.1 b1.2 ?_
  refine r_iconst dX7_isOpen_9 (by decide) ?_
  obtain ⟨y3, ey3⟩ : ∃ z : Int, z = (if (σ (74 + 2) x1.toNat) = (-1) then 1 else 0) := ⟨_, rfl⟩
  replace h := h y3 ey3
  have hj4 : MWi l G mX7_isOpen 18 [] [vI y3] σ Q := by
    exact r_zret dX7_isOpen_18 rfl (by rw [ey3]; (repeat' split) <;> decide) ⟨_, rfl, h⟩
  refine r_icmp_ne (tgt := 17) dX7_isOpen_10 (by decide) (fun (c2 : (σ (74 + 2) x1.toNat) = (-1)) => ?_) (fun (c2 : ¬ ((σ (74 + 2) x1.toNat) = (-1))) => ?_)
  · refine r_iconst dX7_isOpen_13 (by decide) ?_
    refine r_goto (tgt := 18) dX7_isOpen_14 (by decide) ?_
    refine MWF.sub [] rfl ?_
    have q5 : y3 = 1 := by rw [ey3, if_pos c2]
    rw [q5] at hj4
    exact hj4
  · refine r_iconst dX7_isOpen_17 (by decide) ?_
    refine MWF.sub [] rfl ?_
    have q6 : y3 = 0 := by rw [ey3, if_neg c2]
    rw [q6] at hj4
    exact hj4
set_option maxRecDepth 100000 in
set_option maxHeartbeats 4000000 in
theorem clX7_openRequests (l : Launch) (G : GT) (σ : Sto) (Q : Int → Sto → Prop) 
    (h : MWi l G mX7_openRequests 4 [(0, vR 0), (1, vI 0), (2, vI 0)] [] σ Q) :
    CLi l G mX7_openRequests [vR 0] σ Q := by
  show MWi l G mX7_openRequests 0 [(0, vR 0)] [] σ Q
  refine r_iconst dX7_openRequests_0 (by decide) ?_
  refine r_istore_n dX7_openRequests_1 rfl (by decide) rfl ?_
  refine r_iconst dX7_openRequests_2 (by decide) ?_
  refine r_istore_n dX7_openRequests_3 rfl (by decide) rfl ?_
  refine MWF.sub [2, 1, 0] rfl ?_
  exact h
set_option maxRecDepth 100000 in
set_option maxHeartbeats 4000000 in
theorem vcX7_openRequests_4 (l : Launch) (G : GT) (σ : Sto) (Q : Int → Sto → Prop) (x1 : Int) (x2 : Int)
    (h : ((σ 1 1) ≤ x2 → Q x1 σ) ∧ (¬ ((σ 1 1) ≤ x2) → CLi l G mX7_isOpen [vR 0, vI x2] σ (fun r2 s3 => ((¬ (r2 = 0) → (-2147483648 ≤ x1 + 1 ∧ x1 + 1 ≤ 2147483647) ∧ True)) ∧ ∀ y7 : Int, y7 = (if r2 = 0 then x1 else (x1 + 1)) → (-2147483648 ≤ x2 + 1 ∧ x2 + 1 ≤ 2147483647) ∧ MWi l G mX7_openRequests 4 [(0, vR 0), (1, vI y7), (2, vI (x2 + 1))] [] s3 Q))) :
    MWi l G mX7_openRequests 4 [(0, vR 0), (1, vI x1), (2, vI x2)] [] σ Q := by
  refine r_iload_n 2 dX7_openRequests_4 rfl rfl ?_
  refine r_aload_n 0 dX7_openRequests_5 rfl rfl ?_
  refine r_getR (j := 0) dX7_openRequests_6 sh_0 rfl kc_7 (by decide) lf_X7_22 ?_
  refine r_getI (j := 1) dX7_openRequests_9 sh_1 rfl kc_4 (by decide) lf_X7_92 ?_
  refine r_icmp_ge (tgt := 32) dX7_openRequests_12 (by decide) (fun (c1 : (σ 1 1) ≤ x2) => ?_) (fun (c1 : ¬ ((σ 1 1) ≤ x2)) => ?_)
  · replace h := h.1 c1
    refine r_iload_n 1 dX7_openRequests_32 rfl rfl ?_
    exact r_iret dX7_openRequests_33 rfl ⟨_, rfl, h⟩
  · replace h := h.2 c1
    refine r_aload_n 0 dX7_openRequests_15 rfl rfl ?_
    refine r_iload_n 2 dX7_openRequests_16 rfl rfl ?_
    refine r_callV [vI x2] [] dX7_openRequests_17 okX7_isOpen ivX7_isOpen seX7_isOpen lm_X7_138 rfl rfl sh_0 rfl ⟨Nat.le_of_ble_eq_true rfl, Nat.le_of_ble_eq_true rfl, Nat.le_of_ble_eq_true rfl, Nat.le_of_ble_eq_true rfl⟩ h ?_
    rintro _ s3 ⟨r2, rfl, h⟩
    obtain ⟨q6, h⟩ := h
    obtain ⟨y7, ey7⟩ : ∃ z : Int, z = (if r2 = 0 then x1 else (x1 + 1)) := ⟨_, rfl⟩
    replace h := h y7 ey7
    have hj8 : MWi l G mX7_openRequests 26 [(0, vR 0), (1, vI y7), (2, vI x2)] [] s3 Q := by
      obtain ⟨b11, h⟩ := h
      refine r_iinc 2 dX7_openRequests_26 rfl (by decide) b11 rfl ?_
      refine r_goto (tgt := 4) dX7_openRequests_29 (by decide) ?_
      refine MWF.sub [1, 2, 0] rfl ?_
      exact h
    replace h := q6
    refine r_if_eq (tgt := 26) dX7_openRequests_20 (by decide) (fun (c4 : r2 = 0) => ?_) (fun (c4 : ¬ (r2 = 0)) => ?_)
    · refine MWF.sub [0, 1, 2] rfl ?_
      have q9 : y7 = x1 := by rw [ey7, if_pos c4]
      rw [q9] at hj8
      exact hj8
    · replace h := h c4
      obtain ⟨b5, h⟩ := h
      refine r_iinc 1 dX7_openRequests_23 rfl (by decide) b5 rfl ?_
      refine MWF.sub [1, 0, 2] rfl ?_
      have q10 : y7 = (x1 + 1) := by rw [ey7, if_neg c4]
      rw [q10] at hj8
      exact hj8
set_option maxRecDepth 100000 in
set_option maxHeartbeats 4000000 in
theorem clX7_routeStillFits (l : Launch) (G : GT) (σ : Sto) (Q : Int → Sto → Prop) (x1 : Int)
    (h : CLi l G mX7_isOpen [vR 0, vI x1] σ (fun r1 s2 => (r1 = 0 → (0 ≤ x1 ∧ x1 < 12) ∧ (0 ≤ (s2 (74 + 2) x1.toNat) ∧ (s2 (74 + 2) x1.toNat) < 4) ∧ CLi l G mX6_fits [vR 40, vR (74 + 3 + (s2 (74 + 2) x1.toNat).toNat)] s2 (fun r6 s7 => ∀ y9 : Int, y9 = (if r6 = 0 then 0 else 1) → Q y9 s7)) ∧ (¬ (r1 = 0) → Q 1 s2))) :
    CLi l G mX7_routeStillFits [vR 0, vI x1] σ Q := by
  show MWi l G mX7_routeStillFits 0 [(0, vR 0), (1, vI x1)] [] σ Q
  refine r_aload_n 0 dX7_routeStillFits_0 rfl rfl ?_
  refine r_iload_n 1 dX7_routeStillFits_1 rfl rfl ?_
  refine r_callV [vI x1] [] dX7_routeStillFits_2 okX7_isOpen ivX7_isOpen seX7_isOpen lm_X7_138 rfl rfl sh_0 rfl ⟨Nat.le_of_ble_eq_true rfl, Nat.le_of_ble_eq_true rfl, Nat.le_of_ble_eq_true rfl, Nat.le_of_ble_eq_true rfl⟩ h ?_
  rintro _ s2 ⟨r1, rfl, h⟩
  refine r_if_ne (tgt := 35) dX7_routeStillFits_5 (by decide) (fun (c3 : r1 = 0) => ?_) (fun (c3 : ¬ (r1 = 0)) => ?_)
  · replace h := h.1 c3
    refine r_aload_n 0 dX7_routeStillFits_8 rfl rfl ?_
    refine r_getR (j := 3) dX7_routeStillFits_9 sh_0 rfl kc_7 (by decide) lf_X7_26 ?_
    refine r_aload_n 0 dX7_routeStillFits_12 rfl rfl ?_
    refine r_getR (j := 1) dX7_routeStillFits_13 sh_0 rfl kc_7 (by decide) lf_X7_46 ?_
    refine r_getR (j := 0) dX7_routeStillFits_16 pl_74.1 rfl kc_3 (by decide) lf_X7_151 ?_
    refine r_aload_n 0 dX7_routeStillFits_19 rfl rfl ?_
    refine r_getR (j := 1) dX7_routeStillFits_20 sh_0 rfl kc_7 (by decide) lf_X7_46 ?_
    refine r_getR (j := 1) dX7_routeStillFits_23 pl_74.1 rfl kc_3 (by decide) lf_X7_141 ?_
    refine r_iload_n 1 dX7_routeStillFits_26 rfl rfl ?_
    obtain ⟨b4, h⟩ := h
    refine r_iald dX7_routeStillFits_27 pl_74.2.2.1 b4.1 b4.2 ?_
    obtain ⟨b5, h⟩ := h
    refine r_aald dX7_routeStillFits_28 pl_74.2.1 (fun _ => rfl) rfl b5.1 (pl_at b5.1 b5.2) ?_
    refine r_callV [vR (74 + 3 + (s2 (74 + 2) x1.toNat).toNat)] [] dX7_routeStillFits_29 okX6_fits ivX6_fits seX6_fits lm_X7_176 rfl rfl sh_40 rfl ⟨Nat.le_of_ble_eq_true rfl, Nat.le_of_ble_eq_true rfl, Nat.le_of_ble_eq_true rfl, Nat.le_of_ble_eq_true rfl⟩ h ?_
    rintro _ s7 ⟨r6, rfl, h⟩
    obtain ⟨y9, ey9⟩ : ∃ z : Int, z = (if r6 = 0 then 0 else 1) := ⟨_, rfl⟩
    replace h := h y9 ey9
    have hj10 : MWi l G mX7_routeStillFits 40 [] [vI y9] s7 Q := by
      exact r_zret dX7_routeStillFits_40 rfl (by rw [ey9]; (repeat' split) <;> decide) ⟨_, rfl, h⟩
    refine r_if_eq (tgt := 39) dX7_routeStillFits_32 (by decide) (fun (c8 : r6 = 0) => ?_) (fun (c8 : ¬ (r6 = 0)) => ?_)
    · refine r_iconst dX7_routeStillFits_39 (by decide) ?_
      refine MWF.sub [] rfl ?_
      have q11 : y9 = 0 := by rw [ey9, if_pos c8]
      rw [q11] at hj10
      exact hj10
    · refine r_iconst dX7_routeStillFits_35 (by decide) ?_
      refine r_goto (tgt := 40) dX7_routeStillFits_36 (by decide) ?_
      refine MWF.sub [] rfl ?_
      have q12 : y9 = 1 := by rw [ey9, if_neg c8]
      rw [q12] at hj10
      exact hj10
  · replace h := h.2 c3
    refine r_iconst dX7_routeStillFits_35 (by decide) ?_
    refine r_goto (tgt := 40) dX7_routeStillFits_36 (by decide) ?_
    exact r_zret dX7_routeStillFits_40 rfl (by decide) ⟨_, rfl, h⟩
set_option maxRecDepth 100000 in
set_option maxHeartbeats 4000000 in
theorem clX7_allRoutesStillFit (l : Launch) (G : GT) (σ : Sto) (Q : Int → Sto → Prop) 
    (h : MWi l G mX7_allRoutesStillFit 2 [(0, vR 0), (1, vI 0)] [] σ Q) :
    CLi l G mX7_allRoutesStillFit [vR 0] σ Q := by
  show MWi l G mX7_allRoutesStillFit 0 [(0, vR 0)] [] σ Q
  refine r_iconst dX7_allRoutesStillFit_0 (by decide) ?_
  refine r_istore_n dX7_allRoutesStillFit_1 rfl (by decide) rfl ?_
  refine MWF.sub [1, 0] rfl ?_
  exact h
set_option maxRecDepth 100000 in
set_option maxHeartbeats 4000000 in
theorem vcX7_allRoutesStillFit_2 (l : Launch) (G : GT) (σ : Sto) (Q : Int → Sto → Prop) (x1 : Int)
    (h : ((σ 1 0) ≤ x1 → Q 1 σ) ∧ (¬ ((σ 1 0) ≤ x1) → (0 ≤ x1 ∧ x1 < 4) ∧ CLi l G mX6_fits [vR 40, vR (74 + 3 + x1.toNat)] σ (fun r3 s4 => (r3 = 0 → Q 0 s4) ∧ (¬ (r3 = 0) → (-2147483648 ≤ x1 + 1 ∧ x1 + 1 ≤ 2147483647) ∧ MWi l G mX7_allRoutesStillFit 2 [(0, vR 0), (1, vI (x1 + 1))] [] s4 Q)))) :
    MWi l G mX7_allRoutesStillFit 2 [(0, vR 0), (1, vI x1)] [] σ Q := by
  refine r_iload_n 1 dX7_allRoutesStillFit_2 rfl rfl ?_
  refine r_aload_n 0 dX7_allRoutesStillFit_3 rfl rfl ?_
  refine r_getR (j := 0) dX7_allRoutesStillFit_4 sh_0 rfl kc_7 (by decide) lf_X7_22 ?_
  refine r_getI (j := 0) dX7_allRoutesStillFit_7 sh_1 rfl kc_4 (by decide) lf_X7_68 ?_
  refine r_icmp_ge (tgt := 40) dX7_allRoutesStillFit_10 (by decide) (fun (c1 : (σ 1 0) ≤ x1) => ?_) (fun (c1 : ¬ ((σ 1 0) ≤ x1)) => ?_)
  · replace h := h.1 c1
    refine r_iconst dX7_allRoutesStillFit_40 (by decide) ?_
    exact r_zret dX7_allRoutesStillFit_41 rfl (by decide) ⟨_, rfl, h⟩
  · replace h := h.2 c1
    refine r_aload_n 0 dX7_allRoutesStillFit_13 rfl rfl ?_
    refine r_getR (j := 3) dX7_allRoutesStillFit_14 sh_0 rfl kc_7 (by decide) lf_X7_26 ?_
    refine r_aload_n 0 dX7_allRoutesStillFit_17 rfl rfl ?_
    refine r_getR (j := 1) dX7_allRoutesStillFit_18 sh_0 rfl kc_7 (by decide) lf_X7_46 ?_
    refine r_getR (j := 0) dX7_allRoutesStillFit_21 pl_74.1 rfl kc_3 (by decide) lf_X7_151 ?_
    refine r_iload_n 1 dX7_allRoutesStillFit_24 rfl rfl ?_
    obtain ⟨b2, h⟩ := h
    refine r_aald dX7_allRoutesStillFit_25 pl_74.2.1 (fun _ => rfl) rfl b2.1 (pl_at b2.1 b2.2) ?_
    refine r_callV [vR (74 + 3 + x1.toNat)] [] dX7_allRoutesStillFit_26 okX6_fits ivX6_fits seX6_fits lm_X7_176 rfl rfl sh_40 rfl ⟨Nat.le_of_ble_eq_true rfl, Nat.le_of_ble_eq_true rfl, Nat.le_of_ble_eq_true rfl, Nat.le_of_ble_eq_true rfl⟩ h ?_
    rintro _ s4 ⟨r3, rfl, h⟩
    refine r_if_ne (tgt := 34) dX7_allRoutesStillFit_29 (by decide) (fun (c5 : r3 = 0) => ?_) (fun (c5 : ¬ (r3 = 0)) => ?_)
    · replace h := h.1 c5
      refine r_iconst dX7_allRoutesStillFit_32 (by decide) ?_
      exact r_zret dX7_allRoutesStillFit_33 rfl (by decide) ⟨_, rfl, h⟩
    · replace h := h.2 c5
      obtain ⟨b6, h⟩ := h
      refine r_iinc 1 dX7_allRoutesStillFit_34 rfl (by decide) b6 rfl ?_
      refine r_goto (tgt := 2) dX7_allRoutesStillFit_37 (by decide) ?_
      refine MWF.sub [1, 0] rfl ?_
      exact h
set_option maxRecDepth 100000 in
set_option maxHeartbeats 4000000 in
theorem clX7_openRequestError (l : Launch) (G : GT) (σ : Sto) (Q : Int → Sto → Prop) (x1 : Int)
    (h : CLi l G mX7_isRequest [vR 0, vI x1] σ (fun r1 s2 => (r1 = 0 → Q (-1001) s2) ∧ (¬ (r1 = 0) → CLi l G mX7_isOpen [vR 0, vI x1] s2 (fun r4 s5 => ∀ y7 : Int, y7 = (if r4 = 0 then (-1003) else 0) → Q y7 s5)))) :
    CLi l G mX7_openRequestError [vR 0, vI x1] σ Q := by
  show MWi l G mX7_openRequestError 0 [(0, vR 0), (1, vI x1)] [] σ Q
  refine r_aload_n 0 dX7_openRequestError_0 rfl rfl ?_
  refine r_iload_n 1 dX7_openRequestError_1 rfl rfl ?_
  refine r_callV [vI x1] [] dX7_openRequestError_2 okX7_isRequest ivX7_isRequest seX7_isRequest lm_X7_105 rfl rfl sh_0 rfl ⟨Nat.le_of_ble_eq_true rfl, Nat.le_of_ble_eq_true rfl, Nat.le_of_ble_eq_true rfl, Nat.le_of_ble_eq_true rfl⟩ h ?_
  rintro _ s2 ⟨r1, rfl, h⟩
  refine r_if_ne (tgt := 12) dX7_openRequestError_5 (by decide) (fun (c3 : r1 = 0) => ?_) (fun (c3 : ¬ (r1 = 0)) => ?_)
  · replace h := h.1 c3
    refine r_sipush dX7_openRequestError_8 (by decide) (by decide) ?_
    exact r_iret dX7_openRequestError_11 rfl ⟨_, rfl, h⟩
  · replace h := h.2 c3
    refine r_aload_n 0 dX7_openRequestError_12 rfl rfl ?_
    refine r_iload_n 1 dX7_openRequestError_13 rfl rfl ?_
    refine r_callV [vI x1] [] dX7_openRequestError_14 okX7_isOpen ivX7_isOpen seX7_isOpen lm_X7_138 rfl rfl sh_0 rfl ⟨Nat.le_of_ble_eq_true rfl, Nat.le_of_ble_eq_true rfl, Nat.le_of_ble_eq_true rfl, Nat.le_of_ble_eq_true rfl⟩ h ?_
    rintro _ s5 ⟨r4, rfl, h⟩
    obtain ⟨y7, ey7⟩ : ∃ z : Int, z = (if r4 = 0 then (-1003) else 0) := ⟨_, rfl⟩
    replace h := h y7 ey7
    have hj8 : MWi l G mX7_openRequestError 27 [] [vI y7] s5 Q := by
      exact r_iret dX7_openRequestError_27 rfl ⟨_, rfl, h⟩
    refine r_if_eq (tgt := 24) dX7_openRequestError_17 (by decide) (fun (c6 : r4 = 0) => ?_) (fun (c6 : ¬ (r4 = 0)) => ?_)
    · refine r_sipush dX7_openRequestError_24 (by decide) (by decide) ?_
      refine MWF.sub [] rfl ?_
      have q9 : y7 = (-1003) := by rw [ey7, if_pos c6]
      rw [q9] at hj8
      exact hj8
    · refine r_iconst dX7_openRequestError_20 (by decide) ?_
      refine r_goto (tgt := 27) dX7_openRequestError_21 (by decide) ?_
      refine MWF.sub [] rfl ?_
      have q10 : y7 = 0 := by rw [ey7, if_neg c6]
      rw [q10] at hj8
      exact hj8
set_option maxRecDepth 100000 in
set_option maxHeartbeats 4000000 in
theorem clX7_openRequestError_ (l : Launch) (G : GT) (σ : Sto) (Q : Int → Sto → Prop) (x1 : Int) (x2 : Int)
    (h : CLi l G mX7_isVehicle [vR 0, vI x2] σ (fun r1 s2 => (r1 = 0 → Q (-1001) s2) ∧ (¬ (r1 = 0) → CLi l G mX7_openRequestError [vR 0, vI x1] s2 (fun r4 s5 => Q r4 s5)))) :
    CLi l G mX7_openRequestError_ [vR 0, vI x1, vI x2] σ Q := by
  show MWi l G mX7_openRequestError_ 0 [(0, vR 0), (1, vI x1), (2, vI x2)] [] σ Q
  refine r_aload_n 0 dX7_openRequestError__0 rfl rfl ?_
  refine r_iload_n 2 dX7_openRequestError__1 rfl rfl ?_
  refine r_callV [vI x2] [] dX7_openRequestError__2 okX7_isVehicle ivX7_isVehicle seX7_isVehicle lm_X7_148 rfl rfl sh_0 rfl ⟨Nat.le_of_ble_eq_true rfl, Nat.le_of_ble_eq_true rfl, Nat.le_of_ble_eq_true rfl, Nat.le_of_ble_eq_true rfl⟩ h ?_
  rintro _ s2 ⟨r1, rfl, h⟩
  refine r_if_eq (tgt := 16) dX7_openRequestError__5 (by decide) (fun (c3 : r1 = 0) => ?_) (fun (c3 : ¬ (r1 = 0)) => ?_)
  · replace h := h.1 c3
    refine r_sipush dX7_openRequestError__16 (by decide) (by decide) ?_
    exact r_iret dX7_openRequestError__19 rfl ⟨_, rfl, h⟩
  · replace h := h.2 c3
    refine r_aload_n 0 dX7_openRequestError__8 rfl rfl ?_
    refine r_iload_n 1 dX7_openRequestError__9 rfl rfl ?_
    refine r_callV [vI x1] [] dX7_openRequestError__10 okX7_openRequestError ivX7_openRequestError seX7_openRequestError lm_X7_245 rfl rfl sh_0 rfl ⟨Nat.le_of_ble_eq_true rfl, Nat.le_of_ble_eq_true rfl, Nat.le_of_ble_eq_true rfl, Nat.le_of_ble_eq_true rfl⟩ h ?_
    rintro _ s5 ⟨r4, rfl, h⟩
    refine r_goto (tgt := 19) dX7_openRequestError__13 (by decide) ?_
    exact r_iret dX7_openRequestError__19 rfl ⟨_, rfl, h⟩
set_option maxRecDepth 100000 in
set_option maxHeartbeats 4000000 in
theorem clX7_insertionError (l : Launch) (G : GT) (σ : Sto) (Q : Int → Sto → Prop) (x1 : Int) (x2 : Int) (x3 : Int) (x4 : Int)
    (h : CLi l G mX7_isRequest [vR 0, vI x1] σ (fun r1 s2 => (r1 = 0 → Q (-1001) s2) ∧ (¬ (r1 = 0) → CLi l G mX7_isVehicle [vR 0, vI x2] s2 (fun r4 s5 => (r4 = 0 → Q (-1001) s5) ∧ (¬ (r4 = 0) → (0 ≤ x2 ∧ x2 < 4) ∧ (x3 < 0 → Q (-1002) s5) ∧ (¬ (x3 < 0) → (x4 ≤ x3 → Q (-1002) s5) ∧ (¬ (x4 ≤ x3) → (-2147483648 ≤ (s5 (74 + 3 + x2.toNat) 2) + 1 ∧ (s5 (74 + 3 + x2.toNat) 2) + 1 ≤ 2147483647) ∧ (x4 ≤ ((s5 (74 + 3 + x2.toNat) 2) + 1) → CLi l G mX7_isOpen [vR 0, vI x1] s5 (fun r12 s13 => (r12 = 0 → Q (-1003) s13) ∧ (¬ (r12 = 0) → CLr l G mX1_routeWith [vR 50, vR (74 + 3 + x2.toNat), vI x1, vI x3, vI x4] s13 (fun r15 s16 => (r15 = 51) ∧ CLi l G mX6_fits [vR 40, vR 51] s16 (fun r17 s18 => ∀ y20 : Int, y20 = (if r17 = 0 then (-1005) else 0) → Q y20 s18))))) ∧ (¬ (x4 ≤ ((s5 (74 + 3 + x2.toNat) 2) + 1)) → Q (-1002) s5)))))))) :
    CLi l G mX7_insertionError [vR 0, vI x1, vI x2, vI x3, vI x4] σ Q := by
  show MWi l G mX7_insertionError 0 [(0, vR 0), (1, vI x1), (2, vI x2), (3, vI x3), (4, vI x4)] [] σ Q
  refine r_aload_n 0 dX7_insertionError_0 rfl rfl ?_
  refine r_iload_n 1 dX7_insertionError_1 rfl rfl ?_
  refine r_callV [vI x1] [] dX7_insertionError_2 okX7_isRequest ivX7_isRequest seX7_isRequest lm_X7_105 rfl rfl sh_0 rfl ⟨Nat.le_of_ble_eq_true rfl, Nat.le_of_ble_eq_true rfl, Nat.le_of_ble_eq_true rfl, Nat.le_of_ble_eq_true rfl⟩ h ?_
  rintro _ s2 ⟨r1, rfl, h⟩
  refine r_if_eq (tgt := 16) dX7_insertionError_5 (by decide) (fun (c3 : r1 = 0) => ?_) (fun (c3 : ¬ (r1 = 0)) => ?_)
  · replace h := h.1 c3
    refine r_sipush dX7_insertionError_16 (by decide) (by decide) ?_
    exact r_iret dX7_insertionError_19 rfl ⟨_, rfl, h⟩
  · replace h := h.2 c3
    refine r_aload_n 0 dX7_insertionError_8 rfl rfl ?_
    refine r_iload_n 2 dX7_insertionError_9 rfl rfl ?_
    refine r_callV [vI x2] [] dX7_insertionError_10 okX7_isVehicle ivX7_isVehicle seX7_isVehicle lm_X7_148 rfl rfl sh_0 rfl ⟨Nat.le_of_ble_eq_true rfl, Nat.le_of_ble_eq_true rfl, Nat.le_of_ble_eq_true rfl, Nat.le_of_ble_eq_true rfl⟩ h ?_
    rintro _ s5 ⟨r4, rfl, h⟩
    refine r_if_ne (tgt := 20) dX7_insertionError_13 (by decide) (fun (c6 : r4 = 0) => ?_) (fun (c6 : ¬ (r4 = 0)) => ?_)
    · replace h := h.1 c6
      refine r_sipush dX7_insertionError_16 (by decide) (by decide) ?_
      exact r_iret dX7_insertionError_19 rfl ⟨_, rfl, h⟩
    · replace h := h.2 c6
      refine r_aload_n 0 dX7_insertionError_20 rfl rfl ?_
      refine r_getR (j := 1) dX7_insertionError_21 sh_0 rfl kc_7 (by decide) lf_X7_46 ?_
      refine r_getR (j := 0) dX7_insertionError_24 pl_74.1 rfl kc_3 (by decide) lf_X7_151 ?_
      refine r_iload_n 2 dX7_insertionError_27 rfl rfl ?_
      obtain ⟨b7, h⟩ := h
      refine r_aald dX7_insertionError_28 pl_74.2.1 (fun _ => rfl) rfl b7.1 (pl_at b7.1 b7.2) ?_
      refine r_astore dX7_insertionError_29 (by decide) rfl ?_
      refine r_iload_n 4 dX7_insertionError_31 rfl rfl ?_
      refine r_if_lt (tgt := 53) dX7_insertionError_32 (by decide) (fun (c8 : x3 < 0) => ?_) (fun (c8 : ¬ (x3 < 0)) => ?_)
      · replace h := h.1 c8
        refine r_sipush dX7_insertionError_53 (by decide) (by decide) ?_
        exact r_iret dX7_insertionError_56 rfl ⟨_, rfl, h⟩
      · replace h := h.2 c8
        refine r_iload 5 dX7_insertionError_35 rfl ?_
        refine r_iload_n 4 dX7_insertionError_37 rfl rfl ?_
        refine r_icmp_le (tgt := 53) dX7_insertionError_38 (by decide) (fun (c9 : x4 ≤ x3) => ?_) (fun (c9 : ¬ (x4 ≤ x3)) => ?_)
        · replace h := h.1 c9
          refine r_sipush dX7_insertionError_53 (by decide) (by decide) ?_
          exact r_iret dX7_insertionError_56 rfl ⟨_, rfl, h⟩
        · replace h := h.2 c9
          refine r_iload 5 dX7_insertionError_41 rfl ?_
          refine r_aload 0 dX7_insertionError_43 rfl ?_
          refine r_getI (j := 2) dX7_insertionError_45 (pl_rt pl_74 b7.1 b7.2).1 rfl kc_5 (by decide) lf_X7_155 ?_
          refine r_iconst dX7_insertionError_48 (by decide) ?_
          obtain ⟨b10, h⟩ := h
          refine r_iadd dX7_insertionError_49 b10 ?_
          refine r_icmp_le (tgt := 57) dX7_insertionError_50 (by decide) (fun (c11 : x4 ≤ ((s5 (74 + 3 + x2.toNat) 2) + 1)) => ?_) (fun (c11 : ¬ (x4 ≤ ((s5 (74 + 3 + x2.toNat) 2) + 1))) => ?_)
          · replace h := h.1 c11
            refine r_aload_n 1 dX7_insertionError_57 rfl rfl ?_
            refine r_iload_n 2 dX7_insertionError_58 rfl rfl ?_
            refine r_callV [vI x1] [] dX7_insertionError_59 okX7_isOpen ivX7_isOpen seX7_isOpen lm_X7_138 rfl rfl sh_0 rfl ⟨Nat.le_of_ble_eq_true rfl, Nat.le_of_ble_eq_true rfl, Nat.le_of_ble_eq_true rfl, Nat.le_of_ble_eq_true rfl⟩ h ?_
            rintro _ s13 ⟨r12, rfl, h⟩
            refine r_if_ne (tgt := 69) dX7_insertionError_62 (by decide) (fun (c14 : r12 = 0) => ?_) (fun (c14 : ¬ (r12 = 0)) => ?_)
            · replace h := h.1 c14
              refine r_sipush dX7_insertionError_65 (by decide) (by decide) ?_
              exact r_iret dX7_insertionError_68 rfl ⟨_, rfl, h⟩
            · replace h := h.2 c14
              refine r_aload_n 1 dX7_insertionError_69 rfl rfl ?_
              refine r_getR (j := 3) dX7_insertionError_70 sh_0 rfl kc_7 (by decide) lf_X7_26 ?_
              refine r_aload_n 1 dX7_insertionError_73 rfl rfl ?_
              refine r_getR (j := 4) dX7_insertionError_74 sh_0 rfl kc_7 (by decide) lf_X7_30 ?_
              refine r_aload 0 dX7_insertionError_77 rfl ?_
              refine r_iload_n 2 dX7_insertionError_79 rfl rfl ?_
              refine r_iload_n 4 dX7_insertionError_80 rfl rfl ?_
              refine r_iload 5 dX7_insertionError_81 rfl ?_
              refine r_callV [vR (74 + 3 + x2.toNat), vI x1, vI x3, vI x4] [vR 40] dX7_insertionError_83 okX1_routeWith ivX1_routeWith seX1_routeWith lm_X7_284 rfl rfl sh_50 rfl ⟨Nat.le_of_ble_eq_true rfl, Nat.le_of_ble_eq_true rfl, Nat.le_of_ble_eq_true rfl, Nat.le_of_ble_eq_true rfl⟩ h ?_
              rintro _ s16 ⟨r15, rfl, h⟩
              obtain ⟨e, h⟩ := h
              subst e
              refine r_callV [vR 51] [] dX7_insertionError_86 okX6_fits ivX6_fits seX6_fits lm_X7_176 rfl rfl sh_40 rfl ⟨Nat.le_of_ble_eq_true rfl, Nat.le_of_ble_eq_true rfl, Nat.le_of_ble_eq_true rfl, Nat.le_of_ble_eq_true rfl⟩ h ?_
              rintro _ s18 ⟨r17, rfl, h⟩
              obtain ⟨y20, ey20⟩ : ∃ z : Int, z = (if r17 = 0 then (-1005) else 0) := ⟨_, rfl⟩
              replace h := h y20 ey20
              have hj21 : MWi l G mX7_insertionError 99 [] [vI y20] s18 Q := by
                exact r_iret dX7_insertionError_99 rfl ⟨_, rfl, h⟩
              refine r_if_eq (tgt := 96) dX7_insertionError_89 (by decide) (fun (c19 : r17 = 0) => ?_) (fun (c19 : ¬ (r17 = 0)) => ?_)
              · refine r_sipush dX7_insertionError_96 (by decide) (by decide) ?_
                refine MWF.sub [] rfl ?_
                have q22 : y20 = (-1005) := by rw [ey20, if_pos c19]
                rw [q22] at hj21
                exact hj21
              · refine r_iconst dX7_insertionError_92 (by decide) ?_
                refine r_goto (tgt := 99) dX7_insertionError_93 (by decide) ?_
                refine MWF.sub [] rfl ?_
                have q23 : y20 = 0 := by rw [ey20, if_neg c19]
                rw [q23] at hj21
                exact hj21
          · replace h := h.2 c11
            refine r_sipush dX7_insertionError_53 (by decide) (by decide) ?_
            exact r_iret dX7_insertionError_56 rfl ⟨_, rfl, h⟩
set_option maxRecDepth 100000 in
set_option maxHeartbeats 4000000 in
theorem clX7_carryOutInsertion (l : Launch) (G : GT) (σ : Sto) (Q : Int → Sto → Prop) (x1 : Int)
    (h : ((σ 50 0) = 0 → Q 0 σ) ∧ (¬ ((σ 50 0) = 0) → CLv l G mX0_record [vR 53, vR 74] σ (fun s3 => CLi l G mX1_carryOut [vR 50, vR 74, vI x1] s3 (fun r4 s5 => (r4 = 0 ∨ r4 = 1) ∧ Q r4 s5)))) :
    CLi l G mX7_carryOutInsertion [vR 0, vI x1] σ Q := by
  show MWi l G mX7_carryOutInsertion 0 [(0, vR 0), (1, vI x1)] [] σ Q
  refine r_aload_n 0 dX7_carryOutInsertion_0 rfl rfl ?_
  refine r_getR (j := 4) dX7_carryOutInsertion_1 sh_0 rfl kc_7 (by decide) lf_X7_30 ?_
  refine r_getI (j := 0) dX7_carryOutInsertion_4 sh_50 rfl kc_1 (by decide) lf_X7_229 ?_
  refine r_if_ne (tgt := 12) dX7_carryOutInsertion_7 (by decide) (fun (c1 : (σ 50 0) = 0) => ?_) (fun (c1 : ¬ ((σ 50 0) = 0)) => ?_)
  · replace h := h.1 c1
    refine r_iconst dX7_carryOutInsertion_10 (by decide) ?_
    exact r_zret dX7_carryOutInsertion_11 rfl (by decide) ⟨_, rfl, h⟩
  · replace h := h.2 c1
    refine r_aload_n 0 dX7_carryOutInsertion_12 rfl rfl ?_
    refine r_getR (j := 2) dX7_carryOutInsertion_13 sh_0 rfl kc_7 (by decide) lf_X7_53 ?_
    refine r_aload_n 0 dX7_carryOutInsertion_16 rfl rfl ?_
    refine r_getR (j := 1) dX7_carryOutInsertion_17 sh_0 rfl kc_7 (by decide) lf_X7_46 ?_
    refine r_callV [vR 74] [] dX7_carryOutInsertion_20 okX0_record ivX0_record seX0_record lm_X7_210 rfl rfl sh_53 rfl ⟨Nat.le_of_ble_eq_true rfl, Nat.le_of_ble_eq_true rfl, Nat.le_of_ble_eq_true rfl, Nat.le_of_ble_eq_true rfl⟩ h ?_
    rintro _ s3 ⟨rfl, h⟩
    refine r_aload_n 0 dX7_carryOutInsertion_23 rfl rfl ?_
    refine r_getR (j := 4) dX7_carryOutInsertion_24 sh_0 rfl kc_7 (by decide) lf_X7_30 ?_
    refine r_aload_n 0 dX7_carryOutInsertion_27 rfl rfl ?_
    refine r_getR (j := 1) dX7_carryOutInsertion_28 sh_0 rfl kc_7 (by decide) lf_X7_46 ?_
    refine r_iload_n 1 dX7_carryOutInsertion_31 rfl rfl ?_
    refine r_callV [vR 74, vI x1] [] dX7_carryOutInsertion_32 okX1_carryOut ivX1_carryOut seX1_carryOut lm_X7_288 rfl rfl sh_50 rfl ⟨Nat.le_of_ble_eq_true rfl, Nat.le_of_ble_eq_true rfl, Nat.le_of_ble_eq_true rfl, Nat.le_of_ble_eq_true rfl⟩ h ?_
    rintro _ s5 ⟨r4, rfl, h⟩
    obtain ⟨b6, h⟩ := h
    exact r_zret dX7_carryOutInsertion_35 rfl b6 ⟨_, rfl, h⟩

