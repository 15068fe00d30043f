set_option maxRecDepth 100000 in
set_option maxHeartbeats 4000000 in
theorem clX0_forget (l : Launch) (G : GT) (σ : Sto) (Q : Sto → Prop) 
    (h : Q (stS σ 53 0 0)) :
    CLv l G mX0_forget [vR 53] σ Q := by
  show MWv l G mX0_forget 0 [(0, vR 53)] [] σ Q
  refine r_aload_n 0 dX0_forget_0 rfl rfl ?_
  refine r_iconst dX0_forget_1 (by decide) ?_
  refine r_putI (j := 0) dX0_forget_2 sh_53 rfl kc_0 (by decide) lf_X0_9 rfl (by decide) ?_
  exact r_vret dX0_forget_5 rfl ⟨rfl, h⟩
set_option maxRecDepth 100000 in
set_option maxHeartbeats 4000000 in
theorem clX0_record (l : Launch) (G : GT) (σ : Sto) (Q : Sto → Prop) (x1 : Nat) (hx1 : isPl x1)
    (h : (((σ 53 0) = 10 → (-2147483648 ≤ (σ 53 1) + 1 ∧ (σ 53 1) + 1 ≤ 2147483647) ∧ (0 ≤ ((σ 53 1) + 1)) ∧ (-2147483648 ≤ (σ 53 0) - 1 ∧ (σ 53 0) - 1 ≤ 2147483647) ∧ True)) ∧ ∀ s6 : Sto, s6 = (if (σ 53 0) = 10 then (stS (stS σ 53 1 (((σ 53 1) + 1) % 10)) 53 0 ((σ 53 0) - 1)) else σ) → (-2147483648 ≤ (s6 53 1) + (s6 53 0) ∧ (s6 53 1) + (s6 53 0) ≤ 2147483647) ∧ (0 ≤ ((s6 53 1) + (s6 53 0))) ∧ (0 ≤ (((s6 53 1) + (s6 53 0)) % 10) ∧ (((s6 53 1) + (s6 53 0)) % 10) < 10) ∧ CLv l G mX3_become [vR (118 + 11 * (((s6 53 1) + (s6 53 0)) % 10).toNat), vR x1] s6 (fun s14 => (-2147483648 ≤ (s14 53 0) + 1 ∧ (s14 53 0) + 1 ≤ 2147483647) ∧ Q (stS s14 53 0 ((s14 53 0) + 1)))) :
    CLv l G mX0_record [vR 53, vR x1] σ Q := by
  show MWv l G mX0_record 0 [(0, vR 53), (1, vR x1)] [] σ Q
  refine r_aload_n 0 dX0_record_0 rfl rfl ?_
  refine r_getI (j := 0) dX0_record_1 sh_53 rfl kc_0 (by decide) lf_X0_9 ?_
  refine r_bipush dX0_record_4 (by decide) (by decide) ?_
  obtain ⟨q5, h⟩ := h
  obtain ⟨s6, es6⟩ : ∃ z : Sto, z = (if (σ 53 0) = 10 then (stS (stS σ 53 1 (((σ 53 1) + 1) % 10)) 53 0 ((σ 53 0) - 1)) else σ) := ⟨_, rfl⟩
  replace h := h s6 es6
  have hj7 : MWv l G mX0_record 32 [(0, vR 53), (1, vR x1)] [] s6 Q := by
    refine r_aload_n 0 dX0_record_32 rfl rfl ?_
    refine r_getR (j := 2) dX0_record_33 sh_53 rfl kc_0 (by decide) lf_X0_20 ?_
    refine r_aload_n 0 dX0_record_36 rfl rfl ?_
    refine r_getI (j := 1) dX0_record_37 sh_53 rfl kc_0 (by decide) lf_X0_15 ?_
    refine r_aload_n 0 dX0_record_40 rfl rfl ?_
    refine r_getI (j := 0) dX0_record_41 sh_53 rfl kc_0 (by decide) lf_X0_9 ?_
    obtain ⟨b10, h⟩ := h
    refine r_iadd dX0_record_44 b10 ?_
    refine r_bipush dX0_record_45 (by decide) (by decide) ?_
    obtain ⟨b11, h⟩ := h
    refine r_irem dX0_record_47 b11 (by decide) ?_
    obtain ⟨b12, h⟩ := h
    refine r_aald dX0_record_48 sh_54 (fun _ => rfl) rfl b12.1 (hp_at b12.1 b12.2) ?_
    refine r_aload_n 1 dX0_record_49 rfl rfl ?_
    refine r_callV [vR x1] [] dX0_record_50 okX3_become ivX3_become seX3_become lm_X0_25 rfl rfl (hp_pl b12.1 b12.2).1 rfl ⟨Nat.le_of_ble_eq_true rfl, Nat.le_of_ble_eq_true rfl, Nat.le_of_ble_eq_true rfl, Nat.le_of_ble_eq_true rfl⟩ h ?_
    rintro _ s14 ⟨rfl, h⟩
    refine r_aload_n 0 dX0_record_53 rfl rfl ?_
    refine r_dup dX0_record_54 ?_
    refine r_getI (j := 0) dX0_record_55 sh_53 rfl kc_0 (by decide) lf_X0_9 ?_
    refine r_iconst dX0_record_58 (by decide) ?_
    obtain ⟨b15, h⟩ := h
    refine r_iadd dX0_record_59 b15 ?_
    refine r_putI (j := 0) dX0_record_60 sh_53 rfl kc_0 (by decide) lf_X0_9 rfl (by decide) ?_
    exact r_vret dX0_record_63 rfl ⟨rfl, h⟩
  replace h := q5
  refine r_icmp_ne (tgt := 32) dX0_record_6 (by decide) (fun (c1 : (σ 53 0) = 10) => ?_) (fun (c1 : ¬ ((σ 53 0) = 10)) => ?_)
  · replace h := h c1
    refine r_aload_n 0 dX0_record_9 rfl rfl ?_
    refine r_aload_n 0 dX0_record_10 rfl rfl ?_
    refine r_getI (j := 1) dX0_record_11 sh_53 rfl kc_0 (by decide) lf_X0_15 ?_
    refine r_iconst dX0_record_14 (by decide) ?_
    obtain ⟨b2, h⟩ := h
    refine r_iadd dX0_record_15 b2 ?_
    refine r_bipush dX0_record_16 (by decide) (by decide) ?_
    obtain ⟨b3, h⟩ := h
    refine r_irem dX0_record_18 b3 (by decide) ?_
    refine r_putI (j := 1) dX0_record_19 sh_53 rfl kc_0 (by decide) lf_X0_15 rfl (by decide) ?_
    refine r_aload_n 0 dX0_record_22 rfl rfl ?_
    refine r_dup dX0_record_23 ?_
    refine r_getI (j := 0) dX0_record_24 sh_53 rfl kc_0 (by decide) lf_X0_9 ?_
    refine MWF.top (stS_ni (by decide)) ?_
    refine r_iconst dX0_record_27 (by decide) ?_
    obtain ⟨b4, h⟩ := h
    refine r_isub dX0_record_28 b4 ?_
    refine r_putI (j := 0) dX0_record_29 sh_53 rfl kc_0 (by decide) lf_X0_9 rfl (by decide) ?_
    refine MWF.sub [0, 1] rfl ?_
    have q8 : s6 = (stS (stS σ 53 1 (((σ 53 1) + 1) % 10)) 53 0 ((σ 53 0) - 1)) := by rw [es6, if_pos c1]
    rw [q8] at hj7
    exact hj7
  · refine MWF.sub [0, 1] rfl ?_
    have q9 : s6 = σ := by rw [es6, if_neg c1]
    rw [q9] at hj7
    exact hj7
set_option maxRecDepth 100000 in
set_option maxHeartbeats 4000000 in
theorem clX0_restoreLatest (l : Launch) (G : GT) (σ : Sto) (Q : Sto → Prop) (x1 : Nat) (hx1 : isPl x1)
    (h : ((σ 53 0) ≤ 0 → Q σ) ∧ (¬ ((σ 53 0) ≤ 0) → (-2147483648 ≤ (σ 53 0) - 1 ∧ (σ 53 0) - 1 ≤ 2147483647) ∧ (-2147483648 ≤ (σ 53 1) + ((σ 53 0) - 1) ∧ (σ 53 1) + ((σ 53 0) - 1) ≤ 2147483647) ∧ (0 ≤ ((σ 53 1) + ((σ 53 0) - 1))) ∧ (0 ≤ (((σ 53 1) + ((σ 53 0) - 1)) % 10) ∧ (((σ 53 1) + ((σ 53 0) - 1)) % 10) < 10) ∧ CLv l G mX3_become [vR x1, vR (118 + 11 * (((σ 53 1) + ((σ 53 0) - 1)) % 10).toNat)] (stS σ 53 0 ((σ 53 0) - 1)) (fun s7 => Q s7))) :
    CLv l G mX0_restoreLatest [vR 53, vR x1] σ Q := by
  show MWv l G mX0_restoreLatest 0 [(0, vR 53), (1, vR x1)] [] σ Q
  refine r_aload_n 0 dX0_restoreLatest_0 rfl rfl ?_
  refine r_getI (j := 0) dX0_restoreLatest_1 sh_53 rfl kc_0 (by decide) lf_X0_9 ?_
  refine r_if_le (tgt := 38) dX0_restoreLatest_4 (by decide) (fun (c1 : (σ 53 0) ≤ 0) => ?_) (fun (c1 : ¬ ((σ 53 0) ≤ 0)) => ?_)
  · replace h := h.1 c1
    exact r_vret dX0_restoreLatest_38 rfl ⟨rfl, h⟩
  · replace h := h.2 c1
    refine r_aload_n 0 dX0_restoreLatest_7 rfl rfl ?_
    refine r_dup dX0_restoreLatest_8 ?_
    refine r_getI (j := 0) dX0_restoreLatest_9 sh_53 rfl kc_0 (by decide) lf_X0_9 ?_
    refine r_iconst dX0_restoreLatest_12 (by decide) ?_
    obtain ⟨b2, h⟩ := h
    refine r_isub dX0_restoreLatest_13 b2 ?_
    refine r_putI (j := 0) dX0_restoreLatest_14 sh_53 rfl kc_0 (by decide) lf_X0_9 rfl (by decide) ?_
    refine r_aload_n 1 dX0_restoreLatest_17 rfl rfl ?_
    refine r_aload_n 0 dX0_restoreLatest_18 rfl rfl ?_
    refine r_getR (j := 2) dX0_restoreLatest_19 sh_53 rfl kc_0 (by decide) lf_X0_20 ?_
    refine r_aload_n 0 dX0_restoreLatest_22 rfl rfl ?_
    refine r_getI (j := 1) dX0_restoreLatest_23 sh_53 rfl kc_0 (by decide) lf_X0_15 ?_
    refine MWF.top (stS_ni (by decide)) ?_
    refine r_aload_n 0 dX0_restoreLatest_26 rfl rfl ?_
    refine r_getI (j := 0) dX0_restoreLatest_27 sh_53 rfl kc_0 (by decide) lf_X0_9 ?_
    refine MWF.top stS_eq ?_
    obtain ⟨b3, h⟩ := h
    refine r_iadd dX0_restoreLatest_30 b3 ?_
    refine r_bipush dX0_restoreLatest_31 (by decide) (by decide) ?_
    obtain ⟨b4, h⟩ := h
    refine r_irem dX0_restoreLatest_33 b4 (by decide) ?_
    obtain ⟨b5, h⟩ := h
    refine r_aald dX0_restoreLatest_34 sh_54 (fun _ => rfl) rfl b5.1 (hp_at b5.1 b5.2) ?_
    refine r_callV [vR (118 + 11 * (((σ 53 1) + ((σ 53 0) - 1)) % 10).toNat)] [] dX0_restoreLatest_35 okX3_become ivX3_become seX3_become lm_X0_25 rfl rfl hx1.1 rfl ⟨Nat.le_of_ble_eq_true rfl, Nat.le_of_ble_eq_true rfl, Nat.le_of_ble_eq_true rfl, Nat.le_of_ble_eq_true rfl⟩ h ?_
    rintro _ s7 ⟨rfl, h⟩
    exact r_vret dX0_restoreLatest_38 rfl ⟨rfl, h⟩
set_option maxRecDepth 100000 in
set_option maxHeartbeats 4000000 in
theorem clX1_routeWith (l : Launch) (G : GT) (σ : Sto) (Q : Nat → Sto → Prop) (x1 : Nat) (x2 : Int) (x3 : Int) (x4 : Int) (hx1 : isRt x1)
    (h : CLv l G mX5_become [vR 51, vR x1] σ (fun s2 => CLv l G mX5_put [vR 51, vI x2, vI x3, vI x4] s2 (fun s4 => Q 51 s4))) :
    CLr l G mX1_routeWith [vR 50, vR x1, vI x2, vI x3, vI x4] σ Q := by
  show MWr l G mX1_routeWith 0 [(0, vR 50), (1, vR x1), (2, vI x2), (3, vI x3), (4, vI x4)] [] σ Q
  refine r_aload_n 0 dX1_routeWith_0 rfl rfl ?_
  refine r_getR (j := 7) dX1_routeWith_1 sh_50 rfl kc_1 (by decide) lf_X1_33 ?_
  refine r_aload_n 1 dX1_routeWith_4 rfl rfl ?_
  refine r_callV [vR x1] [] dX1_routeWith_5 okX5_become ivX5_become seX5_become lm_X1_45 rfl rfl rt_51.1 rfl ⟨Nat.le_of_ble_eq_true rfl, Nat.le_of_ble_eq_true rfl, Nat.le_of_ble_eq_true rfl, Nat.le_of_ble_eq_true rfl⟩ h ?_
  rintro _ s2 ⟨rfl, h⟩
  refine r_aload_n 0 dX1_routeWith_8 rfl rfl ?_
  refine r_getR (j := 7) dX1_routeWith_9 sh_50 rfl kc_1 (by decide) lf_X1_33 ?_
  refine r_iload_n 2 dX1_routeWith_12 rfl rfl ?_
  refine r_iload_n 3 dX1_routeWith_13 rfl rfl ?_
  refine r_iload 4 dX1_routeWith_14 rfl ?_
  refine r_callV [vI x2, vI x3, vI x4] [] dX1_routeWith_16 okX5_put ivX5_put seX5_put lm_X1_49 rfl rfl rt_51.1 rfl ⟨Nat.le_of_ble_eq_true rfl, Nat.le_of_ble_eq_true rfl, Nat.le_of_ble_eq_true rfl, Nat.le_of_ble_eq_true rfl⟩ h ?_
  rintro _ s4 ⟨rfl, h⟩
  refine r_aload_n 0 dX1_routeWith_19 rfl rfl ?_
  refine r_getR (j := 7) dX1_routeWith_20 sh_50 rfl kc_1 (by decide) lf_X1_33 ?_
  exact r_aret dX1_routeWith_23 rfl ⟨_, rfl, h⟩
set_option maxRecDepth 100000 in
set_option maxHeartbeats 4000000 in
theorem clX1_startOver (l : Launch) (G : GT) (σ : Sto) (Q : Sto → Prop) 
    (h : Q (stS (stS (stS σ 50 0 0) 50 1 1000000) 50 2 (-1))) :
    CLv l G mX1_startOver [vR 50] σ Q := by
  show MWv l G mX1_startOver 0 [(0, vR 50)] [] σ Q
  refine r_aload_n 0 dX1_startOver_0 rfl rfl ?_
  refine r_iconst dX1_startOver_1 (by decide) ?_
  refine r_putZ (j := 0) dX1_startOver_2 sh_50 rfl kc_1 (by decide) lf_X1_9 rfl (by decide) (by decide) ?_
  refine r_aload_n 0 dX1_startOver_5 rfl rfl ?_
  refine r_ldc (n := 1000000) dX1_startOver_6 lc_X1_53 (by decide) ?_
  refine r_putI (j := 1) dX1_startOver_8 sh_50 rfl kc_1 (by decide) lf_X1_15 rfl (by decide) ?_
  refine r_aload_n 0 dX1_startOver_11 rfl rfl ?_
  refine r_iconst dX1_startOver_12 (by decide) ?_
  refine r_putI (j := 2) dX1_startOver_13 sh_50 rfl kc_1 (by decide) lf_X1_19 rfl (by decide) ?_
  exact r_vret dX1_startOver_16 rfl ⟨rfl, h⟩
set_option maxRecDepth 100000 in
set_option maxHeartbeats 4000000 in
theorem clX1_tryRoute (l : Launch) (G : GT) (σ : Sto) (Q : Sto → Prop) (x1 : Nat) (x2 : Int) (hx1 : isRt x1)
    (h : MWv l G mX1_tryRoute 2 [(0, vR 50), (1, vR x1), (2, vI x2), (3, vI 0)] [] σ Q) :
    CLv l G mX1_tryRoute [vR 50, vR x1, vI x2] σ Q := by
  show MWv l G mX1_tryRoute 0 [(0, vR 50), (1, vR x1), (2, vI x2)] [] σ Q
  refine r_iconst dX1_tryRoute_0 (by decide) ?_
  refine r_istore_n dX1_tryRoute_1 rfl (by decide) rfl ?_
  refine MWF.sub [1, 2, 3, 0] rfl ?_
  exact h
set_option maxRecDepth 100000 in
set_option maxHeartbeats 4000000 in
theorem vcX1_tryRoute_2 (l : Launch) (G : GT) (σ : Sto) (Q : Sto → Prop) (x1 : Nat) (x2 : Int) (x3 : Int) (hx1 : isRt x1)
    (h : ((σ x1 2) < x3 → Q σ) ∧ (¬ ((σ x1 2) < x3) → (-2147483648 ≤ x3 + 1 ∧ x3 + 1 ≤ 2147483647) ∧ MWv l G mX1_tryRoute 15 [(0, vR 50), (1, vR x1), (2, vI x2), (3, vI x3), (4, vI (x3 + 1))] [] σ Q)) :
    MWv l G mX1_tryRoute 2 [(0, vR 50), (1, vR x1), (2, vI x2), (3, vI x3)] [] σ Q := by
  refine r_iload_n 3 dX1_tryRoute_2 rfl rfl ?_
  refine r_aload_n 1 dX1_tryRoute_3 rfl rfl ?_
  refine r_getI (j := 2) dX1_tryRoute_4 hx1.1 rfl kc_5 (by decide) lf_X1_54 ?_
  refine r_icmp_gt (tgt := 110) dX1_tryRoute_7 (by decide) (fun (c1 : (σ x1 2) < x3) => ?_) (fun (c1 : ¬ ((σ x1 2) < x3)) => ?_)
  · replace h := h.1 c1
    exact r_vret dX1_tryRoute_110 rfl ⟨rfl, h⟩
  · replace h := h.2 c1
    refine r_iload_n 3 dX1_tryRoute_10 rfl rfl ?_
    refine r_iconst dX1_tryRoute_11 (by decide) ?_
    obtain ⟨b2, h⟩ := h
    refine r_iadd dX1_tryRoute_12 b2 ?_
    refine r_istore dX1_tryRoute_13 (by decide) rfl ?_
    refine MWF.sub [1, 2, 3, 4, 0] rfl ?_
    exact h
set_option maxRecDepth 100000 in
set_option maxHeartbeats 4000000 in
theorem vcX1_tryRoute_15 (l : Launch) (G : GT) (σ : Sto) (Q : Sto → Prop) (x1 : Nat) (x2 : Int) (x3 : Int) (x4 : Int) (hx1 : isRt x1)
    (h : (-2147483648 ≤ (σ x1 2) + 1 ∧ (σ x1 2) + 1 ≤ 2147483647) ∧ (((σ x1 2) + 1) < x4 → (-2147483648 ≤ x3 + 1 ∧ x3 + 1 ≤ 2147483647) ∧ MWv l G mX1_tryRoute 2 [(0, vR 50), (1, vR x1), (2, vI x2), (3, vI (x3 + 1))] [] σ Q) ∧ (¬ (((σ x1 2) + 1) < x4) → CLi l G mX4_addedLength [vR 1, vR x1, vI x2, vI x3, vI x4] σ (fun r6 s7 => ((s7 50 1) ≤ r6 → (-2147483648 ≤ x4 + 1 ∧ x4 + 1 ≤ 2147483647) ∧ MWv l G mX1_tryRoute 15 [(0, vR 50), (1, vR x1), (2, vI x2), (3, vI x3), (4, vI (x4 + 1))] [] s7 Q) ∧ (¬ ((s7 50 1) ≤ r6) → CLr l G mX1_routeWith [vR 50, vR x1, vI x2, vI x3, vI x4] s7 (fun r10 s11 => (r10 = 51) ∧ CLi l G mX6_fits [vR 40, vR 51] s11 (fun r12 s13 => ∀ s15 : Sto, s15 = (if r12 = 0 then s13 else (stS (stS (stS (stS (stS s13 50 0 1) 50 1 r6) 50 2 (s13 x1 0)) 50 3 x3) 50 4 x4)) → (-2147483648 ≤ x4 + 1 ∧ x4 + 1 ≤ 2147483647) ∧ MWv l G mX1_tryRoute 15 [(0, vR 50), (1, vR x1), (2, vI x2), (3, vI x3), (4, vI (x4 + 1))] [] s15 Q)))))) :
    MWv l G mX1_tryRoute 15 [(0, vR 50), (1, vR x1), (2, vI x2), (3, vI x3), (4, vI x4)] [] σ Q := by
  refine r_iload 4 dX1_tryRoute_15 rfl ?_
  refine r_aload_n 1 dX1_tryRoute_17 rfl rfl ?_
  refine r_getI (j := 2) dX1_tryRoute_18 hx1.1 rfl kc_5 (by decide) lf_X1_54 ?_
  refine r_iconst dX1_tryRoute_21 (by decide) ?_
  obtain ⟨b3, h⟩ := h
  refine r_iadd dX1_tryRoute_22 b3 ?_
  refine r_icmp_gt (tgt := 104) dX1_tryRoute_23 (by decide) (fun (c4 : ((σ x1 2) + 1) < x4) => ?_) (fun (c4 : ¬ (((σ x1 2) + 1) < x4)) => ?_)
  · replace h := h.1 c4
    obtain ⟨b5, h⟩ := h
    refine r_iinc 3 dX1_tryRoute_104 rfl (by decide) b5 rfl ?_
    refine r_goto (tgt := 2) dX1_tryRoute_107 (by decide) ?_
    refine MWF.sub [1, 2, 3, 0] rfl ?_
    exact h
  · replace h := h.2 c4
    refine r_aload_n 0 dX1_tryRoute_26 rfl rfl ?_
    refine r_getR (j := 5) dX1_tryRoute_27 sh_50 rfl kc_1 (by decide) lf_X1_37 ?_
    refine r_aload_n 1 dX1_tryRoute_30 rfl rfl ?_
    refine r_iload_n 2 dX1_tryRoute_31 rfl rfl ?_
    refine r_iload_n 3 dX1_tryRoute_32 rfl rfl ?_
    refine r_iload 4 dX1_tryRoute_33 rfl ?_
    refine r_callV [vR x1, vI x2, vI x3, vI x4] [] dX1_tryRoute_35 okX4_addedLength ivX4_addedLength seX4_addedLength lm_X1_57 rfl rfl sh_1 rfl ⟨Nat.le_of_ble_eq_true rfl, Nat.le_of_ble_eq_true rfl, Nat.le_of_ble_eq_true rfl, Nat.le_of_ble_eq_true rfl⟩ h ?_
    rintro _ s7 ⟨r6, rfl, h⟩
    refine r_istore dX1_tryRoute_38 (by decide) rfl ?_
    refine r_iload 0 dX1_tryRoute_40 rfl ?_
    refine r_aload_n 1 dX1_tryRoute_42 rfl rfl ?_
    refine r_getI (j := 1) dX1_tryRoute_43 sh_50 rfl kc_1 (by decide) lf_X1_15 ?_
    refine r_icmp_ge (tgt := 98) dX1_tryRoute_46 (by decide) (fun (c8 : (s7 50 1) ≤ r6) => ?_) (fun (c8 : ¬ ((s7 50 1) ≤ r6)) => ?_)
    · replace h := h.1 c8
      obtain ⟨b9, h⟩ := h
      refine r_iinc 5 dX1_tryRoute_98 rfl (by decide) b9 rfl ?_
      refine r_goto (tgt := 15) dX1_tryRoute_101 (by decide) ?_
      refine MWF.sub [2, 3, 4, 5, 0] rfl ?_
      exact h
    · replace h := h.2 c8
      refine r_aload_n 1 dX1_tryRoute_49 rfl rfl ?_
      refine r_getR (j := 6) dX1_tryRoute_50 sh_50 rfl kc_1 (by decide) lf_X1_41 ?_
      refine r_aload_n 1 dX1_tryRoute_53 rfl rfl ?_
      refine r_aload_n 2 dX1_tryRoute_54 rfl rfl ?_
      refine r_iload_n 3 dX1_tryRoute_55 rfl rfl ?_
      refine r_iload_n 4 dX1_tryRoute_56 rfl rfl ?_
      refine r_iload 5 dX1_tryRoute_57 rfl ?_
      refine r_callV [vR x1, vI x2, vI x3, vI x4] [vR 40] dX1_tryRoute_59 okX1_routeWith ivX1_routeWith seX1_routeWith lm_X1_63 rfl rfl sh_50 rfl ⟨Nat.le_of_ble_eq_true rfl, Nat.le_of_ble_eq_true rfl, Nat.le_of_ble_eq_true rfl, Nat.le_of_ble_eq_true rfl⟩ h ?_
      rintro _ s11 ⟨r10, rfl, h⟩
      obtain ⟨e, h⟩ := h
      subst e
      refine r_callV [vR 51] [] dX1_tryRoute_62 okX6_fits ivX6_fits seX6_fits lm_X1_67 rfl rfl sh_40 rfl ⟨Nat.le_of_ble_eq_true rfl, Nat.le_of_ble_eq_true rfl, Nat.le_of_ble_eq_true rfl, Nat.le_of_ble_eq_true rfl⟩ h ?_
      rintro _ s13 ⟨r12, rfl, h⟩
      obtain ⟨s15, es15⟩ : ∃ z : Sto, z = (if r12 = 0 then s13 else (stS (stS (stS (stS (stS s13 50 0 1) 50 1 r6) 50 2 (s13 x1 0)) 50 3 x3) 50 4 x4)) := ⟨_, rfl⟩
      replace h := h s15 es15
      have hj16 : MWv l G mX1_tryRoute 98 [(0, vR 50), (1, vR x1), (2, vI x2), (3, vI x3), (4, vI x4)] [] s15 Q := by
        obtain ⟨b19, h⟩ := h
        refine r_iinc 4 dX1_tryRoute_98 rfl (by decide) b19 rfl ?_
        refine r_goto (tgt := 15) dX1_tryRoute_101 (by decide) ?_
        refine MWF.sub [1, 2, 3, 4, 0] rfl ?_
        exact h
      refine r_if_eq (tgt := 98) dX1_tryRoute_65 (by decide) (fun (c14 : r12 = 0) => ?_) (fun (c14 : ¬ (r12 = 0)) => ?_)
      · refine MWF.sub [1, 2, 3, 4, 5] rfl ?_
        have q17 : s15 = s13 := by rw [es15, if_pos c14]
        rw [q17] at hj16
        exact hj16
      · refine r_aload_n 1 dX1_tryRoute_68 rfl rfl ?_
        refine r_iconst dX1_tryRoute_69 (by decide) ?_
        refine r_putZ (j := 0) dX1_tryRoute_70 sh_50 rfl kc_1 (by decide) lf_X1_9 rfl (by decide) (by decide) ?_
        refine r_aload_n 1 dX1_tryRoute_73 rfl rfl ?_
        refine r_iload 0 dX1_tryRoute_74 rfl ?_
        refine r_putI (j := 1) dX1_tryRoute_76 sh_50 rfl kc_1 (by decide) lf_X1_15 rfl (by decide) ?_
        refine r_aload_n 1 dX1_tryRoute_79 rfl rfl ?_
        refine r_aload_n 2 dX1_tryRoute_80 rfl rfl ?_
        refine r_getI (j := 0) dX1_tryRoute_81 hx1.1 rfl kc_5 (by decide) lf_X1_73 ?_
        refine MWF.top ((stS_ne (shne_oo hx1.1 sh_50 (by decide))).trans (stS_ne (shne_oo hx1.1 sh_50 (by decide)))) ?_
        refine r_putI (j := 2) dX1_tryRoute_84 sh_50 rfl kc_1 (by decide) lf_X1_19 rfl (by decide) ?_
        refine r_aload_n 1 dX1_tryRoute_87 rfl rfl ?_
        refine r_iload_n 4 dX1_tryRoute_88 rfl rfl ?_
        refine r_putI (j := 3) dX1_tryRoute_89 sh_50 rfl kc_1 (by decide) lf_X1_22 rfl (by decide) ?_
        refine r_aload_n 1 dX1_tryRoute_92 rfl rfl ?_
        refine r_iload 5 dX1_tryRoute_93 rfl ?_
        refine r_putI (j := 4) dX1_tryRoute_95 sh_50 rfl kc_1 (by decide) lf_X1_25 rfl (by decide) ?_
        refine MWF.sub [1, 2, 3, 4, 5] rfl ?_
        have q18 : s15 = (stS (stS (stS (stS (stS s13 50 0 1) 50 1 r6) 50 2 (s13 x1 0)) 50 3 x3) 50 4 x4) := by rw [es15, if_neg c14]
        rw [q18] at hj16
        exact hj16
set_option maxRecDepth 100000 in
set_option maxHeartbeats 4000000 in
theorem clX1_tryAllBut (l : Launch) (G : GT) (σ : Sto) (Q : Sto → Prop) (x1 : Int) (x2 : Nat) (x3 : Int) (hx2 : isPl x2)
    (h : CLv l G mX1_startOver [vR 50] σ (fun s2 => MWv l G mX1_tryAllBut 7 [(0, vR 50), (1, vI x1), (2, vR x2), (3, vI x3), (4, vI 0)] [] s2 Q)) :
    CLv l G mX1_tryAllBut [vR 50, vI x1, vR x2, vI x3] σ Q := by
  show MWv l G mX1_tryAllBut 0 [(0, vR 50), (1, vI x1), (2, vR x2), (3, vI x3)] [] σ Q
  refine r_aload_n 0 dX1_tryAllBut_0 rfl rfl ?_
  refine r_callV [] [] dX1_tryAllBut_1 okX1_startOver ivX1_startOver seX1_startOver lm_X1_74 rfl rfl sh_50 rfl ⟨Nat.le_of_ble_eq_true rfl, Nat.le_of_ble_eq_true rfl, Nat.le_of_ble_eq_true rfl, Nat.le_of_ble_eq_true rfl⟩ h ?_
  rintro _ s2 ⟨rfl, h⟩
  refine r_iconst dX1_tryAllBut_4 (by decide) ?_
  refine r_istore dX1_tryAllBut_5 (by decide) rfl ?_
  refine MWF.sub [1, 2, 3, 4, 0] rfl ?_
  exact h
set_option maxRecDepth 100000 in
set_option maxHeartbeats 4000000 in
theorem vcX1_tryAllBut_7 (l : Launch) (G : GT) (σ : Sto) (Q : Sto → Prop) (x1 : Int) (x2 : Nat) (x3 : Int) (x4 : Int) (hx2 : isPl x2)
    (h : ((σ 1 0) ≤ x4 → Q σ) ∧ (¬ ((σ 1 0) ≤ x4) → (x4 = x1 → (-2147483648 ≤ x4 + 1 ∧ x4 + 1 ≤ 2147483647) ∧ MWv l G mX1_tryAllBut 7 [(0, vR 50), (1, vI x1), (2, vR x2), (3, vI x3), (4, vI (x4 + 1))] [] σ Q) ∧ (¬ (x4 = x1) → (0 ≤ x4 ∧ x4 < 4) ∧ CLv l G mX1_tryRoute [vR 50, vR (x2 + 3 + x4.toNat), vI x3] σ (fun s8 => (-2147483648 ≤ x4 + 1 ∧ x4 + 1 ≤ 2147483647) ∧ MWv l G mX1_tryAllBut 7 [(0, vR 50), (1, vI x1), (2, vR x2), (3, vI x3), (4, vI (x4 + 1))] [] s8 Q)))) :
    MWv l G mX1_tryAllBut 7 [(0, vR 50), (1, vI x1), (2, vR x2), (3, vI x3), (4, vI x4)] [] σ Q := by
  refine r_iload 4 dX1_tryAllBut_7 rfl ?_
  refine r_aload_n 0 dX1_tryAllBut_9 rfl rfl ?_
  refine r_getR (j := 5) dX1_tryAllBut_10 sh_50 rfl kc_1 (by decide) lf_X1_37 ?_
  refine r_getI (j := 0) dX1_tryAllBut_13 sh_1 rfl kc_4 (by decide) lf_X1_77 ?_
  refine r_icmp_ge (tgt := 43) dX1_tryAllBut_16 (by decide) (fun (c3 : (σ 1 0) ≤ x4) => ?_) (fun (c3 : ¬ ((σ 1 0) ≤ x4)) => ?_)
  · replace h := h.1 c3
    exact r_vret dX1_tryAllBut_43 rfl ⟨rfl, h⟩
  · replace h := h.2 c3
    refine r_iload 4 dX1_tryAllBut_19 rfl ?_
    refine r_iload_n 1 dX1_tryAllBut_21 rfl rfl ?_
    refine r_icmp_eq (tgt := 37) dX1_tryAllBut_22 (by decide) (fun (c4 : x4 = x1) => ?_) (fun (c4 : ¬ (x4 = x1)) => ?_)
    · replace h := h.1 c4
      obtain ⟨b5, h⟩ := h
      refine r_iinc 4 dX1_tryAllBut_37 rfl (by decide) b5 rfl ?_
      refine r_goto (tgt := 7) dX1_tryAllBut_40 (by decide) ?_
      refine MWF.sub [1, 2, 3, 4, 0] rfl ?_
      exact h
    · replace h := h.2 c4
      refine r_aload_n 0 dX1_tryAllBut_25 rfl rfl ?_
      refine r_aload_n 2 dX1_tryAllBut_26 rfl rfl ?_
      refine r_getR (j := 0) dX1_tryAllBut_27 hx2.1 rfl kc_3 (by decide) lf_X1_80 ?_
      refine r_iload 4 dX1_tryAllBut_30 rfl ?_
      obtain ⟨b6, h⟩ := h
      refine r_aald dX1_tryAllBut_32 hx2.2.1 (fun _ => rfl) rfl b6.1 (pl_at b6.1 b6.2) ?_
      refine r_iload_n 3 dX1_tryAllBut_33 rfl rfl ?_
      refine r_callV [vR (x2 + 3 + x4.toNat), vI x3] [] dX1_tryAllBut_34 okX1_tryRoute ivX1_tryRoute seX1_tryRoute lm_X1_86 rfl rfl sh_50 rfl ⟨Nat.le_of_ble_eq_true rfl, Nat.le_of_ble_eq_true rfl, Nat.le_of_ble_eq_true rfl, Nat.le_of_ble_eq_true rfl⟩ h ?_
      rintro _ s8 ⟨rfl, h⟩
      obtain ⟨b9, h⟩ := h
      refine r_iinc 4 dX1_tryAllBut_37 rfl (by decide) b9 rfl ?_
      refine r_goto (tgt := 7) dX1_tryAllBut_40 (by decide) ?_
      refine MWF.sub [1, 2, 3, 4, 0] rfl ?_
      exact h
set_option maxRecDepth 100000 in
set_option maxHeartbeats 4000000 in
theorem clX1_carryOut (l : Launch) (G : GT) (σ : Sto) (Q : Int → Sto → Prop) (x1 : Nat) (x2 : Int) (hx1 : isPl x1)
    (h : ((σ 50 0) = 0 → ((σ 50 0) = 0 ∨ (σ 50 0) = 1) ∧ Q (σ 50 0) σ) ∧ (¬ ((σ 50 0) = 0) → CLv l G mX3_put [vR x1, vI x2, vI (σ 50 2), vI (σ 50 3), vI (σ 50 4)] σ (fun s4 => ((s4 50 0) = 0 ∨ (s4 50 0) = 1) ∧ Q (s4 50 0) s4))) :
    CLi l G mX1_carryOut [vR 50, vR x1, vI x2] σ Q := by
  show MWi l G mX1_carryOut 0 [(0, vR 50), (1, vR x1), (2, vI x2)] [] σ Q
  refine r_aload_n 0 dX1_carryOut_0 rfl rfl ?_
  refine r_getI (j := 0) dX1_carryOut_1 sh_50 rfl kc_1 (by decide) lf_X1_9 ?_
  refine r_if_eq (tgt := 24) dX1_carryOut_4 (by decide) (fun (c1 : (σ 50 0) = 0) => ?_) (fun (c1 : ¬ ((σ 50 0) = 0)) => ?_)
  · replace h := h.1 c1
    refine r_aload_n 0 dX1_carryOut_24 rfl rfl ?_
    refine r_getI (j := 0) dX1_carryOut_25 sh_50 rfl kc_1 (by decide) lf_X1_9 ?_
    obtain ⟨b2, h⟩ := h
    exact r_zret dX1_carryOut_28 rfl b2 ⟨_, rfl, h⟩
  · replace h := h.2 c1
    refine r_aload_n 1 dX1_carryOut_7 rfl rfl ?_
    refine r_iload_n 2 dX1_carryOut_8 rfl rfl ?_
    refine r_aload_n 0 dX1_carryOut_9 rfl rfl ?_
    refine r_getI (j := 2) dX1_carryOut_10 sh_50 rfl kc_1 (by decide) lf_X1_19 ?_
    refine r_aload_n 0 dX1_carryOut_13 rfl rfl ?_
    refine r_getI (j := 3) dX1_carryOut_14 sh_50 rfl kc_1 (by decide) lf_X1_22 ?_
    refine r_aload_n 0 dX1_carryOut_17 rfl rfl ?_
    refine r_getI (j := 4) dX1_carryOut_18 sh_50 rfl kc_1 (by decide) lf_X1_25 ?_
    refine r_callV [vI x2, vI (σ 50 2), vI (σ 50 3), vI (σ 50 4)] [] dX1_carryOut_21 okX3_put ivX3_put seX3_put lm_X1_90 rfl rfl hx1.1 rfl ⟨Nat.le_of_ble_eq_true rfl, Nat.le_of_ble_eq_true rfl, Nat.le_of_ble_eq_true rfl, Nat.le_of_ble_eq_true rfl⟩ h ?_
    rintro _ s4 ⟨rfl, h⟩
    refine r_aload_n 0 dX1_carryOut_24 rfl rfl ?_
    refine r_getI (j := 0) dX1_carryOut_25 sh_50 rfl kc_1 (by decide) lf_X1_9 ?_
    obtain ⟨b5, h⟩ := h
    exact r_zret dX1_carryOut_28 rfl b5 ⟨_, rfl, h⟩
set_option maxRecDepth 100000 in
set_option maxHeartbeats 4000000 in
theorem clX2_findChain (l : Launch) (G : GT) (σ : Sto) (Q : Sto → Prop) (x1 : Nat) (x2 : Int) (hx1 : isPl x1)
    (h : CLv l G mX2_startOver [vR 52, vR x1, vI 1000000] σ (fun s2 => MWv l G mX2_findChain 9 [(0, vR 52), (1, vR x1), (2, vI x2), (3, vI 0)] [] s2 Q)) :
    CLv l G mX2_findChain [vR 52, vR x1, vI x2] σ Q := by
  show MWv l G mX2_findChain 0 [(0, vR 52), (1, vR x1), (2, vI x2)] [] σ Q
  refine r_aload_n 0 dX2_findChain_0 rfl rfl ?_
  refine r_aload_n 1 dX2_findChain_1 rfl rfl ?_
  refine r_ldc (n := 1000000) dX2_findChain_2 lc_X2_49 (by decide) ?_
  refine r_callV [vR x1, vI 1000000] [] dX2_findChain_4 okX2_startOver ivX2_startOver seX2_startOver lm_X2_50 rfl rfl sh_52 rfl ⟨Nat.le_of_ble_eq_true rfl, Nat.le_of_ble_eq_true rfl, Nat.le_of_ble_eq_true rfl, Nat.le_of_ble_eq_true rfl⟩ h ?_
  rintro _ s2 ⟨rfl, h⟩
  refine r_iconst dX2_findChain_7 (by decide) ?_
  refine r_istore_n dX2_findChain_8 rfl (by decide) rfl ?_
  refine MWF.sub [1, 2, 3, 0] rfl ?_
  exact h
set_option maxRecDepth 100000 in
set_option maxHeartbeats 4000000 in
theorem vcX2_findChain_9 (l : Launch) (G : GT) (σ : Sto) (Q : Sto → Prop) (x1 : Nat) (x2 : Int) (x3 : Int) (hx1 : isPl x1)
    (h : ((σ 1 1) ≤ x3 → ((σ 52 0) = 0 → MWv l G mX2_findChain 43 [(0, vR 52), (1, vR x1), (2, vI x2), (3, vI 0)] [] σ Q) ∧ (¬ ((σ 52 0) = 0) → Q σ)) ∧ (¬ ((σ 1 1) ≤ x3) → CLv l G mX2_tryShortChain [vR 52, vR x1, vI x2, vI x3] σ (fun s6 => (-2147483648 ≤ x3 + 1 ∧ x3 + 1 ≤ 2147483647) ∧ MWv l G mX2_findChain 9 [(0, vR 52), (1, vR x1), (2, vI x2), (3, vI (x3 + 1))] [] s6 Q))) :
    MWv l G mX2_findChain 9 [(0, vR 52), (1, vR x1), (2, vI x2), (3, vI x3)] [] σ Q := by
  refine r_iload_n 3 dX2_findChain_9 rfl rfl ?_
  refine r_aload_n 0 dX2_findChain_10 rfl rfl ?_
  refine r_getR (j := 5) dX2_findChain_11 sh_52 rfl kc_2 (by decide) lf_X2_41 ?_
  refine r_getI (j := 1) dX2_findChain_14 sh_1 rfl kc_4 (by decide) lf_X2_54 ?_
  refine r_icmp_ge (tgt := 33) dX2_findChain_17 (by decide) (fun (c3 : (σ 1 1) ≤ x3) => ?_) (fun (c3 : ¬ ((σ 1 1) ≤ x3)) => ?_)
  · replace h := h.1 c3
    refine r_aload_n 0 dX2_findChain_33 rfl rfl ?_
    refine r_getI (j := 0) dX2_findChain_34 sh_52 rfl kc_2 (by decide) lf_X2_9 ?_
    refine r_if_eq (tgt := 41) dX2_findChain_37 (by decide) (fun (c4 : (σ 52 0) = 0) => ?_) (fun (c4 : ¬ ((σ 52 0) = 0)) => ?_)
    · replace h := h.1 c4
      refine r_iconst dX2_findChain_41 (by decide) ?_
      refine r_istore_n dX2_findChain_42 rfl (by decide) rfl ?_
      refine MWF.sub [1, 2, 3, 0] rfl ?_
      exact h
    · replace h := h.2 c4
      exact r_vret dX2_findChain_40 rfl ⟨rfl, h⟩
  · replace h := h.2 c3
    refine r_aload_n 0 dX2_findChain_20 rfl rfl ?_
    refine r_aload_n 1 dX2_findChain_21 rfl rfl ?_
    refine r_iload_n 2 dX2_findChain_22 rfl rfl ?_
    refine r_iload_n 3 dX2_findChain_23 rfl rfl ?_
    refine r_callV [vR x1, vI x2, vI x3] [] dX2_findChain_24 okX2_tryShortChain ivX2_tryShortChain seX2_tryShortChain lm_X2_59 rfl rfl sh_52 rfl ⟨Nat.le_of_ble_eq_true rfl, Nat.le_of_ble_eq_true rfl, Nat.le_of_ble_eq_true rfl, Nat.le_of_ble_eq_true rfl⟩ h ?_
    rintro _ s6 ⟨rfl, h⟩
    obtain ⟨b7, h⟩ := h
    refine r_iinc 3 dX2_findChain_27 rfl (by decide) b7 rfl ?_
    refine r_goto (tgt := 9) dX2_findChain_30 (by decide) ?_
    refine MWF.sub [1, 2, 3, 0] rfl ?_
    exact h
set_option maxRecDepth 100000 in
set_option maxHeartbeats 4000000 in
theorem vcX2_findChain_43 (l : Launch) (G : GT) (σ : Sto) (Q : Sto → Prop) (x1 : Nat) (x2 : Int) (x3 : Int) (hx1 : isPl x1)
    (h : ((σ 1 1) ≤ x3 → Q σ) ∧ (¬ ((σ 1 1) ≤ x3) → CLv l G mX2_tryLongChains [vR 52, vR x1, vI x2, vI x3] σ (fun s10 => (-2147483648 ≤ x3 + 1 ∧ x3 + 1 ≤ 2147483647) ∧ MWv l G mX2_findChain 43 [(0, vR 52), (1, vR x1), (2, vI x2), (3, vI (x3 + 1))] [] s10 Q))) :
    MWv l G mX2_findChain 43 [(0, vR 52), (1, vR x1), (2, vI x2), (3, vI x3)] [] σ Q := by
  refine r_iload_n 3 dX2_findChain_43 rfl rfl ?_
  refine r_aload_n 0 dX2_findChain_44 rfl rfl ?_
  refine r_getR (j := 5) dX2_findChain_45 sh_52 rfl kc_2 (by decide) lf_X2_41 ?_
  refine r_getI (j := 1) dX2_findChain_48 sh_1 rfl kc_4 (by decide) lf_X2_54 ?_
  refine r_icmp_ge (tgt := 67) dX2_findChain_51 (by decide) (fun (c8 : (σ 1 1) ≤ x3) => ?_) (fun (c8 : ¬ ((σ 1 1) ≤ x3)) => ?_)
  · replace h := h.1 c8
    exact r_vret dX2_findChain_67 rfl ⟨rfl, h⟩
  · replace h := h.2 c8
    refine r_aload_n 0 dX2_findChain_54 rfl rfl ?_
    refine r_aload_n 1 dX2_findChain_55 rfl rfl ?_
    refine r_iload_n 2 dX2_findChain_56 rfl rfl ?_
    refine r_iload_n 3 dX2_findChain_57 rfl rfl ?_
    refine r_callV [vR x1, vI x2, vI x3] [] dX2_findChain_58 okX2_tryLongChains ivX2_tryLongChains seX2_tryLongChains lm_X2_63 rfl rfl sh_52 rfl ⟨Nat.le_of_ble_eq_true rfl, Nat.le_of_ble_eq_true rfl, Nat.le_of_ble_eq_true rfl, Nat.le_of_ble_eq_true rfl⟩ h ?_
    rintro _ s10 ⟨rfl, h⟩
    obtain ⟨b11, h⟩ := h
    refine r_iinc 3 dX2_findChain_61 rfl (by decide) b11 rfl ?_
    refine r_goto (tgt := 43) dX2_findChain_64 (by decide) ?_
    refine MWF.sub [1, 2, 3, 0] rfl ?_
    exact h
set_option maxRecDepth 100000 in
set_option maxHeartbeats 4000000 in
theorem clX2_findImprovement (l : Launch) (G : GT) (σ : Sto) (Q : Sto → Prop) (x1 : Nat) (hx1 : isPl x1)
    (h : CLv l G mX2_startOver [vR 52, vR x1, vI 0] σ (fun s2 => MWv l G mX2_findImprovement 8 [(0, vR 52), (1, vR x1), (2, vI 0)] [] s2 Q)) :
    CLv l G mX2_findImprovement [vR 52, vR x1] σ Q := by
  show MWv l G mX2_findImprovement 0 [(0, vR 52), (1, vR x1)] [] σ Q
  refine r_aload_n 0 dX2_findImprovement_0 rfl rfl ?_
  refine r_aload_n 1 dX2_findImprovement_1 rfl rfl ?_
  refine r_iconst dX2_findImprovement_2 (by decide) ?_
  refine r_callV [vR x1, vI 0] [] dX2_findImprovement_3 okX2_startOver ivX2_startOver seX2_startOver lm_X2_50 rfl rfl sh_52 rfl ⟨Nat.le_of_ble_eq_true rfl, Nat.le_of_ble_eq_true rfl, Nat.le_of_ble_eq_true rfl, Nat.le_of_ble_eq_true rfl⟩ h ?_
  rintro _ s2 ⟨rfl, h⟩
  refine r_iconst dX2_findImprovement_6 (by decide) ?_
  refine r_istore_n dX2_findImprovement_7 rfl (by decide) rfl ?_
  refine MWF.sub [1, 2, 0] rfl ?_
  exact h
set_option maxRecDepth 100000 in
set_option maxHeartbeats 4000000 in
theorem vcX2_findImprovement_8 (l : Launch) (G : GT) (σ : Sto) (Q : Sto → Prop) (x1 : Nat) (x2 : Int) (hx1 : isPl x1)
    (h : ((σ 1 1) ≤ x2 → Q σ) ∧ (¬ ((σ 1 1) ≤ x2) → (0 ≤ x2 ∧ x2 < 12) ∧ ((σ (x1 + 2) x2.toNat) = (-1) → (-2147483648 ≤ x2 + 1 ∧ x2 + 1 ≤ 2147483647) ∧ MWv l G mX2_findImprovement 8 [(0, vR 52), (1, vR x1), (2, vI (x2 + 1))] [] σ Q) ∧ (¬ ((σ (x1 + 2) x2.toNat) = (-1)) → CLv l G mX3_become [vR 107, vR x1] σ (fun s8 => CLv l G mX3_take [vR 107, vI x2] s8 (fun s10 => CLv l G mX1_tryAllBut [vR 50, vI (-1), vR 107, vI x2] s10 (fun s12 => CLi l G mX1_carryOut [vR 50, vR 107, vI x2] s12 (fun r13 s14 => (r13 = 0 → (-2147483648 ≤ x2 + 1 ∧ x2 + 1 ≤ 2147483647) ∧ MWv l G mX2_findImprovement 8 [(0, vR 52), (1, vR x1), (2, vI (x2 + 1))] [] s14 Q) ∧ (¬ (r13 = 0) → CLv l G mX2_keepIfBest [vR 52, vI x2, vI x2] s14 (fun s18 => (-2147483648 ≤ x2 + 1 ∧ x2 + 1 ≤ 2147483647) ∧ MWv l G mX2_findImprovement 8 [(0, vR 52), (1, vR x1), (2, vI (x2 + 1))] [] s18 Q))))))))) :
    MWv l G mX2_findImprovement 8 [(0, vR 52), (1, vR x1), (2, vI x2)] [] σ Q := by
  refine r_iload_n 2 dX2_findImprovement_8 rfl rfl ?_
  refine r_aload_n 0 dX2_findImprovement_9 rfl rfl ?_
  refine r_getR (j := 5) dX2_findImprovement_10 sh_52 rfl kc_2 (by decide) lf_X2_41 ?_
  refine r_getI (j := 1) dX2_findImprovement_13 sh_1 rfl kc_4 (by decide) lf_X2_54 ?_
  refine r_icmp_ge (tgt := 85) dX2_findImprovement_16 (by decide) (fun (c3 : (σ 1 1) ≤ x2) => ?_) (fun (c3 : ¬ ((σ 1 1) ≤ x2)) => ?_)
  · replace h := h.1 c3
    exact r_vret dX2_findImprovement_85 rfl ⟨rfl, h⟩
  · replace h := h.2 c3
    refine r_aload_n 1 dX2_findImprovement_19 rfl rfl ?_
    refine r_getR (j := 1) dX2_findImprovement_20 hx1.1 rfl kc_3 (by decide) lf_X2_66 ?_
    refine r_iload_n 2 dX2_findImprovement_23 rfl rfl ?_
    obtain ⟨b4, h⟩ := h
    refine r_iald dX2_findImprovement_24 hx1.2.2.1 b4.1 b4.2 ?_
    refine r_iconst dX2_findImprovement_25 (by decide) ?_
    refine r_icmp_eq (tgt := 79) dX2_findImprovement_26 (by decide) (fun (c5 : (σ (x1 + 2) x2.toNat) = (-1)) => ?_) (fun (c5 : ¬ ((σ (x1 + 2) x2.toNat) = (-1))) => ?_)
    · replace h := h.1 c5
      obtain ⟨b6, h⟩ := h
      refine r_iinc 2 dX2_findImprovement_79 rfl (by decide) b6 rfl ?_
      refine r_goto (tgt := 8) dX2_findImprovement_82 (by decide) ?_
      refine MWF.sub [1, 2, 0] rfl ?_
      exact h
    · replace h := h.2 c5
      refine r_aload_n 0 dX2_findImprovement_29 rfl rfl ?_
      refine r_getR (j := 8) dX2_findImprovement_30 sh_52 rfl kc_2 (by decide) lf_X2_35 ?_
      refine r_aload_n 1 dX2_findImprovement_33 rfl rfl ?_
      refine r_callV [vR x1] [] dX2_findImprovement_34 okX3_become ivX3_become seX3_become lm_X2_70 rfl rfl pl_107.1 rfl ⟨Nat.le_of_ble_eq_true rfl, Nat.le_of_ble_eq_true rfl, Nat.le_of_ble_eq_true rfl, Nat.le_of_ble_eq_true rfl⟩ h ?_
      rintro _ s8 ⟨rfl, h⟩
      refine r_aload_n 0 dX2_findImprovement_37 rfl rfl ?_
      refine r_getR (j := 8) dX2_findImprovement_38 sh_52 rfl kc_2 (by decide) lf_X2_35 ?_
      refine r_iload_n 2 dX2_findImprovement_41 rfl rfl ?_
      refine r_callV [vI x2] [] dX2_findImprovement_42 okX3_take ivX3_take seX3_take lm_X2_74 rfl rfl pl_107.1 rfl ⟨Nat.le_of_ble_eq_true rfl, Nat.le_of_ble_eq_true rfl, Nat.le_of_ble_eq_true rfl, Nat.le_of_ble_eq_true rfl⟩ h ?_
      rintro _ s10 ⟨rfl, h⟩
      refine r_aload_n 0 dX2_findImprovement_45 rfl rfl ?_
      refine r_getR (j := 6) dX2_findImprovement_46 sh_52 rfl kc_2 (by decide) lf_X2_45 ?_
      refine r_iconst dX2_findImprovement_49 (by decide) ?_
      refine r_aload_n 0 dX2_findImprovement_50 rfl rfl ?_
      refine r_getR (j := 8) dX2_findImprovement_51 sh_52 rfl kc_2 (by decide) lf_X2_35 ?_
      refine r_iload_n 2 dX2_findImprovement_54 rfl rfl ?_
      refine r_callV [vI (-1), vR 107, vI x2] [] dX2_findImprovement_55 okX1_tryAllBut ivX1_tryAllBut seX1_tryAllBut lm_X2_78 rfl rfl sh_50 rfl ⟨Nat.le_of_ble_eq_true rfl, Nat.le_of_ble_eq_true rfl, Nat.le_of_ble_eq_true rfl, Nat.le_of_ble_eq_true rfl⟩ h ?_
      rintro _ s12 ⟨rfl, h⟩
      refine r_aload_n 0 dX2_findImprovement_58 rfl rfl ?_
      refine r_getR (j := 6) dX2_findImprovement_59 sh_52 rfl kc_2 (by decide) lf_X2_45 ?_
      refine r_aload_n 0 dX2_findImprovement_62 rfl rfl ?_
      refine r_getR (j := 8) dX2_findImprovement_63 sh_52 rfl kc_2 (by decide) lf_X2_35 ?_
      refine r_iload_n 2 dX2_findImprovement_66 rfl rfl ?_
      refine r_callV [vR 107, vI x2] [] dX2_findImprovement_67 okX1_carryOut ivX1_carryOut seX1_carryOut lm_X2_84 rfl rfl sh_50 rfl ⟨Nat.le_of_ble_eq_true rfl, Nat.le_of_ble_eq_true rfl, Nat.le_of_ble_eq_true rfl, Nat.le_of_ble_eq_true rfl⟩ h ?_
      rintro _ s14 ⟨r13, rfl, h⟩
      refine r_if_eq (tgt := 79) dX2_findImprovement_70 (by decide) (fun (c15 : r13 = 0) => ?_) (fun (c15 : ¬ (r13 = 0)) => ?_)
      · replace h := h.1 c15
        obtain ⟨b16, h⟩ := h
        refine r_iinc 2 dX2_findImprovement_79 rfl (by decide) b16 rfl ?_
        refine r_goto (tgt := 8) dX2_findImprovement_82 (by decide) ?_
        refine MWF.sub [1, 2, 0] rfl ?_
        exact h
      · replace h := h.2 c15
        refine r_aload_n 0 dX2_findImprovement_73 rfl rfl ?_
        refine r_iload_n 2 dX2_findImprovement_74 rfl rfl ?_
        refine r_iload_n 2 dX2_findImprovement_75 rfl rfl ?_
        refine r_callV [vI x2, vI x2] [] dX2_findImprovement_76 okX2_keepIfBest ivX2_keepIfBest seX2_keepIfBest lm_X2_88 rfl rfl sh_52 rfl ⟨Nat.le_of_ble_eq_true rfl, Nat.le_of_ble_eq_true rfl, Nat.le_of_ble_eq_true rfl, Nat.le_of_ble_eq_true rfl⟩ h ?_
        rintro _ s18 ⟨rfl, h⟩
        obtain ⟨b19, h⟩ := h
        refine r_iinc 2 dX2_findImprovement_79 rfl (by decide) b19 rfl ?_
        refine r_goto (tgt := 8) dX2_findImprovement_82 (by decide) ?_
        refine MWF.sub [1, 2, 0] rfl ?_
        exact h
set_option maxRecDepth 100000 in
set_option maxHeartbeats 4000000 in
theorem clX2_startOver (l : Launch) (G : GT) (σ : Sto) (Q : Sto → Prop) (x1 : Nat) (x2 : Int) (hx1 : isPl x1)
    (h : CLi l G mX4_totalLength [vR 1, vR x1] (stS (stS σ 52 0 0) 52 1 x2) (fun r1 s2 => Q (stS s2 52 9 r1))) :
    CLv l G mX2_startOver [vR 52, vR x1, vI x2] σ Q := by
  show MWv l G mX2_startOver 0 [(0, vR 52), (1, vR x1), (2, vI x2)] [] σ Q
  refine r_aload_n 0 dX2_startOver_0 rfl rfl ?_
  refine r_iconst dX2_startOver_1 (by decide) ?_
  refine r_putZ (j := 0) dX2_startOver_2 sh_52 rfl kc_2 (by decide) lf_X2_9 rfl (by decide) (by decide) ?_
  refine r_aload_n 0 dX2_startOver_5 rfl rfl ?_
  refine r_iload_n 2 dX2_startOver_6 rfl rfl ?_
  refine r_putI (j := 1) dX2_startOver_7 sh_52 rfl kc_2 (by decide) lf_X2_15 rfl (by decide) ?_
  refine r_aload_n 0 dX2_startOver_10 rfl rfl ?_
  refine r_aload_n 0 dX2_startOver_11 rfl rfl ?_
  refine r_getR (j := 5) dX2_startOver_12 sh_52 rfl kc_2 (by decide) lf_X2_41 ?_
  refine r_aload_n 1 dX2_startOver_15 rfl rfl ?_
  refine r_callV [vR x1] [vR 52] dX2_startOver_16 okX4_totalLength ivX4_totalLength seX4_totalLength lm_X2_92 rfl rfl sh_1 rfl ⟨Nat.le_of_ble_eq_true rfl, Nat.le_of_ble_eq_true rfl, Nat.le_of_ble_eq_true rfl, Nat.le_of_ble_eq_true rfl⟩ h ?_
  rintro _ s2 ⟨r1, rfl, h⟩
  refine r_putI (j := 9) dX2_startOver_19 sh_52 rfl kc_2 (by decide) lf_X2_38 rfl (by decide) ?_
  exact r_vret dX2_startOver_22 rfl ⟨rfl, h⟩
set_option maxRecDepth 100000 in
set_option maxHeartbeats 4000000 in
theorem clX2_tryShortChain (l : Launch) (G : GT) (σ : Sto) (Q : Sto → Prop) (x1 : Nat) (x2 : Int) (x3 : Int) (hx1 : isPl x1)
    (h : (0 ≤ x3 ∧ x3 < 12) ∧ CLv l G mX3_become [vR 107, vR x1] σ (fun s3 => CLi l G mX2_displace [vR 52, vR 107, vI x2, vI x3] s3 (fun r4 s5 => (r4 = 0 → Q s5) ∧ (¬ (r4 = 0) → CLv l G mX1_tryAllBut [vR 50, vI (σ (x1 + 2) x3.toNat), vR 107, vI x3] s5 (fun s8 => CLi l G mX1_carryOut [vR 50, vR 107, vI x3] s8 (fun r9 s10 => (r9 = 0 → Q s10) ∧ (¬ (r9 = 0) → CLv l G mX2_keepIfBest [vR 52, vI x3, vI 99] s10 (fun s13 => Q s13)))))))) :
    CLv l G mX2_tryShortChain [vR 52, vR x1, vI x2, vI x3] σ Q := by
  show MWv l G mX2_tryShortChain 0 [(0, vR 52), (1, vR x1), (2, vI x2), (3, vI x3)] [] σ Q
  refine r_aload_n 1 dX2_tryShortChain_0 rfl rfl ?_
  refine r_getR (j := 1) dX2_tryShortChain_1 hx1.1 rfl kc_3 (by decide) lf_X2_66 ?_
  refine r_iload_n 3 dX2_tryShortChain_4 rfl rfl ?_
  obtain ⟨b1, h⟩ := h
  refine r_iald dX2_tryShortChain_5 hx1.2.2.1 b1.1 b1.2 ?_
  refine r_istore dX2_tryShortChain_6 (by decide) rfl ?_
  refine r_aload_n 1 dX2_tryShortChain_8 rfl rfl ?_
  refine r_getR (j := 8) dX2_tryShortChain_9 sh_52 rfl kc_2 (by decide) lf_X2_35 ?_
  refine r_aload_n 2 dX2_tryShortChain_12 rfl rfl ?_
  refine r_callV [vR x1] [] dX2_tryShortChain_13 okX3_become ivX3_become seX3_become lm_X2_70 rfl rfl pl_107.1 rfl ⟨Nat.le_of_ble_eq_true rfl, Nat.le_of_ble_eq_true rfl, Nat.le_of_ble_eq_true rfl, Nat.le_of_ble_eq_true rfl⟩ h ?_
  rintro _ s3 ⟨rfl, h⟩
  refine r_aload_n 1 dX2_tryShortChain_16 rfl rfl ?_
  refine r_aload_n 1 dX2_tryShortChain_17 rfl rfl ?_
  refine r_getR (j := 8) dX2_tryShortChain_18 sh_52 rfl kc_2 (by decide) lf_X2_35 ?_
  refine r_iload_n 3 dX2_tryShortChain_21 rfl rfl ?_
  refine r_iload_n 4 dX2_tryShortChain_22 rfl rfl ?_
  refine r_callV [vR 107, vI x2, vI x3] [] dX2_tryShortChain_23 okX2_displace ivX2_displace seX2_displace lm_X2_96 rfl rfl sh_52 rfl ⟨Nat.le_of_ble_eq_true rfl, Nat.le_of_ble_eq_true rfl, Nat.le_of_ble_eq_true rfl, Nat.le_of_ble_eq_true rfl⟩ h ?_
  rintro _ s5 ⟨r4, rfl, h⟩
  refine r_if_eq (tgt := 65) dX2_tryShortChain_26 (by decide) (fun (c6 : r4 = 0) => ?_) (fun (c6 : ¬ (r4 = 0)) => ?_)
  · replace h := h.1 c6
    exact r_vret dX2_tryShortChain_65 rfl ⟨rfl, h⟩
  · replace h := h.2 c6
    refine r_aload_n 1 dX2_tryShortChain_29 rfl rfl ?_
    refine r_getR (j := 6) dX2_tryShortChain_30 sh_52 rfl kc_2 (by decide) lf_X2_45 ?_
    refine r_iload 0 dX2_tryShortChain_33 rfl ?_
    refine r_aload_n 1 dX2_tryShortChain_35 rfl rfl ?_
    refine r_getR (j := 8) dX2_tryShortChain_36 sh_52 rfl kc_2 (by decide) lf_X2_35 ?_
    refine r_iload_n 4 dX2_tryShortChain_39 rfl rfl ?_
    refine r_callV [vI (σ (x1 + 2) x3.toNat), vR 107, vI x3] [] dX2_tryShortChain_40 okX1_tryAllBut ivX1_tryAllBut seX1_tryAllBut lm_X2_78 rfl rfl sh_50 rfl ⟨Nat.le_of_ble_eq_true rfl, Nat.le_of_ble_eq_true rfl, Nat.le_of_ble_eq_true rfl, Nat.le_of_ble_eq_true rfl⟩ h ?_
    rintro _ s8 ⟨rfl, h⟩
    refine r_aload_n 1 dX2_tryShortChain_43 rfl rfl ?_
    refine r_getR (j := 6) dX2_tryShortChain_44 sh_52 rfl kc_2 (by decide) lf_X2_45 ?_
    refine r_aload_n 1 dX2_tryShortChain_47 rfl rfl ?_
    refine r_getR (j := 8) dX2_tryShortChain_48 sh_52 rfl kc_2 (by decide) lf_X2_35 ?_
    refine r_iload_n 4 dX2_tryShortChain_51 rfl rfl ?_
    refine r_callV [vR 107, vI x3] [] dX2_tryShortChain_52 okX1_carryOut ivX1_carryOut seX1_carryOut lm_X2_84 rfl rfl sh_50 rfl ⟨Nat.le_of_ble_eq_true rfl, Nat.le_of_ble_eq_true rfl, Nat.le_of_ble_eq_true rfl, Nat.le_of_ble_eq_true rfl⟩ h ?_
    rintro _ s10 ⟨r9, rfl, h⟩
    refine r_if_eq (tgt := 65) dX2_tryShortChain_55 (by decide) (fun (c11 : r9 = 0) => ?_) (fun (c11 : ¬ (r9 = 0)) => ?_)
    · replace h := h.1 c11
      exact r_vret dX2_tryShortChain_65 rfl ⟨rfl, h⟩
    · replace h := h.2 c11
      refine r_aload_n 1 dX2_tryShortChain_58 rfl rfl ?_
      refine r_iload_n 4 dX2_tryShortChain_59 rfl rfl ?_
      refine r_bipush dX2_tryShortChain_60 (by decide) (by decide) ?_
      refine r_callV [vI x3, vI 99] [] dX2_tryShortChain_62 okX2_keepIfBest ivX2_keepIfBest seX2_keepIfBest lm_X2_88 rfl rfl sh_52 rfl ⟨Nat.le_of_ble_eq_true rfl, Nat.le_of_ble_eq_true rfl, Nat.le_of_ble_eq_true rfl, Nat.le_of_ble_eq_true rfl⟩ h ?_
      rintro _ s13 ⟨rfl, h⟩
      exact r_vret dX2_tryShortChain_65 rfl ⟨rfl, h⟩
set_option maxRecDepth 100000 in
set_option maxHeartbeats 4000000 in
theorem clX2_tryLongChains (l : Launch) (G : GT) (σ : Sto) (Q : Sto → Prop) (x1 : Nat) (x2 : Int) (x3 : Int) (hx1 : isPl x1)
    (h : CLv l G mX3_become [vR 96, vR x1] σ (fun s2 => CLi l G mX2_displace [vR 52, vR 96, vI x2, vI x3] s2 (fun r3 s4 => (r3 = 0 → Q s4) ∧ (¬ (r3 = 0) → MWv l G mX2_tryLongChains 25 [(0, vR 52), (1, vR x1), (3, vI x3), (4, vI 0)] [] s4 Q)))) :
    CLv l G mX2_tryLongChains [vR 52, vR x1, vI x2, vI x3] σ Q := by
  show MWv l G mX2_tryLongChains 0 [(0, vR 52), (1, vR x1), (2, vI x2), (3, vI x3)] [] σ Q
  refine r_aload_n 0 dX2_tryLongChains_0 rfl rfl ?_
  refine r_getR (j := 7) dX2_tryLongChains_1 sh_52 rfl kc_2 (by decide) lf_X2_32 ?_
  refine r_aload_n 1 dX2_tryLongChains_4 rfl rfl ?_
  refine r_callV [vR x1] [] dX2_tryLongChains_5 okX3_become ivX3_become seX3_become lm_X2_70 rfl rfl pl_96.1 rfl ⟨Nat.le_of_ble_eq_true rfl, Nat.le_of_ble_eq_true rfl, Nat.le_of_ble_eq_true rfl, Nat.le_of_ble_eq_true rfl⟩ h ?_
  rintro _ s2 ⟨rfl, h⟩
  refine r_aload_n 0 dX2_tryLongChains_8 rfl rfl ?_
  refine r_aload_n 0 dX2_tryLongChains_9 rfl rfl ?_
  refine r_getR (j := 7) dX2_tryLongChains_10 sh_52 rfl kc_2 (by decide) lf_X2_32 ?_
  refine r_iload_n 2 dX2_tryLongChains_13 rfl rfl ?_
  refine r_iload_n 3 dX2_tryLongChains_14 rfl rfl ?_
  refine r_callV [vR 96, vI x2, vI x3] [] dX2_tryLongChains_15 okX2_displace ivX2_displace seX2_displace lm_X2_96 rfl rfl sh_52 rfl ⟨Nat.le_of_ble_eq_true rfl, Nat.le_of_ble_eq_true rfl, Nat.le_of_ble_eq_true rfl, Nat.le_of_ble_eq_true rfl⟩ h ?_
  rintro _ s4 ⟨r3, rfl, h⟩
  refine r_if_ne (tgt := 22) dX2_tryLongChains_18 (by decide) (fun (c5 : r3 = 0) => ?_) (fun (c5 : ¬ (r3 = 0)) => ?_)
  · replace h := h.1 c5
    exact r_vret dX2_tryLongChains_21 rfl ⟨rfl, h⟩
  · replace h := h.2 c5
    refine r_iconst dX2_tryLongChains_22 (by decide) ?_
    refine r_istore dX2_tryLongChains_23 (by decide) rfl ?_
    refine MWF.sub [1, 2, 4, 0] rfl ?_
    exact h
set_option maxRecDepth 100000 in
set_option maxHeartbeats 4000000 in
theorem vcX2_tryLongChains_25 (l : Launch) (G : GT) (σ : Sto) (Q : Sto → Prop) (x1 : Nat) (x3 : Int) (x4 : Int) (hx1 : isPl x1)
    (h : ((σ 1 1) ≤ x4 → Q σ) ∧ (¬ ((σ 1 1) ≤ x4) → (0 ≤ x4 ∧ x4 < 12) ∧ ((σ (x1 + 2) x4.toNat) = (-1) → (-2147483648 ≤ x4 + 1 ∧ x4 + 1 ≤ 2147483647) ∧ MWv l G mX2_tryLongChains 25 [(0, vR 52), (1, vR x1), (3, vI x3), (4, vI (x4 + 1))] [] σ Q) ∧ (¬ ((σ (x1 + 2) x4.toNat) = (-1)) → (0 ≤ x3 ∧ x3 < 12) ∧ ((σ (x1 + 2) x4.toNat) = (σ (x1 + 2) x3.toNat) → (-2147483648 ≤ x4 + 1 ∧ x4 + 1 ≤ 2147483647) ∧ MWv l G mX2_tryLongChains 25 [(0, vR 52), (1, vR x1), (3, vI x3), (4, vI (x4 + 1))] [] σ Q) ∧ (¬ ((σ (x1 + 2) x4.toNat) = (σ (x1 + 2) x3.toNat)) → CLv l G mX3_become [vR 107, vR 96] σ (fun s14 => CLi l G mX2_displace [vR 52, vR 107, vI x3, vI x4] s14 (fun r15 s16 => (r15 = 0 → (-2147483648 ≤ x4 + 1 ∧ x4 + 1 ≤ 2147483647) ∧ MWv l G mX2_tryLongChains 25 [(0, vR 52), (1, vR x1), (3, vI x3), (4, vI (x4 + 1))] [] s16 Q) ∧ (¬ (r15 = 0) → CLv l G mX1_tryAllBut [vR 50, vI (σ (x1 + 2) x4.toNat), vR 107, vI x4] s16 (fun s20 => CLi l G mX1_carryOut [vR 50, vR 107, vI x4] s20 (fun r21 s22 => (r21 = 0 → (-2147483648 ≤ x4 + 1 ∧ x4 + 1 ≤ 2147483647) ∧ MWv l G mX2_tryLongChains 25 [(0, vR 52), (1, vR x1), (3, vI x3), (4, vI (x4 + 1))] [] s22 Q) ∧ (¬ (r21 = 0) → CLv l G mX2_keepIfBest [vR 52, vI x3, vI x4] s22 (fun s26 => (-2147483648 ≤ x4 + 1 ∧ x4 + 1 ≤ 2147483647) ∧ MWv l G mX2_tryLongChains 25 [(0, vR 52), (1, vR x1), (3, vI x3), (4, vI (x4 + 1))] [] s26 Q))))))))))) :
    MWv l G mX2_tryLongChains 25 [(0, vR 52), (1, vR x1), (3, vI x3), (4, vI x4)] [] σ Q := by
  refine r_iload 3 dX2_tryLongChains_25 rfl ?_
  refine r_aload_n 0 dX2_tryLongChains_27 rfl rfl ?_
  refine r_getR (j := 5) dX2_tryLongChains_28 sh_52 rfl kc_2 (by decide) lf_X2_41 ?_
  refine r_getI (j := 1) dX2_tryLongChains_31 sh_1 rfl kc_4 (by decide) lf_X2_54 ?_
  refine r_icmp_ge (tgt := 135) dX2_tryLongChains_34 (by decide) (fun (c6 : (σ 1 1) ≤ x4) => ?_) (fun (c6 : ¬ ((σ 1 1) ≤ x4)) => ?_)
  · replace h := h.1 c6
    exact r_vret dX2_tryLongChains_135 rfl ⟨rfl, h⟩
  · replace h := h.2 c6
    refine r_aload_n 1 dX2_tryLongChains_37 rfl rfl ?_
    refine r_getR (j := 1) dX2_tryLongChains_38 hx1.1 rfl kc_3 (by decide) lf_X2_66 ?_
    refine r_iload 3 dX2_tryLongChains_41 rfl ?_
    obtain ⟨b7, h⟩ := h
    refine r_iald dX2_tryLongChains_43 hx1.2.2.1 b7.1 b7.2 ?_
    refine r_istore dX2_tryLongChains_44 (by decide) rfl ?_
    refine r_iload 0 dX2_tryLongChains_46 rfl ?_
    refine r_iconst dX2_tryLongChains_48 (by decide) ?_
    refine r_icmp_eq (tgt := 129) dX2_tryLongChains_49 (by decide) (fun (c8 : (σ (x1 + 2) x4.toNat) = (-1)) => ?_) (fun (c8 : ¬ ((σ (x1 + 2) x4.toNat) = (-1))) => ?_)
    · replace h := h.1 c8
      obtain ⟨b9, h⟩ := h
      refine r_iinc 4 dX2_tryLongChains_129 rfl (by decide) b9 rfl ?_
      refine r_goto (tgt := 25) dX2_tryLongChains_132 (by decide) ?_
      refine MWF.sub [2, 3, 4, 0] rfl ?_
      exact h
    · replace h := h.2 c8
      refine r_iload 0 dX2_tryLongChains_52 rfl ?_
      refine r_aload_n 2 dX2_tryLongChains_54 rfl rfl ?_
      refine r_getR (j := 1) dX2_tryLongChains_55 hx1.1 rfl kc_3 (by decide) lf_X2_66 ?_
      refine r_iload_n 3 dX2_tryLongChains_58 rfl rfl ?_
      obtain ⟨b10, h⟩ := h
      refine r_iald dX2_tryLongChains_59 hx1.2.2.1 b10.1 b10.2 ?_
      refine r_icmp_ne (tgt := 66) dX2_tryLongChains_60 (by decide) (fun (c11 : (σ (x1 + 2) x4.toNat) = (σ (x1 + 2) x3.toNat)) => ?_) (fun (c11 : ¬ ((σ (x1 + 2) x4.toNat) = (σ (x1 + 2) x3.toNat))) => ?_)
      · replace h := h.1 c11
        refine r_goto (tgt := 129) dX2_tryLongChains_63 (by decide) ?_
        obtain ⟨b12, h⟩ := h
        refine r_iinc 4 dX2_tryLongChains_129 rfl (by decide) b12 rfl ?_
        refine r_goto (tgt := 25) dX2_tryLongChains_132 (by decide) ?_
        refine MWF.sub [2, 3, 4, 0] rfl ?_
        exact h
      · replace h := h.2 c11
        refine r_aload_n 1 dX2_tryLongChains_66 rfl rfl ?_
        refine r_getR (j := 8) dX2_tryLongChains_67 sh_52 rfl kc_2 (by decide) lf_X2_35 ?_
        refine r_aload_n 1 dX2_tryLongChains_70 rfl rfl ?_
        refine r_getR (j := 7) dX2_tryLongChains_71 sh_52 rfl kc_2 (by decide) lf_X2_32 ?_
        refine r_callV [vR 96] [] dX2_tryLongChains_74 okX3_become ivX3_become seX3_become lm_X2_70 rfl rfl pl_107.1 rfl ⟨Nat.le_of_ble_eq_true rfl, Nat.le_of_ble_eq_true rfl, Nat.le_of_ble_eq_true rfl, Nat.le_of_ble_eq_true rfl⟩ h ?_
        rintro _ s14 ⟨rfl, h⟩
        refine r_aload_n 1 dX2_tryLongChains_77 rfl rfl ?_
        refine r_aload_n 1 dX2_tryLongChains_78 rfl rfl ?_
        refine r_getR (j := 8) dX2_tryLongChains_79 sh_52 rfl kc_2 (by decide) lf_X2_35 ?_
        refine r_iload_n 3 dX2_tryLongChains_82 rfl rfl ?_
        refine r_iload 4 dX2_tryLongChains_83 rfl ?_
        refine r_callV [vR 107, vI x3, vI x4] [] dX2_tryLongChains_85 okX2_displace ivX2_displace seX2_displace lm_X2_96 rfl rfl sh_52 rfl ⟨Nat.le_of_ble_eq_true rfl, Nat.le_of_ble_eq_true rfl, Nat.le_of_ble_eq_true rfl, Nat.le_of_ble_eq_true rfl⟩ h ?_
        rintro _ s16 ⟨r15, rfl, h⟩
        refine r_if_eq (tgt := 129) dX2_tryLongChains_88 (by decide) (fun (c17 : r15 = 0) => ?_) (fun (c17 : ¬ (r15 = 0)) => ?_)
        · replace h := h.1 c17
          obtain ⟨b18, h⟩ := h
          refine r_iinc 4 dX2_tryLongChains_129 rfl (by decide) b18 rfl ?_
          refine r_goto (tgt := 25) dX2_tryLongChains_132 (by decide) ?_
          refine MWF.sub [2, 3, 4, 0] rfl ?_
          exact h
        · replace h := h.2 c17
          refine r_aload_n 1 dX2_tryLongChains_91 rfl rfl ?_
          refine r_getR (j := 6) dX2_tryLongChains_92 sh_52 rfl kc_2 (by decide) lf_X2_45 ?_
          refine r_iload 0 dX2_tryLongChains_95 rfl ?_
          refine r_aload_n 1 dX2_tryLongChains_97 rfl rfl ?_
          refine r_getR (j := 8) dX2_tryLongChains_98 sh_52 rfl kc_2 (by decide) lf_X2_35 ?_
          refine r_iload 4 dX2_tryLongChains_101 rfl ?_
          refine r_callV [vI (σ (x1 + 2) x4.toNat), vR 107, vI x4] [] dX2_tryLongChains_103 okX1_tryAllBut ivX1_tryAllBut seX1_tryAllBut lm_X2_78 rfl rfl sh_50 rfl ⟨Nat.le_of_ble_eq_true rfl, Nat.le_of_ble_eq_true rfl, Nat.le_of_ble_eq_true rfl, Nat.le_of_ble_eq_true rfl⟩ h ?_
          rintro _ s20 ⟨rfl, h⟩
          refine r_aload_n 1 dX2_tryLongChains_106 rfl rfl ?_
          refine r_getR (j := 6) dX2_tryLongChains_107 sh_52 rfl kc_2 (by decide) lf_X2_45 ?_
          refine r_aload_n 1 dX2_tryLongChains_110 rfl rfl ?_
          refine r_getR (j := 8) dX2_tryLongChains_111 sh_52 rfl kc_2 (by decide) lf_X2_35 ?_
          refine r_iload 4 dX2_tryLongChains_114 rfl ?_
          refine r_callV [vR 107, vI x4] [] dX2_tryLongChains_116 okX1_carryOut ivX1_carryOut seX1_carryOut lm_X2_84 rfl rfl sh_50 rfl ⟨Nat.le_of_ble_eq_true rfl, Nat.le_of_ble_eq_true rfl, Nat.le_of_ble_eq_true rfl, Nat.le_of_ble_eq_true rfl⟩ h ?_
          rintro _ s22 ⟨r21, rfl, h⟩
          refine r_if_eq (tgt := 129) dX2_tryLongChains_119 (by decide) (fun (c23 : r21 = 0) => ?_) (fun (c23 : ¬ (r21 = 0)) => ?_)
          · replace h := h.1 c23
            obtain ⟨b24, h⟩ := h
            refine r_iinc 4 dX2_tryLongChains_129 rfl (by decide) b24 rfl ?_
            refine r_goto (tgt := 25) dX2_tryLongChains_132 (by decide) ?_
            refine MWF.sub [2, 3, 4, 0] rfl ?_
            exact h
          · replace h := h.2 c23
            refine r_aload_n 1 dX2_tryLongChains_122 rfl rfl ?_
            refine r_iload_n 3 dX2_tryLongChains_123 rfl rfl ?_
            refine r_iload 4 dX2_tryLongChains_124 rfl ?_
            refine r_callV [vI x3, vI x4] [] dX2_tryLongChains_126 okX2_keepIfBest ivX2_keepIfBest seX2_keepIfBest lm_X2_88 rfl rfl sh_52 rfl ⟨Nat.le_of_ble_eq_true rfl, Nat.le_of_ble_eq_true rfl, Nat.le_of_ble_eq_true rfl, Nat.le_of_ble_eq_true rfl⟩ h ?_
            rintro _ s26 ⟨rfl, h⟩
            obtain ⟨b27, h⟩ := h
            refine r_iinc 4 dX2_tryLongChains_129 rfl (by decide) b27 rfl ?_
            refine r_goto (tgt := 25) dX2_tryLongChains_132 (by decide) ?_
            refine MWF.sub [2, 3, 4, 0] rfl ?_
            exact h
set_option maxRecDepth 100000 in
set_option maxHeartbeats 4000000 in
theorem clX2_displace (l : Launch) (G : GT) (σ : Sto) (Q : Int → Sto → Prop) (x1 : Nat) (x2 : Int) (x3 : Int) (hx1 : isPl x1)
    (h : (0 ≤ x3 ∧ x3 < 12) ∧ ((σ (x1 + 2) x3.toNat) = (-1) → Q 0 σ) ∧ (¬ ((σ (x1 + 2) x3.toNat) = (-1)) → CLv l G mX3_take [vR x1, vI x3] σ (fun s4 => CLv l G mX1_startOver [vR 50] s4 (fun s6 => (0 ≤ (σ (x1 + 2) x3.toNat) ∧ (σ (x1 + 2) x3.toNat) < 4) ∧ CLv l G mX1_tryRoute [vR 50, vR (x1 + 3 + (σ (x1 + 2) x3.toNat).toNat), vI x2] s6 (fun s9 => CLi l G mX1_carryOut [vR 50, vR x1, vI x2] s9 (fun r10 s11 => (r10 = 0 ∨ r10 = 1) ∧ Q r10 s11)))))) :
    CLi l G mX2_displace [vR 52, vR x1, vI x2, vI x3] σ Q := by
  show MWi l G mX2_displace 0 [(0, vR 52), (1, vR x1), (2, vI x2), (3, vI x3)] [] σ Q
  refine r_aload_n 1 dX2_displace_0 rfl rfl ?_
  refine r_getR (j := 1) dX2_displace_1 hx1.1 rfl kc_3 (by decide) lf_X2_66 ?_
  refine r_iload_n 3 dX2_displace_4 rfl rfl ?_
  obtain ⟨b1, h⟩ := h
  refine r_iald dX2_displace_5 hx1.2.2.1 b1.1 b1.2 ?_
  refine r_istore dX2_displace_6 (by decide) rfl ?_
  refine r_iload 0 dX2_displace_8 rfl ?_
  refine r_iconst dX2_displace_10 (by decide) ?_
  refine r_icmp_ne (tgt := 16) dX2_displace_11 (by decide) (fun (c2 : (σ (x1 + 2) x3.toNat) = (-1)) => ?_) (fun (c2 : ¬ ((σ (x1 + 2) x3.toNat) = (-1))) => ?_)
  · replace h := h.1 c2
    refine r_iconst dX2_displace_14 (by decide) ?_
    exact r_zret dX2_displace_15 rfl (by decide) ⟨_, rfl, h⟩
  · replace h := h.2 c2
    refine r_aload_n 2 dX2_displace_16 rfl rfl ?_
    refine r_iload_n 4 dX2_displace_17 rfl rfl ?_
    refine r_callV [vI x3] [] dX2_displace_18 okX3_take ivX3_take seX3_take lm_X2_74 rfl rfl hx1.1 rfl ⟨Nat.le_of_ble_eq_true rfl, Nat.le_of_ble_eq_true rfl, Nat.le_of_ble_eq_true rfl, Nat.le_of_ble_eq_true rfl⟩ h ?_
    rintro _ s4 ⟨rfl, h⟩
    refine r_aload_n 1 dX2_displace_21 rfl rfl ?_
    refine r_getR (j := 6) dX2_displace_22 sh_52 rfl kc_2 (by decide) lf_X2_45 ?_
    refine r_callV [] [] dX2_displace_25 okX1_startOver ivX1_startOver seX1_startOver lm_X2_100 rfl rfl sh_50 rfl ⟨Nat.le_of_ble_eq_true rfl, Nat.le_of_ble_eq_true rfl, Nat.le_of_ble_eq_true rfl, Nat.le_of_ble_eq_true rfl⟩ h ?_
    rintro _ s6 ⟨rfl, h⟩
    refine r_aload_n 1 dX2_displace_28 rfl rfl ?_
    refine r_getR (j := 6) dX2_displace_29 sh_52 rfl kc_2 (by decide) lf_X2_45 ?_
    refine r_aload_n 2 dX2_displace_32 rfl rfl ?_
    refine r_getR (j := 0) dX2_displace_33 hx1.1 rfl kc_3 (by decide) lf_X2_102 ?_
    refine r_iload 0 dX2_displace_36 rfl ?_
    obtain ⟨b7, h⟩ := h
    refine r_aald dX2_displace_38 hx1.2.1 (fun _ => rfl) rfl b7.1 (pl_at b7.1 b7.2) ?_
    refine r_iload_n 3 dX2_displace_39 rfl rfl ?_
    refine r_callV [vR (x1 + 3 + (σ (x1 + 2) x3.toNat).toNat), vI x2] [] dX2_displace_40 okX1_tryRoute ivX1_tryRoute seX1_tryRoute lm_X2_106 rfl rfl sh_50 rfl ⟨Nat.le_of_ble_eq_true rfl, Nat.le_of_ble_eq_true rfl, Nat.le_of_ble_eq_true rfl, Nat.le_of_ble_eq_true rfl⟩ h ?_
    rintro _ s9 ⟨rfl, h⟩
    refine r_aload_n 1 dX2_displace_43 rfl rfl ?_
    refine r_getR (j := 6) dX2_displace_44 sh_52 rfl kc_2 (by decide) lf_X2_45 ?_
    refine r_aload_n 2 dX2_displace_47 rfl rfl ?_
    refine r_iload_n 3 dX2_displace_48 rfl rfl ?_
    refine r_callV [vR x1, vI x2] [] dX2_displace_49 okX1_carryOut ivX1_carryOut seX1_carryOut lm_X2_84 rfl rfl sh_50 rfl ⟨Nat.le_of_ble_eq_true rfl, Nat.le_of_ble_eq_true rfl, Nat.le_of_ble_eq_true rfl, Nat.le_of_ble_eq_true rfl⟩ h ?_
    rintro _ s11 ⟨r10, rfl, h⟩
    obtain ⟨b12, h⟩ := h
    exact r_zret dX2_displace_52 rfl b12 ⟨_, rfl, h⟩
set_option maxRecDepth 100000 in
set_option maxHeartbeats 4000000 in
theorem clX2_keepIfBest (l : Launch) (G : GT) (σ : Sto) (Q : Sto → Prop) (x1 : Int) (x2 : Int)
    (h : CLi l G mX4_totalLength [vR 1, vR 107] σ (fun r1 s2 => (-2147483648 ≤ r1 - (s2 52 9) ∧ r1 - (s2 52 9) ≤ 2147483647) ∧ ((s2 52 1) ≤ (r1 - (s2 52 9)) → Q s2) ∧ (¬ ((s2 52 1) ≤ (r1 - (s2 52 9))) → CLv l G mX3_become [vR 85, vR 107] (stS (stS (stS (stS s2 52 0 1) 52 1 (r1 - (s2 52 9))) 52 2 x1) 52 3 x2) (fun s6 => Q s6)))) :
    CLv l G mX2_keepIfBest [vR 52, vI x1, vI x2] σ Q := by
  show MWv l G mX2_keepIfBest 0 [(0, vR 52), (1, vI x1), (2, vI x2)] [] σ Q
  refine r_aload_n 0 dX2_keepIfBest_0 rfl rfl ?_
  refine r_getR (j := 5) dX2_keepIfBest_1 sh_52 rfl kc_2 (by decide) lf_X2_41 ?_
  refine r_aload_n 0 dX2_keepIfBest_4 rfl rfl ?_
  refine r_getR (j := 8) dX2_keepIfBest_5 sh_52 rfl kc_2 (by decide) lf_X2_35 ?_
  refine r_callV [vR 107] [] dX2_keepIfBest_8 okX4_totalLength ivX4_totalLength seX4_totalLength lm_X2_92 rfl rfl sh_1 rfl ⟨Nat.le_of_ble_eq_true rfl, Nat.le_of_ble_eq_true rfl, Nat.le_of_ble_eq_true rfl, Nat.le_of_ble_eq_true rfl⟩ h ?_
  rintro _ s2 ⟨r1, rfl, h⟩
  refine r_aload_n 0 dX2_keepIfBest_11 rfl rfl ?_
  refine r_getI (j := 9) dX2_keepIfBest_12 sh_52 rfl kc_2 (by decide) lf_X2_38 ?_
  obtain ⟨b3, h⟩ := h
  refine r_isub dX2_keepIfBest_15 b3 ?_
  refine r_istore_n dX2_keepIfBest_16 rfl (by decide) rfl ?_
  refine r_iload_n 0 dX2_keepIfBest_17 rfl rfl ?_
  refine r_aload_n 1 dX2_keepIfBest_18 rfl rfl ?_
  refine r_getI (j := 1) dX2_keepIfBest_19 sh_52 rfl kc_2 (by decide) lf_X2_15 ?_
  refine r_icmp_ge (tgt := 56) dX2_keepIfBest_22 (by decide) (fun (c4 : (s2 52 1) ≤ (r1 - (s2 52 9))) => ?_) (fun (c4 : ¬ ((s2 52 1) ≤ (r1 - (s2 52 9)))) => ?_)
  · replace h := h.1 c4
    exact r_vret dX2_keepIfBest_56 rfl ⟨rfl, h⟩
  · replace h := h.2 c4
    refine r_aload_n 1 dX2_keepIfBest_25 rfl rfl ?_
    refine r_iconst dX2_keepIfBest_26 (by decide) ?_
    refine r_putZ (j := 0) dX2_keepIfBest_27 sh_52 rfl kc_2 (by decide) lf_X2_9 rfl (by decide) (by decide) ?_
    refine r_aload_n 1 dX2_keepIfBest_30 rfl rfl ?_
    refine r_iload_n 0 dX2_keepIfBest_31 rfl rfl ?_
    refine r_putI (j := 1) dX2_keepIfBest_32 sh_52 rfl kc_2 (by decide) lf_X2_15 rfl (by decide) ?_
    refine r_aload_n 1 dX2_keepIfBest_35 rfl rfl ?_
    refine r_iload_n 2 dX2_keepIfBest_36 rfl rfl ?_
    refine r_putI (j := 2) dX2_keepIfBest_37 sh_52 rfl kc_2 (by decide) lf_X2_19 rfl (by decide) ?_
    refine r_aload_n 1 dX2_keepIfBest_40 rfl rfl ?_
    refine r_iload_n 3 dX2_keepIfBest_41 rfl rfl ?_
    refine r_putI (j := 3) dX2_keepIfBest_42 sh_52 rfl kc_2 (by decide) lf_X2_22 rfl (by decide) ?_
    refine r_aload_n 1 dX2_keepIfBest_45 rfl rfl ?_
    refine r_getR (j := 4) dX2_keepIfBest_46 sh_52 rfl kc_2 (by decide) lf_X2_28 ?_
    refine r_aload_n 1 dX2_keepIfBest_49 rfl rfl ?_
    refine r_getR (j := 8) dX2_keepIfBest_50 sh_52 rfl kc_2 (by decide) lf_X2_35 ?_
    refine r_callV [vR 107] [] dX2_keepIfBest_53 okX3_become ivX3_become seX3_become lm_X2_70 rfl rfl pl_85.1 rfl ⟨Nat.le_of_ble_eq_true rfl, Nat.le_of_ble_eq_true rfl, Nat.le_of_ble_eq_true rfl, Nat.le_of_ble_eq_true rfl⟩ h ?_
    rintro _ s6 ⟨rfl, h⟩
    exact r_vret dX2_keepIfBest_56 rfl ⟨rfl, h⟩
set_option maxRecDepth 100000 in
set_option maxHeartbeats 4000000 in
theorem clX6_fits (l : Launch) (G : GT) (σ : Sto) (Q : Int → Sto → Prop) (x1 : Nat) (hx1 : isRt x1)
    (h : CLv l G mX6_lookAt [vR 40, vR x1] σ (fun s2 => (0 ≤ (s2 x1 0) ∧ (s2 x1 0) < 4) ∧ ((s2 40 4) ≤ (s2 2 (s2 x1 0).toNat) → MWi l G mX6_fits 43 [(0, vR 40), (2, vI 0)] [] (cpS s2 45 41 24) Q) ∧ (¬ ((s2 40 4) ≤ (s2 2 (s2 x1 0).toNat)) → Q 0 s2))) :
    CLi l G mX6_fits [vR 40, vR x1] σ Q := by
  show MWi l G mX6_fits 0 [(0, vR 40), (1, vR x1)] [] σ Q
  refine r_aload_n 0 dX6_fits_0 rfl rfl ?_
  refine r_aload_n 1 dX6_fits_1 rfl rfl ?_
  refine r_callV [vR x1] [] dX6_fits_2 okX6_lookAt ivX6_lookAt seX6_lookAt lm_X6_53 rfl rfl sh_40 rfl ⟨Nat.le_of_ble_eq_true rfl, Nat.le_of_ble_eq_true rfl, Nat.le_of_ble_eq_true rfl, Nat.le_of_ble_eq_true rfl⟩ h ?_
  rintro _ s2 ⟨rfl, h⟩
  refine r_aload_n 0 dX6_fits_5 rfl rfl ?_
  refine r_getI (j := 4) dX6_fits_6 sh_40 rfl kc_6 (by decide) lf_X6_24 ?_
  refine r_aload_n 0 dX6_fits_9 rfl rfl ?_
  refine r_getR (j := 5) dX6_fits_10 sh_40 rfl kc_6 (by decide) lf_X6_49 ?_
  refine r_getR (j := 3) dX6_fits_13 sh_1 rfl kc_4 (by decide) lf_X6_57 ?_
  refine r_aload_n 1 dX6_fits_16 rfl rfl ?_
  refine r_getI (j := 0) dX6_fits_17 hx1.1 rfl kc_5 (by decide) lf_X6_62 ?_
  obtain ⟨b3, h⟩ := h
  refine r_iald dX6_fits_20 sh_2 b3.1 b3.2 ?_
  refine r_icmp_le (tgt := 26) dX6_fits_21 (by decide) (fun (c4 : (s2 40 4) ≤ (s2 2 (s2 x1 0).toNat)) => ?_) (fun (c4 : ¬ ((s2 40 4) ≤ (s2 2 (s2 x1 0).toNat))) => ?_)
  · replace h := h.1 c4
    refine r_aload_n 0 dX6_fits_26 rfl rfl ?_
    refine r_getR (j := 6) dX6_fits_27 sh_40 rfl kc_6 (by decide) lf_X6_28 ?_
    refine r_iconst dX6_fits_30 (by decide) ?_
    refine r_aload_n 0 dX6_fits_31 rfl rfl ?_
    refine r_getR (j := 0) dX6_fits_32 sh_40 rfl kc_6 (by decide) lf_X6_9 ?_
    refine r_iconst dX6_fits_35 (by decide) ?_
    refine r_bipush dX6_fits_36 (by decide) (by decide) ?_
    refine r_copy dX6_fits_38 lm_X6_67 w_cpy sh_45 sh_41 (by decide) (by decide) (by decide) ⟨Nat.le_of_ble_eq_true rfl, Nat.le_of_ble_eq_true rfl⟩ ?_
    refine r_iconst dX6_fits_41 (by decide) ?_
    refine r_istore_n dX6_fits_42 rfl (by decide) rfl ?_
    refine MWF.sub [1, 0] rfl ?_
    exact h
  · replace h := h.2 c4
    refine r_iconst dX6_fits_24 (by decide) ?_
    exact r_zret dX6_fits_25 rfl (by decide) ⟨_, rfl, h⟩
set_option maxRecDepth 100000 in
set_option maxHeartbeats 4000000 in
theorem vcX6_fits_43 (l : Launch) (G : GT) (σ : Sto) (Q : Int → Sto → Prop) (x2 : Int)
    (h : ((σ 40 11) < x2 → Q 0 σ) ∧ (¬ ((σ 40 11) < x2) → CLi l G mX6_delayStops [vR 40] σ (fun r6 s7 => CLi l G mX6_delayPickups [vR 40] s7 (fun r8 s9 => CLi l G mX6_isTooLate [vR 40] s9 (fun r10 s11 => (r10 = 0 → (r6 = 0 → (r8 = 0 → Q 1 s11) ∧ (¬ (r8 = 0) → (-2147483648 ≤ x2 + 1 ∧ x2 + 1 ≤ 2147483647) ∧ MWi l G mX6_fits 43 [(0, vR 40), (2, vI (x2 + 1))] [] s11 Q)) ∧ (¬ (r6 = 0) → (-2147483648 ≤ x2 + 1 ∧ x2 + 1 ≤ 2147483647) ∧ MWi l G mX6_fits 43 [(0, vR 40), (2, vI (x2 + 1))] [] s11 Q)) ∧ (¬ (r10 = 0) → Q 0 s11)))))) :
    MWi l G mX6_fits 43 [(0, vR 40), (2, vI x2)] [] σ Q := by
  refine r_iload_n 1 dX6_fits_43 rfl rfl ?_
  refine r_aload_n 0 dX6_fits_44 rfl rfl ?_
  refine r_getI (j := 11) dX6_fits_45 sh_40 rfl kc_6 (by decide) lf_X6_43 ?_
  refine r_icmp_gt (tgt := 88) dX6_fits_48 (by decide) (fun (c5 : (σ 40 11) < x2) => ?_) (fun (c5 : ¬ ((σ 40 11) < x2)) => ?_)
  · replace h := h.1 c5
    refine r_iconst dX6_fits_88 (by decide) ?_
    exact r_zret dX6_fits_89 rfl (by decide) ⟨_, rfl, h⟩
  · replace h := h.2 c5
    refine r_aload_n 0 dX6_fits_51 rfl rfl ?_
    refine r_callV [] [] dX6_fits_52 okX6_delayStops ivX6_delayStops seX6_delayStops lm_X6_73 rfl rfl sh_40 rfl ⟨Nat.le_of_ble_eq_true rfl, Nat.le_of_ble_eq_true rfl, Nat.le_of_ble_eq_true rfl, Nat.le_of_ble_eq_true rfl⟩ h ?_
    rintro _ s7 ⟨r6, rfl, h⟩
    refine r_istore_n dX6_fits_55 rfl (by decide) rfl ?_
    refine r_aload_n 1 dX6_fits_56 rfl rfl ?_
    refine r_callV [] [] dX6_fits_57 okX6_delayPickups ivX6_delayPickups seX6_delayPickups lm_X6_77 rfl rfl sh_40 rfl ⟨Nat.le_of_ble_eq_true rfl, Nat.le_of_ble_eq_true rfl, Nat.le_of_ble_eq_true rfl, Nat.le_of_ble_eq_true rfl⟩ h ?_
    rintro _ s9 ⟨r8, rfl, h⟩
    refine r_istore dX6_fits_60 (by decide) rfl ?_
    refine r_aload_n 2 dX6_fits_62 rfl rfl ?_
    refine r_callV [] [] dX6_fits_63 okX6_isTooLate ivX6_isTooLate seX6_isTooLate lm_X6_80 rfl rfl sh_40 rfl ⟨Nat.le_of_ble_eq_true rfl, Nat.le_of_ble_eq_true rfl, Nat.le_of_ble_eq_true rfl, Nat.le_of_ble_eq_true rfl⟩ h ?_
    rintro _ s11 ⟨r10, rfl, h⟩
    refine r_if_eq (tgt := 71) dX6_fits_66 (by decide) (fun (c12 : r10 = 0) => ?_) (fun (c12 : ¬ (r10 = 0)) => ?_)
    · replace h := h.1 c12
      refine r_iload_n 1 dX6_fits_71 rfl rfl ?_
      refine r_if_ne (tgt := 82) dX6_fits_72 (by decide) (fun (c13 : r6 = 0) => ?_) (fun (c13 : ¬ (r6 = 0)) => ?_)
      · replace h := h.1 c13
        refine r_iload 0 dX6_fits_75 rfl ?_
        refine r_if_ne (tgt := 82) dX6_fits_77 (by decide) (fun (c14 : r8 = 0) => ?_) (fun (c14 : ¬ (r8 = 0)) => ?_)
        · replace h := h.1 c14
          refine r_iconst dX6_fits_80 (by decide) ?_
          exact r_zret dX6_fits_81 rfl (by decide) ⟨_, rfl, h⟩
        · replace h := h.2 c14
          obtain ⟨b15, h⟩ := h
          refine r_iinc 3 dX6_fits_82 rfl (by decide) b15 rfl ?_
          refine r_goto (tgt := 43) dX6_fits_85 (by decide) ?_
          refine MWF.sub [3, 0] rfl ?_
          exact h
      · replace h := h.2 c13
        obtain ⟨b16, h⟩ := h
        refine r_iinc 3 dX6_fits_82 rfl (by decide) b16 rfl ?_
        refine r_goto (tgt := 43) dX6_fits_85 (by decide) ?_
        refine MWF.sub [3, 0] rfl ?_
        exact h
    · replace h := h.2 c12
      refine r_iconst dX6_fits_69 (by decide) ?_
      exact r_zret dX6_fits_70 rfl (by decide) ⟨_, rfl, h⟩
set_option maxRecDepth 100000 in
set_option maxHeartbeats 4000000 in
theorem clX6_makeLatest (l : Launch) (G : GT) (σ : Sto) (Q : Sto → Prop) (x1 : Nat) (hx1 : isRt x1)
    (h : CLv l G mX6_lookAt [vR 40, vR x1] σ (fun s2 => MWv l G mX6_makeLatest 22 [(0, vR 40), (2, vI 0)] [] (cpS s2 46 42 24) Q)) :
    CLv l G mX6_makeLatest [vR 40, vR x1] σ Q := by
  show MWv l G mX6_makeLatest 0 [(0, vR 40), (1, vR x1)] [] σ Q
  refine r_aload_n 0 dX6_makeLatest_0 rfl rfl ?_
  refine r_aload_n 1 dX6_makeLatest_1 rfl rfl ?_
  refine r_callV [vR x1] [] dX6_makeLatest_2 okX6_lookAt ivX6_lookAt seX6_lookAt lm_X6_53 rfl rfl sh_40 rfl ⟨Nat.le_of_ble_eq_true rfl, Nat.le_of_ble_eq_true rfl, Nat.le_of_ble_eq_true rfl, Nat.le_of_ble_eq_true rfl⟩ h ?_
  rintro _ s2 ⟨rfl, h⟩
  refine r_aload_n 0 dX6_makeLatest_5 rfl rfl ?_
  refine r_getR (j := 7) dX6_makeLatest_6 sh_40 rfl kc_6 (by decide) lf_X6_31 ?_
  refine r_iconst dX6_makeLatest_9 (by decide) ?_
  refine r_aload_n 0 dX6_makeLatest_10 rfl rfl ?_
  refine r_getR (j := 1) dX6_makeLatest_11 sh_40 rfl kc_6 (by decide) lf_X6_15 ?_
  refine r_iconst dX6_makeLatest_14 (by decide) ?_
  refine r_bipush dX6_makeLatest_15 (by decide) (by decide) ?_
  refine r_copy dX6_makeLatest_17 lm_X6_67 w_cpy sh_46 sh_42 (by decide) (by decide) (by decide) ⟨Nat.le_of_ble_eq_true rfl, Nat.le_of_ble_eq_true rfl⟩ ?_
  refine r_iconst dX6_makeLatest_20 (by decide) ?_
  refine r_istore_n dX6_makeLatest_21 rfl (by decide) rfl ?_
  refine MWF.sub [1, 0] rfl ?_
  exact h
set_option maxRecDepth 100000 in
set_option maxHeartbeats 4000000 in
theorem vcX6_makeLatest_22 (l : Launch) (G : GT) (σ : Sto) (Q : Sto → Prop) (x2 : Int)
    (h : ((σ 40 11) < x2 → Q σ) ∧ (¬ ((σ 40 11) < x2) → CLi l G mX6_advanceStops [vR 40] σ (fun r4 s5 => CLi l G mX6_advanceDrops [vR 40] s5 (fun r6 s7 => (r4 = 0 → (r6 = 0 → Q s7) ∧ (¬ (r6 = 0) → (-2147483648 ≤ x2 + 1 ∧ x2 + 1 ≤ 2147483647) ∧ MWv l G mX6_makeLatest 22 [(0, vR 40), (2, vI (x2 + 1))] [] s7 Q)) ∧ (¬ (r4 = 0) → (-2147483648 ≤ x2 + 1 ∧ x2 + 1 ≤ 2147483647) ∧ MWv l G mX6_makeLatest 22 [(0, vR 40), (2, vI (x2 + 1))] [] s7 Q))))) :
    MWv l G mX6_makeLatest 22 [(0, vR 40), (2, vI x2)] [] σ Q := by
  refine r_iload_n 1 dX6_makeLatest_22 rfl rfl ?_
  refine r_aload_n 0 dX6_makeLatest_23 rfl rfl ?_
  refine r_getI (j := 11) dX6_makeLatest_24 sh_40 rfl kc_6 (by decide) lf_X6_43 ?_
  refine r_icmp_gt (tgt := 57) dX6_makeLatest_27 (by decide) (fun (c3 : (σ 40 11) < x2) => ?_) (fun (c3 : ¬ ((σ 40 11) < x2)) => ?_)
  · replace h := h.1 c3
    exact r_vret dX6_makeLatest_57 rfl ⟨rfl, h⟩
  · replace h := h.2 c3
    refine r_aload_n 0 dX6_makeLatest_30 rfl rfl ?_
    refine r_callV [] [] dX6_makeLatest_31 okX6_advanceStops ivX6_advanceStops seX6_advanceStops lm_X6_83 rfl rfl sh_40 rfl ⟨Nat.le_of_ble_eq_true rfl, Nat.le_of_ble_eq_true rfl, Nat.le_of_ble_eq_true rfl, Nat.le_of_ble_eq_true rfl⟩ h ?_
    rintro _ s5 ⟨r4, rfl, h⟩
    refine r_istore_n dX6_makeLatest_34 rfl (by decide) rfl ?_
    refine r_aload_n 1 dX6_makeLatest_35 rfl rfl ?_
    refine r_callV [] [] dX6_makeLatest_36 okX6_advanceDrops ivX6_advanceDrops seX6_advanceDrops lm_X6_86 rfl rfl sh_40 rfl ⟨Nat.le_of_ble_eq_true rfl, Nat.le_of_ble_eq_true rfl, Nat.le_of_ble_eq_true rfl, Nat.le_of_ble_eq_true rfl⟩ h ?_
    rintro _ s7 ⟨r6, rfl, h⟩
    refine r_istore dX6_makeLatest_39 (by decide) rfl ?_
    refine r_iload_n 1 dX6_makeLatest_41 rfl rfl ?_
    refine r_if_ne (tgt := 51) dX6_makeLatest_42 (by decide) (fun (c8 : r4 = 0) => ?_) (fun (c8 : ¬ (r4 = 0)) => ?_)
    · replace h := h.1 c8
      refine r_iload 0 dX6_makeLatest_45 rfl ?_
      refine r_if_ne (tgt := 51) dX6_makeLatest_47 (by decide) (fun (c9 : r6 = 0) => ?_) (fun (c9 : ¬ (r6 = 0)) => ?_)
      · replace h := h.1 c9
        exact r_vret dX6_makeLatest_50 rfl ⟨rfl, h⟩
      · replace h := h.2 c9
        obtain ⟨b10, h⟩ := h
        refine r_iinc 3 dX6_makeLatest_51 rfl (by decide) b10 rfl ?_
        refine r_goto (tgt := 22) dX6_makeLatest_54 (by decide) ?_
        refine MWF.sub [3, 0] rfl ?_
        exact h
    · replace h := h.2 c8
      obtain ⟨b11, h⟩ := h
      refine r_iinc 3 dX6_makeLatest_51 rfl (by decide) b11 rfl ?_
      refine r_goto (tgt := 22) dX6_makeLatest_54 (by decide) ?_
      refine MWF.sub [3, 0] rfl ?_
      exact h
set_option maxRecDepth 100000 in
set_option maxHeartbeats 4000000 in
theorem clX6_waitBefore (l : Launch) (G : GT) (σ : Sto) (Q : Int → Sto → Prop) (x1 : Int)
    (h : (0 ≤ x1 ∧ x1 < 24) ∧ (0 ≤ x1 ∧ x1 < 25) ∧ (-2147483648 ≤ (σ 41 x1.toNat) - (σ 44 x1.toNat) ∧ (σ 41 x1.toNat) - (σ 44 x1.toNat) ≤ 2147483647) ∧ ((¬ (x1 = 0) → (-2147483648 ≤ x1 - 1 ∧ x1 - 1 ≤ 2147483647) ∧ (0 ≤ (x1 - 1) ∧ (x1 - 1) < 24) ∧ True)) ∧ ∀ y8 : Int, y8 = (if x1 = 0 then (σ 40 12) else (σ 41 (x1 - 1).toNat)) → (-2147483648 ≤ ((σ 41 x1.toNat) - (σ 44 x1.toNat)) - y8 ∧ ((σ 41 x1.toNat) - (σ 44 x1.toNat)) - y8 ≤ 2147483647) ∧ Q (((σ 41 x1.toNat) - (σ 44 x1.toNat)) - y8) σ) :
    CLi l G mX6_waitBefore [vR 40, vI x1] σ Q := by
  show MWi l G mX6_waitBefore 0 [(0, vR 40), (1, vI x1)] [] σ Q
  refine r_aload_n 0 dX6_waitBefore_0 rfl rfl ?_
  refine r_getR (j := 0) dX6_waitBefore_1 sh_40 rfl kc_6 (by decide) lf_X6_9 ?_
  refine r_iload_n 1 dX6_waitBefore_4 rfl rfl ?_
  obtain ⟨b1, h⟩ := h
  refine r_iald dX6_waitBefore_5 sh_41 b1.1 b1.2 ?_
  refine r_aload_n 0 dX6_waitBefore_6 rfl rfl ?_
  refine r_getR (j := 3) dX6_waitBefore_7 sh_40 rfl kc_6 (by decide) lf_X6_21 ?_
  refine r_iload_n 1 dX6_waitBefore_10 rfl rfl ?_
  obtain ⟨b2, h⟩ := h
  refine r_iald dX6_waitBefore_11 sh_44 b2.1 b2.2 ?_
  obtain ⟨b3, h⟩ := h
  refine r_isub dX6_waitBefore_12 b3 ?_
  refine r_iload_n 1 dX6_waitBefore_13 rfl rfl ?_
  obtain ⟨q7, h⟩ := h
  obtain ⟨y8, ey8⟩ : ∃ z : Int, z = (if x1 = 0 then (σ 40 12) else (σ 41 (x1 - 1).toNat)) := ⟨_, rfl⟩
  replace h := h y8 ey8
  have hj9 : MWi l G mX6_waitBefore 32 [] [vI y8, vI ((σ 41 x1.toNat) - (σ 44 x1.toNat))] σ Q := by
    obtain ⟨b12, h⟩ := h
    refine r_isub dX6_waitBefore_32 b12 ?_
    exact r_iret dX6_waitBefore_33 rfl ⟨_, rfl, h⟩
  replace h := q7
  refine r_if_ne (tgt := 24) dX6_waitBefore_14 (by decide) (fun (c4 : x1 = 0) => ?_) (fun (c4 : ¬ (x1 = 0)) => ?_)
  · refine r_aload_n 0 dX6_waitBefore_17 rfl rfl ?_
    refine r_getI (j := 12) dX6_waitBefore_18 sh_40 rfl kc_6 (by decide) lf_X6_46 ?_
    refine r_goto (tgt := 32) dX6_waitBefore_21 (by decide) ?_
    refine MWF.sub [] rfl ?_
    have q10 : y8 = (σ 40 12) := by rw [ey8, if_pos c4]
    rw [q10] at hj9
    exact hj9
  · replace h := h c4
    refine r_aload_n 0 dX6_waitBefore_24 rfl rfl ?_
    refine r_getR (j := 0) dX6_waitBefore_25 sh_40 rfl kc_6 (by decide) lf_X6_9 ?_
    refine r_iload_n 1 dX6_waitBefore_28 rfl rfl ?_
    refine r_iconst dX6_waitBefore_29 (by decide) ?_
    obtain ⟨b5, h⟩ := h
    refine r_isub dX6_waitBefore_30 b5 ?_
    obtain ⟨b6, h⟩ := h
    refine r_iald dX6_waitBefore_31 sh_41 b6.1 b6.2 ?_
    refine MWF.sub [] rfl ?_
    have q11 : y8 = (σ 41 (x1 - 1).toNat) := by rw [ey8, if_neg c4]
    rw [q11] at hj9
    exact hj9
set_option maxRecDepth 100000 in
set_option maxHeartbeats 4000000 in
theorem clX6_minutesAboard (l : Launch) (G : GT) (σ : Sto) (Q : Int → Sto → Prop) (x1 : Nat) (x2 : Int) (hx1 : shp x1 = .inl 24)
    (h : (-2147483648 ≤ 2 * x2 ∧ 2 * x2 ≤ 2147483647) ∧ (0 ≤ (2 * x2) ∧ (2 * x2) < 24) ∧ (-2147483648 ≤ (2 * x2) + 1 ∧ (2 * x2) + 1 ≤ 2147483647) ∧ (0 ≤ ((2 * x2) + 1) ∧ ((2 * x2) + 1) < 24) ∧ (0 ≤ (σ 47 ((2 * x2) + 1).toNat) ∧ (σ 47 ((2 * x2) + 1).toNat) < 24) ∧ (0 ≤ (σ 47 (2 * x2).toNat) ∧ (σ 47 (2 * x2).toNat) < 24) ∧ (-2147483648 ≤ (σ x1 (σ 47 ((2 * x2) + 1).toNat).toNat) - (σ x1 (σ 47 (2 * x2).toNat).toNat) ∧ (σ x1 (σ 47 ((2 * x2) + 1).toNat).toNat) - (σ x1 (σ 47 (2 * x2).toNat).toNat) ≤ 2147483647) ∧ (-2147483648 ≤ ((σ x1 (σ 47 ((2 * x2) + 1).toNat).toNat) - (σ x1 (σ 47 (2 * x2).toNat).toNat)) - (σ 1 2) ∧ ((σ x1 (σ 47 ((2 * x2) + 1).toNat).toNat) - (σ x1 (σ 47 (2 * x2).toNat).toNat)) - (σ 1 2) ≤ 2147483647) ∧ Q (((σ x1 (σ 47 ((2 * x2) + 1).toNat).toNat) - (σ x1 (σ 47 (2 * x2).toNat).toNat)) - (σ 1 2)) σ) :
    CLi l G mX6_minutesAboard [vR 40, vR x1, vI x2] σ Q := by
  show MWi l G mX6_minutesAboard 0 [(0, vR 40), (1, vR x1), (2, vI x2)] [] σ Q
  refine r_aload_n 0 dX6_minutesAboard_0 rfl rfl ?_
  refine r_getR (j := 8) dX6_minutesAboard_1 sh_40 rfl kc_6 (by decide) lf_X6_34 ?_
  refine r_iconst dX6_minutesAboard_4 (by decide) ?_
  refine r_iload_n 2 dX6_minutesAboard_5 rfl rfl ?_
  obtain ⟨b1, h⟩ := h
  refine r_imul dX6_minutesAboard_6 b1 ?_
  obtain ⟨b2, h⟩ := h
  refine r_iald dX6_minutesAboard_7 sh_47 b2.1 b2.2 ?_
  refine r_istore_n dX6_minutesAboard_8 rfl (by decide) rfl ?_
  refine r_aload_n 1 dX6_minutesAboard_9 rfl rfl ?_
  refine r_getR (j := 8) dX6_minutesAboard_10 sh_40 rfl kc_6 (by decide) lf_X6_34 ?_
  refine r_iconst dX6_minutesAboard_13 (by decide) ?_
  refine r_iload_n 3 dX6_minutesAboard_14 rfl rfl ?_
  refine r_imul dX6_minutesAboard_15 b1 ?_
  refine r_iconst dX6_minutesAboard_16 (by decide) ?_
  obtain ⟨b3, h⟩ := h
  refine r_iadd dX6_minutesAboard_17 b3 ?_
  obtain ⟨b4, h⟩ := h
  refine r_iald dX6_minutesAboard_18 sh_47 b4.1 b4.2 ?_
  refine r_istore dX6_minutesAboard_19 (by decide) rfl ?_
  refine r_aload_n 3 dX6_minutesAboard_21 rfl rfl ?_
  refine r_iload 0 dX6_minutesAboard_22 rfl ?_
  obtain ⟨b5, h⟩ := h
  refine r_iald dX6_minutesAboard_24 hx1 b5.1 b5.2 ?_
  refine r_aload_n 3 dX6_minutesAboard_25 rfl rfl ?_
  refine r_iload_n 1 dX6_minutesAboard_26 rfl rfl ?_
  obtain ⟨b6, h⟩ := h
  refine r_iald dX6_minutesAboard_27 hx1 b6.1 b6.2 ?_
  obtain ⟨b7, h⟩ := h
  refine r_isub dX6_minutesAboard_28 b7 ?_
  refine r_aload_n 2 dX6_minutesAboard_29 rfl rfl ?_
  refine r_getR (j := 5) dX6_minutesAboard_30 sh_40 rfl kc_6 (by decide) lf_X6_49 ?_
  refine r_getI (j := 2) dX6_minutesAboard_33 sh_1 rfl kc_4 (by decide) lf_X6_89 ?_
  obtain ⟨b8, h⟩ := h
  refine r_isub dX6_minutesAboard_36 b8 ?_
  exact r_iret dX6_minutesAboard_37 rfl ⟨_, rfl, h⟩
set_option maxRecDepth 100000 in
set_option maxHeartbeats 4000000 in
theorem clX6_lookAt (l : Launch) (G : GT) (σ : Sto) (Q : Sto → Prop) (x1 : Nat) (hx1 : isRt x1)
    (h : (0 ≤ (σ x1 0) ∧ (σ x1 0) < 4) ∧ MWv l G mX6_lookAt 39 [(0, vR 40), (1, vR x1), (2, vI (σ x1 1)), (3, vI 0), (4, vI 0)] [] (stS (stS (stS σ 40 11 (σ x1 2)) 40 12 (σ 3 (σ x1 0).toNat)) 40 4 0) Q) :
    CLv l G mX6_lookAt [vR 40, vR x1] σ Q := by
  show MWv l G mX6_lookAt 0 [(0, vR 40), (1, vR x1)] [] σ Q
  refine r_aload_n 1 dX6_lookAt_0 rfl rfl ?_
  refine r_getI (j := 1) dX6_lookAt_1 hx1.1 rfl kc_5 (by decide) lf_X6_92 ?_
  refine r_istore_n dX6_lookAt_4 rfl (by decide) rfl ?_
  refine r_iconst dX6_lookAt_5 (by decide) ?_
  refine r_istore_n dX6_lookAt_6 rfl (by decide) rfl ?_
  refine r_aload_n 2 dX6_lookAt_7 rfl rfl ?_
  refine r_aload_n 3 dX6_lookAt_8 rfl rfl ?_
  refine r_getI (j := 2) dX6_lookAt_9 hx1.1 rfl kc_5 (by decide) lf_X6_95 ?_
  refine r_putI (j := 11) dX6_lookAt_12 sh_40 rfl kc_6 (by decide) lf_X6_43 rfl (by decide) ?_
  refine r_aload_n 2 dX6_lookAt_15 rfl rfl ?_
  refine r_aload_n 2 dX6_lookAt_16 rfl rfl ?_
  refine r_getR (j := 5) dX6_lookAt_17 sh_40 rfl kc_6 (by decide) lf_X6_49 ?_
  refine r_getR (j := 4) dX6_lookAt_20 sh_1 rfl kc_4 (by decide) lf_X6_96 ?_
  refine r_aload_n 3 dX6_lookAt_23 rfl rfl ?_
  refine r_getI (j := 0) dX6_lookAt_24 hx1.1 rfl kc_5 (by decide) lf_X6_62 ?_
  refine MWF.top (stS_ne (shne_oo hx1.1 sh_40 (by decide))) ?_
  obtain ⟨b1, h⟩ := h
  refine r_iald dX6_lookAt_27 sh_3 b1.1 b1.2 ?_
  refine MWF.top (stS_ne (by decide)) ?_
  refine r_putI (j := 12) dX6_lookAt_28 sh_40 rfl kc_6 (by decide) lf_X6_46 rfl (by decide) ?_
  refine r_aload_n 2 dX6_lookAt_31 rfl rfl ?_
  refine r_iconst dX6_lookAt_32 (by decide) ?_
  refine r_putI (j := 4) dX6_lookAt_33 sh_40 rfl kc_6 (by decide) lf_X6_24 rfl (by decide) ?_
  refine r_iconst dX6_lookAt_36 (by decide) ?_
  refine r_istore dX6_lookAt_37 (by decide) rfl ?_
  refine MWF.sub [3, 4, 2, 1, 0] rfl ?_
  exact h
set_option maxRecDepth 100000 in
set_option maxHeartbeats 4000000 in
theorem vcX6_lookAt_39 (l : Launch) (G : GT) (σ : Sto) (Q : Sto → Prop) (x1 : Nat) (x2 : Int) (x3 : Int) (x4 : Int) (hx1 : isRt x1)
    (h : ((σ 40 11) ≤ x4 → ((σ 40 11) ≤ 0 → Q σ) ∧ (¬ ((σ 40 11) ≤ 0) → (-2147483648 ≤ (σ 40 12) + (σ 44 0) ∧ (σ 40 12) + (σ 44 0) ≤ 2147483647) ∧ ∀ y6 : Int, y6 = (if ((σ 40 12) + (σ 44 0)) ≤ (σ 45 0) then (σ 45 0) else ((σ 40 12) + (σ 44 0))) → (0 ≤ x2 ∧ x2 < 28) ∧ (0 ≤ (σ x1 1) ∧ (σ x1 1) < 28) ∧ (-2147483648 ≤ (σ (12 + x2.toNat) (σ x1 1).toNat) + (σ 1 2) ∧ (σ (12 + x2.toNat) (σ x1 1).toNat) + (σ 1 2) ≤ 2147483647) ∧ (0 ≤ (σ 40 11) ∧ (σ 40 11) < 25) ∧ (0 ≤ (σ x1 0) ∧ (σ x1 0) < 4) ∧ (-2147483648 ≤ (σ 4 (σ x1 0).toNat) - ((σ (12 + x2.toNat) (σ x1 1).toNat) + (σ 1 2)) ∧ (σ 4 (σ x1 0).toNat) - ((σ (12 + x2.toNat) (σ x1 1).toNat) + (σ 1 2)) ≤ 2147483647) ∧ (-2147483648 ≤ (σ 40 11) - 1 ∧ (σ 40 11) - 1 ≤ 2147483647) ∧ (0 ≤ ((σ 40 11) - 1) ∧ ((σ 40 11) - 1) < 24) ∧ ∀ y19 : Int, y19 = (if (σ 46 ((σ 40 11) - 1).toNat) ≤ ((σ 4 (σ x1 0).toNat) - ((σ (12 + x2.toNat) (σ x1 1).toNat) + (σ 1 2))) then (σ 46 ((σ 40 11) - 1).toNat) else ((σ 4 (σ x1 0).toNat) - ((σ (12 + x2.toNat) (σ x1 1).toNat) + (σ 1 2)))) → Q (stS (stS (stS σ 45 0 y6) 44 (σ 40 11).toNat ((σ (12 + x2.toNat) (σ x1 1).toNat) + (σ 1 2))) 46 ((σ 40 11) - 1).toNat y19))) ∧ (¬ ((σ 40 11) ≤ x4) → (0 ≤ x4 ∧ x4 < 24) ∧ (0 ≤ (σ (x1 + 4) x4.toNat) ∧ (σ (x1 + 4) x4.toNat) < 24) ∧ (-2147483648 ≤ x3 + (σ 6 (σ (x1 + 4) x4.toNat).toNat) ∧ x3 + (σ 6 (σ (x1 + 4) x4.toNat).toNat) ≤ 2147483647) ∧ ∀ y27 : Int, y27 = (if (x3 + (σ 6 (σ (x1 + 4) x4.toNat).toNat)) ≤ (σ 40 4) then (σ 40 4) else (x3 + (σ 6 (σ (x1 + 4) x4.toNat).toNat))) → (0 ≤ x2 ∧ x2 < 28) ∧ (0 ≤ (σ (x1 + 4) x4.toNat) ∧ (σ (x1 + 4) x4.toNat) < 28) ∧ ∀ y34 : Int, y34 = (if x4 = 0 then 0 else (σ 1 2)) → (-2147483648 ≤ (σ (12 + x2.toNat) (σ (x1 + 4) x4.toNat).toNat) + y34 ∧ (σ (12 + x2.toNat) (σ (x1 + 4) x4.toNat).toNat) + y34 ≤ 2147483647) ∧ (0 ≤ x4 ∧ x4 < 25) ∧ (0 ≤ (σ (x1 + 4) x4.toNat)) ∧ (-2147483648 ≤ (σ (x1 + 4) x4.toNat) - ((σ (x1 + 4) x4.toNat) % 2) ∧ (σ (x1 + 4) x4.toNat) - ((σ (x1 + 4) x4.toNat) % 2) ≤ 2147483647) ∧ (0 ≤ ((σ (x1 + 4) x4.toNat) - ((σ (x1 + 4) x4.toNat) % 2)) ∧ ((σ (x1 + 4) x4.toNat) - ((σ (x1 + 4) x4.toNat) % 2)) < 24) ∧ (0 ≤ ((σ (x1 + 4) x4.toNat) / 2) ∧ ((σ (x1 + 4) x4.toNat) / 2) < 12) ∧ (-2147483648 ≤ (σ 1 2) + (σ 5 ((σ (x1 + 4) x4.toNat) / 2).toNat) ∧ (σ 1 2) + (σ 5 ((σ (x1 + 4) x4.toNat) / 2).toNat) ≤ 2147483647) ∧ (-2147483648 ≤ x4 + 1 ∧ x4 + 1 ≤ 2147483647) ∧ MWv l G mX6_lookAt 39 [(0, vR 40), (1, vR x1), (2, vI (σ (x1 + 4) x4.toNat)), (3, vI (x3 + (σ 6 (σ (x1 + 4) x4.toNat).toNat))), (4, vI (x4 + 1))] [] (stS (stS (stS (stS (stS (stS (stS (stS σ 43 x4.toNat (x3 + (σ 6 (σ (x1 + 4) x4.toNat).toNat))) 40 4 y27) 44 x4.toNat ((σ (12 + x2.toNat) (σ (x1 + 4) x4.toNat).toNat) + y34)) 45 x4.toNat (σ 7 (σ (x1 + 4) x4.toNat).toNat)) 46 x4.toNat (σ 8 (σ (x1 + 4) x4.toNat).toNat)) 47 (σ (x1 + 4) x4.toNat).toNat x4) 48 x4.toNat ((stS (stS (stS (stS (stS (stS σ 43 x4.toNat (x3 + (σ 6 (σ (x1 + 4) x4.toNat).toNat))) 40 4 y27) 44 x4.toNat ((σ (12 + x2.toNat) (σ (x1 + 4) x4.toNat).toNat) + y34)) 45 x4.toNat (σ 7 (σ (x1 + 4) x4.toNat).toNat)) 46 x4.toNat (σ 8 (σ (x1 + 4) x4.toNat).toNat)) 47 (σ (x1 + 4) x4.toNat).toNat x4) 47 ((σ (x1 + 4) x4.toNat) - ((σ (x1 + 4) x4.toNat) % 2)).toNat)) 49 x4.toNat ((σ 1 2) + (σ 5 ((σ (x1 + 4) x4.toNat) / 2).toNat))) Q)) :
    MWv l G mX6_lookAt 39 [(0, vR 40), (1, vR x1), (2, vI x2), (3, vI x3), (4, vI x4)] [] σ Q := by
  refine r_iload 4 dX6_lookAt_39 rfl ?_
  refine r_aload_n 0 dX6_lookAt_41 rfl rfl ?_
  refine r_getI (j := 11) dX6_lookAt_42 sh_40 rfl kc_6 (by decide) lf_X6_43 ?_
  refine r_icmp_ge (tgt := 232) dX6_lookAt_45 (by decide) (fun (c2 : (σ 40 11) ≤ x4) => ?_) (fun (c2 : ¬ ((σ 40 11) ≤ x4)) => ?_)
  · replace h := h.1 c2
    refine r_aload_n 0 dX6_lookAt_232 rfl rfl ?_
    refine r_getI (j := 11) dX6_lookAt_233 sh_40 rfl kc_6 (by decide) lf_X6_43 ?_
    refine r_if_le (tgt := 378) dX6_lookAt_236 (by decide) (fun (c3 : (σ 40 11) ≤ 0) => ?_) (fun (c3 : ¬ ((σ 40 11) ≤ 0)) => ?_)
    · replace h := h.1 c3
      exact r_vret dX6_lookAt_378 rfl ⟨rfl, h⟩
    · replace h := h.2 c3
      refine r_aload_n 0 dX6_lookAt_239 rfl rfl ?_
      refine r_getI (j := 12) dX6_lookAt_240 sh_40 rfl kc_6 (by decide) lf_X6_46 ?_
      refine r_aload_n 0 dX6_lookAt_243 rfl rfl ?_
      refine r_getR (j := 3) dX6_lookAt_244 sh_40 rfl kc_6 (by decide) lf_X6_21 ?_
      refine r_iconst dX6_lookAt_247 (by decide) ?_
      refine r_iald dX6_lookAt_248 sh_44 (by decide) (by decide) ?_
      obtain ⟨b4, h⟩ := h
      refine r_iadd dX6_lookAt_249 b4 ?_
      refine r_istore dX6_lookAt_250 (by decide) rfl ?_
      refine r_aload_n 1 dX6_lookAt_252 rfl rfl ?_
      refine r_getR (j := 6) dX6_lookAt_253 sh_40 rfl kc_6 (by decide) lf_X6_28 ?_
      refine r_iconst dX6_lookAt_256 (by decide) ?_
      refine r_iload 0 dX6_lookAt_257 rfl ?_
      refine r_aload_n 1 dX6_lookAt_259 rfl rfl ?_
      refine r_getR (j := 6) dX6_lookAt_260 sh_40 rfl kc_6 (by decide) lf_X6_28 ?_
      refine r_iconst dX6_lookAt_263 (by decide) ?_
      refine r_iald dX6_lookAt_264 sh_45 (by decide) (by decide) ?_
      obtain ⟨y6, ey6⟩ : ∃ z : Int, z = (if ((σ 40 12) + (σ 44 0)) ≤ (σ 45 0) then (σ 45 0) else ((σ 40 12) + (σ 44 0))) := ⟨_, rfl⟩
      replace h := h y6 ey6
      have hj7 : MWv l G mX6_lookAt 279 [(0, vR 40), (1, vR x1), (2, vI x2)] [vI y6, vI 0, vR 45] σ Q := by
        refine r_iast dX6_lookAt_279 sh_45 (by decide) (by decide) ?_
        refine r_aload_n 0 dX6_lookAt_280 rfl rfl ?_
        refine r_getR (j := 3) dX6_lookAt_281 sh_40 rfl kc_6 (by decide) lf_X6_21 ?_
        refine r_aload_n 0 dX6_lookAt_284 rfl rfl ?_
        refine r_getI (j := 11) dX6_lookAt_285 sh_40 rfl kc_6 (by decide) lf_X6_43 ?_
        refine MWF.top (stS_ne (by decide)) ?_
        refine r_aload_n 0 dX6_lookAt_288 rfl rfl ?_
        refine r_getR (j := 5) dX6_lookAt_289 sh_40 rfl kc_6 (by decide) lf_X6_49 ?_
        refine r_getR (j := 12) dX6_lookAt_292 sh_1 rfl kc_4 (by decide) lf_X6_104 ?_
        refine r_iload_n 2 dX6_lookAt_295 rfl rfl ?_
        obtain ⟨b10, h⟩ := h
        refine r_aald dX6_lookAt_296 sh_11 (fun _ => rfl) rfl b10.1 (tv_at b10.1 b10.2) ?_
        refine r_aload_n 1 dX6_lookAt_297 rfl rfl ?_
        refine r_getI (j := 1) dX6_lookAt_298 hx1.1 rfl kc_5 (by decide) lf_X6_92 ?_
        refine MWF.top (stS_ne (shne_oa hx1.1 sh_45)) ?_
        obtain ⟨b11, h⟩ := h
        refine r_iald dX6_lookAt_301 (tv_sh b10.1 b10.2) b11.1 b11.2 ?_
        refine MWF.top (stS_ne (shne_aa (tv_sh b10.1 b10.2) sh_45 (by decide))) ?_
        refine r_aload_n 0 dX6_lookAt_302 rfl rfl ?_
        refine r_getR (j := 5) dX6_lookAt_303 sh_40 rfl kc_6 (by decide) lf_X6_49 ?_
        refine r_getI (j := 2) dX6_lookAt_306 sh_1 rfl kc_4 (by decide) lf_X6_89 ?_
        refine MWF.top (stS_ne (by decide)) ?_
        obtain ⟨b12, h⟩ := h
        refine r_iadd dX6_lookAt_309 b12 ?_
        obtain ⟨b13, h⟩ := h
        refine r_iast dX6_lookAt_310 sh_44 b13.1 b13.2 ?_
        refine r_aload_n 0 dX6_lookAt_311 rfl rfl ?_
        refine r_getR (j := 5) dX6_lookAt_312 sh_40 rfl kc_6 (by decide) lf_X6_49 ?_
        refine r_getR (j := 5) dX6_lookAt_315 sh_1 rfl kc_4 (by decide) lf_X6_117 ?_
        refine r_aload_n 1 dX6_lookAt_318 rfl rfl ?_
        refine r_getI (j := 0) dX6_lookAt_319 hx1.1 rfl kc_5 (by decide) lf_X6_62 ?_
        refine MWF.top ((stS_ne (shne_oa hx1.1 sh_44)).trans (stS_ne (shne_oa hx1.1 sh_45))) ?_
        obtain ⟨b14, h⟩ := h
        refine r_iald dX6_lookAt_322 sh_4 b14.1 b14.2 ?_
        refine MWF.top ((stS_ne (by decide)).trans (stS_ne (by decide))) ?_
        refine r_aload_n 0 dX6_lookAt_323 rfl rfl ?_
        refine r_getR (j := 3) dX6_lookAt_324 sh_40 rfl kc_6 (by decide) lf_X6_21 ?_
        refine r_aload_n 0 dX6_lookAt_327 rfl rfl ?_
        refine r_getI (j := 11) dX6_lookAt_328 sh_40 rfl kc_6 (by decide) lf_X6_43 ?_
        refine MWF.top ((stS_ne (by decide)).trans (stS_ne (by decide))) ?_
        refine r_iald dX6_lookAt_331 sh_44 b13.1 b13.2 ?_
        refine MWF.top stS_eq ?_
        obtain ⟨b15, h⟩ := h
        refine r_isub dX6_lookAt_332 b15 ?_
        refine r_istore dX6_lookAt_333 (by decide) rfl ?_
        refine r_aload_n 1 dX6_lookAt_335 rfl rfl ?_
        refine r_getR (j := 7) dX6_lookAt_336 sh_40 rfl kc_6 (by decide) lf_X6_31 ?_
        refine r_aload_n 1 dX6_lookAt_339 rfl rfl ?_
        refine r_getI (j := 11) dX6_lookAt_340 sh_40 rfl kc_6 (by decide) lf_X6_43 ?_
        refine MWF.top ((stS_ne (by decide)).trans (stS_ne (by decide))) ?_
        refine r_iconst dX6_lookAt_343 (by decide) ?_
        obtain ⟨b16, h⟩ := h
        refine r_isub dX6_lookAt_344 b16 ?_
        refine r_iload 0 dX6_lookAt_345 rfl ?_
        refine r_aload_n 1 dX6_lookAt_347 rfl rfl ?_
        refine r_getR (j := 7) dX6_lookAt_348 sh_40 rfl kc_6 (by decide) lf_X6_31 ?_
        refine r_aload_n 1 dX6_lookAt_351 rfl rfl ?_
        refine r_getI (j := 11) dX6_lookAt_352 sh_40 rfl kc_6 (by decide) lf_X6_43 ?_
        refine MWF.top ((stS_ne (by decide)).trans (stS_ne (by decide))) ?_
        refine r_iconst dX6_lookAt_355 (by decide) ?_
        refine r_isub dX6_lookAt_356 b16 ?_
        obtain ⟨b17, h⟩ := h
        refine r_iald dX6_lookAt_357 sh_46 b17.1 b17.2 ?_
        refine MWF.top ((stS_ne (by decide)).trans (stS_ne (by decide))) ?_
        obtain ⟨y19, ey19⟩ : ∃ z : Int, z = (if (σ 46 ((σ 40 11) - 1).toNat) ≤ ((σ 4 (σ x1 0).toNat) - ((σ (12 + x2.toNat) (σ x1 1).toNat) + (σ 1 2))) then (σ 46 ((σ 40 11) - 1).toNat) else ((σ 4 (σ x1 0).toNat) - ((σ (12 + x2.toNat) (σ x1 1).toNat) + (σ 1 2)))) := ⟨_, rfl⟩
        replace h := h y19 ey19
        have hj20 : MWv l G mX6_lookAt 377 [] [vI y19, vI ((σ 40 11) - 1), vR 46] (stS (stS σ 45 0 y6) 44 (σ 40 11).toNat ((σ (12 + x2.toNat) (σ x1 1).toNat) + (σ 1 2))) Q := by
          refine r_iast dX6_lookAt_377 sh_46 b17.1 b17.2 ?_
          exact r_vret dX6_lookAt_378 rfl ⟨rfl, h⟩
        refine r_icmp_ge (tgt := 366) dX6_lookAt_358 (by decide) (fun (c18 : (σ 46 ((σ 40 11) - 1).toNat) ≤ ((σ 4 (σ x1 0).toNat) - ((σ (12 + x2.toNat) (σ x1 1).toNat) + (σ 1 2)))) => ?_) (fun (c18 : ¬ ((σ 46 ((σ 40 11) - 1).toNat) ≤ ((σ 4 (σ x1 0).toNat) - ((σ (12 + x2.toNat) (σ x1 1).toNat) + (σ 1 2))))) => ?_)
        · refine r_aload_n 1 dX6_lookAt_366 rfl rfl ?_
          refine r_getR (j := 7) dX6_lookAt_367 sh_40 rfl kc_6 (by decide) lf_X6_31 ?_
          refine r_aload_n 1 dX6_lookAt_370 rfl rfl ?_
          refine r_getI (j := 11) dX6_lookAt_371 sh_40 rfl kc_6 (by decide) lf_X6_43 ?_
          refine MWF.top ((stS_ne (by decide)).trans (stS_ne (by decide))) ?_
          refine r_iconst dX6_lookAt_374 (by decide) ?_
          refine r_isub dX6_lookAt_375 b16 ?_
          refine r_iald dX6_lookAt_376 sh_46 b17.1 b17.2 ?_
          refine MWF.top ((stS_ne (by decide)).trans (stS_ne (by decide))) ?_
          refine MWF.sub [] rfl ?_
          have q21 : y19 = (σ 46 ((σ 40 11) - 1).toNat) := by rw [ey19, if_pos c18]
          rw [q21] at hj20
          exact hj20
        · refine r_iload 0 dX6_lookAt_361 rfl ?_
          refine r_goto (tgt := 377) dX6_lookAt_363 (by decide) ?_
          refine MWF.sub [] rfl ?_
          have q22 : y19 = ((σ 4 (σ x1 0).toNat) - ((σ (12 + x2.toNat) (σ x1 1).toNat) + (σ 1 2))) := by rw [ey19, if_neg c18]
          rw [q22] at hj20
          exact hj20
      refine r_icmp_le (tgt := 273) dX6_lookAt_265 (by decide) (fun (c5 : ((σ 40 12) + (σ 44 0)) ≤ (σ 45 0)) => ?_) (fun (c5 : ¬ (((σ 40 12) + (σ 44 0)) ≤ (σ 45 0))) => ?_)
      · refine r_aload_n 1 dX6_lookAt_273 rfl rfl ?_
        refine r_getR (j := 6) dX6_lookAt_274 sh_40 rfl kc_6 (by decide) lf_X6_28 ?_
        refine r_iconst dX6_lookAt_277 (by decide) ?_
        refine r_iald dX6_lookAt_278 sh_45 (by decide) (by decide) ?_
        refine MWF.sub [1, 2, 3] rfl ?_
        have q8 : y6 = (σ 45 0) := by rw [ey6, if_pos c5]
        rw [q8] at hj7
        exact hj7
      · refine r_iload 0 dX6_lookAt_268 rfl ?_
        refine r_goto (tgt := 279) dX6_lookAt_270 (by decide) ?_
        refine MWF.sub [1, 2, 3] rfl ?_
        have q9 : y6 = ((σ 40 12) + (σ 44 0)) := by rw [ey6, if_neg c5]
        rw [q9] at hj7
        exact hj7
  · replace h := h.2 c2
    refine r_aload_n 1 dX6_lookAt_48 rfl rfl ?_
    refine r_getR (j := 3) dX6_lookAt_49 hx1.1 rfl kc_5 (by decide) lf_X6_98 ?_
    refine r_iload 4 dX6_lookAt_52 rfl ?_
    obtain ⟨b23, h⟩ := h
    refine r_iald dX6_lookAt_54 hx1.2 b23.1 b23.2 ?_
    refine r_istore dX6_lookAt_55 (by decide) rfl ?_
    refine r_iload_n 4 dX6_lookAt_57 rfl rfl ?_
    refine r_aload_n 1 dX6_lookAt_58 rfl rfl ?_
    refine r_getR (j := 5) dX6_lookAt_59 sh_40 rfl kc_6 (by decide) lf_X6_49 ?_
    refine r_getR (j := 7) dX6_lookAt_62 sh_1 rfl kc_4 (by decide) lf_X6_101 ?_
    refine r_iload 0 dX6_lookAt_65 rfl ?_
    obtain ⟨b24, h⟩ := h
    refine r_iald dX6_lookAt_67 sh_6 b24.1 b24.2 ?_
    obtain ⟨b25, h⟩ := h
    refine r_iadd dX6_lookAt_68 b25 ?_
    refine r_istore_n dX6_lookAt_69 rfl (by decide) rfl ?_
    refine r_aload_n 2 dX6_lookAt_70 rfl rfl ?_
    refine r_getR (j := 2) dX6_lookAt_71 sh_40 rfl kc_6 (by decide) lf_X6_18 ?_
    refine r_iload 5 dX6_lookAt_74 rfl ?_
    refine r_iload_n 0 dX6_lookAt_76 rfl rfl ?_
    refine r_iast dX6_lookAt_77 sh_43 b23.1 b23.2 ?_
    refine r_aload_n 2 dX6_lookAt_78 rfl rfl ?_
    refine r_iload_n 0 dX6_lookAt_79 rfl rfl ?_
    refine r_aload_n 2 dX6_lookAt_80 rfl rfl ?_
    refine r_getI (j := 4) dX6_lookAt_81 sh_40 rfl kc_6 (by decide) lf_X6_24 ?_
    refine MWF.top (stS_ne (by decide)) ?_
    obtain ⟨y27, ey27⟩ : ∃ z : Int, z = (if (x3 + (σ 6 (σ (x1 + 4) x4.toNat).toNat)) ≤ (σ 40 4) then (σ 40 4) else (x3 + (σ 6 (σ (x1 + 4) x4.toNat).toNat))) := ⟨_, rfl⟩
    replace h := h y27 ey27
    have hj28 : MWv l G mX6_lookAt 95 [(0, vR 40), (1, vR x1), (2, vI x2), (3, vI (x3 + (σ 6 (σ (x1 + 4) x4.toNat).toNat))), (4, vI x4), (5, vI (σ (x1 + 4) x4.toNat))] [vI y27, vR 40] (stS σ 43 x4.toNat (x3 + (σ 6 (σ (x1 + 4) x4.toNat).toNat))) Q := by
      refine r_putI (j := 4) dX6_lookAt_95 sh_40 rfl kc_6 (by decide) lf_X6_24 rfl (by decide) ?_
      refine r_aload_n 0 dX6_lookAt_98 rfl rfl ?_
      refine r_getR (j := 3) dX6_lookAt_99 sh_40 rfl kc_6 (by decide) lf_X6_21 ?_
      refine r_iload 4 dX6_lookAt_102 rfl ?_
      refine r_aload_n 0 dX6_lookAt_104 rfl rfl ?_
      refine r_getR (j := 5) dX6_lookAt_105 sh_40 rfl kc_6 (by decide) lf_X6_49 ?_
      refine r_getR (j := 12) dX6_lookAt_108 sh_1 rfl kc_4 (by decide) lf_X6_104 ?_
      refine r_iload_n 2 dX6_lookAt_111 rfl rfl ?_
      obtain ⟨b31, h⟩ := h
      refine r_aald dX6_lookAt_112 sh_11 (fun _ => rfl) rfl b31.1 (tv_at b31.1 b31.2) ?_
      refine r_iload 5 dX6_lookAt_113 rfl ?_
      obtain ⟨b32, h⟩ := h
      refine r_iald dX6_lookAt_115 (tv_sh b31.1 b31.2) b32.1 b32.2 ?_
      refine MWF.top ((stS_ne (shne_ao (tv_sh b31.1 b31.2) sh_40)).trans (stS_ne (shne_aa (tv_sh b31.1 b31.2) sh_43 (by decide)))) ?_
      refine r_iload 4 dX6_lookAt_116 rfl ?_
      obtain ⟨y34, ey34⟩ : ∃ z : Int, z = (if x4 = 0 then 0 else (σ 1 2)) := ⟨_, rfl⟩
      replace h := h y34 ey34
      have hj35 : MWv l G mX6_lookAt 132 [(0, vR 40), (1, vR x1), (3, vI (x3 + (σ 6 (σ (x1 + 4) x4.toNat).toNat))), (4, vI x4), (5, vI (σ (x1 + 4) x4.toNat))] [vI y34, vI (σ (12 + x2.toNat) (σ (x1 + 4) x4.toNat).toNat), vI x4, vR 44] (stS (stS σ 43 x4.toNat (x3 + (σ 6 (σ (x1 + 4) x4.toNat).toNat))) 40 4 y27) Q := by
        obtain ⟨b38, h⟩ := h
        refine r_iadd dX6_lookAt_132 b38 ?_
        obtain ⟨b39, h⟩ := h
        refine r_iast dX6_lookAt_133 sh_44 b39.1 b39.2 ?_
        refine r_aload_n 0 dX6_lookAt_134 rfl rfl ?_
        refine r_getR (j := 6) dX6_lookAt_135 sh_40 rfl kc_6 (by decide) lf_X6_28 ?_
        refine r_iload 3 dX6_lookAt_138 rfl ?_
        refine r_aload_n 0 dX6_lookAt_140 rfl rfl ?_
        refine r_getR (j := 5) dX6_lookAt_141 sh_40 rfl kc_6 (by decide) lf_X6_49 ?_
        refine r_getR (j := 8) dX6_lookAt_144 sh_1 rfl kc_4 (by decide) lf_X6_108 ?_
        refine r_iload 4 dX6_lookAt_147 rfl ?_
        refine r_iald dX6_lookAt_149 sh_7 b24.1 b24.2 ?_
        refine MWF.top ((stS_ne (by decide)).trans ((stS_ne (by decide)).trans (stS_ne (by decide)))) ?_
        refine r_iast dX6_lookAt_150 sh_45 b23.1 b23.2 ?_
        refine r_aload_n 0 dX6_lookAt_151 rfl rfl ?_
        refine r_getR (j := 7) dX6_lookAt_152 sh_40 rfl kc_6 (by decide) lf_X6_31 ?_
        refine r_iload 3 dX6_lookAt_155 rfl ?_
        refine r_aload_n 0 dX6_lookAt_157 rfl rfl ?_
        refine r_getR (j := 5) dX6_lookAt_158 sh_40 rfl kc_6 (by decide) lf_X6_49 ?_
        refine r_getR (j := 9) dX6_lookAt_161 sh_1 rfl kc_4 (by decide) lf_X6_111 ?_
        refine r_iload 4 dX6_lookAt_164 rfl ?_
        refine r_iald dX6_lookAt_166 sh_8 b24.1 b24.2 ?_
        refine MWF.top ((stS_ne (by decide)).trans ((stS_ne (by decide)).trans ((stS_ne (by decide)).trans (stS_ne (by decide))))) ?_
        refine r_iast dX6_lookAt_167 sh_46 b23.1 b23.2 ?_
        refine r_aload_n 0 dX6_lookAt_168 rfl rfl ?_
        refine r_getR (j := 8) dX6_lookAt_169 sh_40 rfl kc_6 (by decide) lf_X6_34 ?_
        refine r_iload 4 dX6_lookAt_172 rfl ?_
        refine r_iload 3 dX6_lookAt_174 rfl ?_
        refine r_iast dX6_lookAt_176 sh_47 b24.1 b24.2 ?_
        refine r_aload_n 0 dX6_lookAt_177 rfl rfl ?_
        refine r_getR (j := 9) dX6_lookAt_178 sh_40 rfl kc_6 (by decide) lf_X6_37 ?_
        refine r_iload 3 dX6_lookAt_181 rfl ?_
        refine r_aload_n 0 dX6_lookAt_183 rfl rfl ?_
        refine r_getR (j := 8) dX6_lookAt_184 sh_40 rfl kc_6 (by decide) lf_X6_34 ?_
        refine r_iload 4 dX6_lookAt_187 rfl ?_
        refine r_iload 4 dX6_lookAt_189 rfl ?_
        refine r_iconst dX6_lookAt_191 (by decide) ?_
        obtain ⟨b40, h⟩ := h
        refine r_irem dX6_lookAt_192 b40 (by decide) ?_
        obtain ⟨b41, h⟩ := h
        refine r_isub dX6_lookAt_193 b41 ?_
        obtain ⟨b42, h⟩ := h
        refine r_iald dX6_lookAt_194 sh_47 b42.1 b42.2 ?_
        refine r_iast dX6_lookAt_195 sh_48 b23.1 b23.2 ?_
        refine r_aload_n 0 dX6_lookAt_196 rfl rfl ?_
        refine r_getR (j := 10) dX6_lookAt_197 sh_40 rfl kc_6 (by decide) lf_X6_40 ?_
        refine r_iload 3 dX6_lookAt_200 rfl ?_
        refine r_aload_n 0 dX6_lookAt_202 rfl rfl ?_
        refine r_getR (j := 5) dX6_lookAt_203 sh_40 rfl kc_6 (by decide) lf_X6_49 ?_
        refine r_getI (j := 2) dX6_lookAt_206 sh_1 rfl kc_4 (by decide) lf_X6_89 ?_
        refine MWF.top ((stS_ne (by decide)).trans ((stS_ne (by decide)).trans ((stS_ne (by decide)).trans ((stS_ne (by decide)).trans ((stS_ne (by decide)).trans ((stS_ne (by decide)).trans (stS_ne (by decide)))))))) ?_
        refine r_aload_n 0 dX6_lookAt_209 rfl rfl ?_
        refine r_getR (j := 5) dX6_lookAt_210 sh_40 rfl kc_6 (by decide) lf_X6_49 ?_
        refine r_getR (j := 6) dX6_lookAt_213 sh_1 rfl kc_4 (by decide) lf_X6_114 ?_
        refine r_iload 4 dX6_lookAt_216 rfl ?_
        refine r_iconst dX6_lookAt_218 (by decide) ?_
        refine r_idiv dX6_lookAt_219 b40 (by decide) ?_
        obtain ⟨b43, h⟩ := h
        refine r_iald dX6_lookAt_220 sh_5 b43.1 b43.2 ?_
        refine MWF.top ((stS_ne (by decide)).trans ((stS_ne (by decide)).trans ((stS_ne (by decide)).trans ((stS_ne (by decide)).trans ((stS_ne (by decide)).trans ((stS_ne (by decide)).trans (stS_ne (by decide)))))))) ?_
        obtain ⟨b44, h⟩ := h
        refine r_iadd dX6_lookAt_221 b44 ?_
        refine r_iast dX6_lookAt_222 sh_49 b23.1 b23.2 ?_
        refine r_iload 4 dX6_lookAt_223 rfl ?_
        refine r_istore_n dX6_lookAt_225 rfl (by decide) rfl ?_
        obtain ⟨b45, h⟩ := h
        refine r_iinc 4 dX6_lookAt_226 rfl (by decide) b45 rfl ?_
        refine r_goto (tgt := 39) dX6_lookAt_229 (by decide) ?_
        refine MWF.sub [2, 3, 1, 4, 0] rfl ?_
        exact h
      refine r_if_ne (tgt := 125) dX6_lookAt_118 (by decide) (fun (c33 : x4 = 0) => ?_) (fun (c33 : ¬ (x4 = 0)) => ?_)
      · refine r_iconst dX6_lookAt_121 (by decide) ?_
        refine r_goto (tgt := 132) dX6_lookAt_122 (by decide) ?_
        refine MWF.sub [0, 1, 3, 4, 5] rfl ?_
        have q36 : y34 = 0 := by rw [ey34, if_pos c33]
        rw [q36] at hj35
        exact hj35
      · refine r_aload_n 0 dX6_lookAt_125 rfl rfl ?_
        refine r_getR (j := 5) dX6_lookAt_126 sh_40 rfl kc_6 (by decide) lf_X6_49 ?_
        refine r_getI (j := 2) dX6_lookAt_129 sh_1 rfl kc_4 (by decide) lf_X6_89 ?_
        refine MWF.top ((stS_ne (by decide)).trans (stS_ne (by decide))) ?_
        refine MWF.sub [0, 1, 3, 4, 5] rfl ?_
        have q37 : y34 = (σ 1 2) := by rw [ey34, if_neg c33]
        rw [q37] at hj35
        exact hj35
    refine r_icmp_le (tgt := 91) dX6_lookAt_84 (by decide) (fun (c26 : (x3 + (σ 6 (σ (x1 + 4) x4.toNat).toNat)) ≤ (σ 40 4)) => ?_) (fun (c26 : ¬ ((x3 + (σ 6 (σ (x1 + 4) x4.toNat).toNat)) ≤ (σ 40 4))) => ?_)
    · refine r_aload_n 2 dX6_lookAt_91 rfl rfl ?_
      refine r_getI (j := 4) dX6_lookAt_92 sh_40 rfl kc_6 (by decide) lf_X6_24 ?_
      refine MWF.top (stS_ne (by decide)) ?_
      refine MWF.sub [2, 3, 4, 0, 5, 1] rfl ?_
      have q29 : y27 = (σ 40 4) := by rw [ey27, if_pos c26]
      rw [q29] at hj28
      exact hj28
    · refine r_iload_n 0 dX6_lookAt_87 rfl rfl ?_
      refine r_goto (tgt := 95) dX6_lookAt_88 (by decide) ?_
      refine MWF.sub [2, 3, 4, 0, 5, 1] rfl ?_
      have q30 : y27 = (x3 + (σ 6 (σ (x1 + 4) x4.toNat).toNat)) := by rw [ey27, if_neg c26]
      rw [q30] at hj28
      exact hj28
set_option maxRecDepth 100000 in
set_option maxHeartbeats 4000000 in
theorem clX6_delayStops (l : Launch) (G : GT) (σ : Sto) (Q : Int → Sto → Prop) 
    (h : MWi l G mX6_delayStops 4 [(0, vR 40), (1, vI 0), (2, vI 1)] [] σ Q) :
    CLi l G mX6_delayStops [vR 40] σ Q := by
  show MWi l G mX6_delayStops 0 [(0, vR 40)] [] σ Q
  refine r_iconst dX6_delayStops_0 (by decide) ?_
  refine r_istore_n dX6_delayStops_1 rfl (by decide) rfl ?_
  refine r_iconst dX6_delayStops_2 (by decide) ?_
  refine r_istore_n dX6_delayStops_3 rfl (by decide) rfl ?_
  refine MWF.sub [2, 1, 0] rfl ?_
  exact h
set_option maxRecDepth 100000 in
set_option maxHeartbeats 4000000 in
theorem vcX6_delayStops_4 (l : Launch) (G : GT) (σ : Sto) (Q : Int → Sto → Prop) (x1 : Int) (x2 : Int)
    (h : ((σ 40 11) ≤ x2 → (x1 = 0 ∨ x1 = 1) ∧ Q x1 σ) ∧ (¬ ((σ 40 11) ≤ x2) → (-2147483648 ≤ x2 - 1 ∧ x2 - 1 ≤ 2147483647) ∧ (0 ≤ (x2 - 1) ∧ (x2 - 1) < 24) ∧ (0 ≤ x2 ∧ x2 < 25) ∧ (-2147483648 ≤ (σ 41 (x2 - 1).toNat) + (σ 44 x2.toNat) ∧ (σ 41 (x2 - 1).toNat) + (σ 44 x2.toNat) ≤ 2147483647) ∧ (0 ≤ x2 ∧ x2 < 24) ∧ ∀ y9 : Int, y9 = (if ((σ 41 (x2 - 1).toNat) + (σ 44 x2.toNat)) ≤ (σ 41 x2.toNat) then x1 else 1) → ∀ s10 : Sto, s10 = (if ((σ 41 (x2 - 1).toNat) + (σ 44 x2.toNat)) ≤ (σ 41 x2.toNat) then σ else (stS σ 41 x2.toNat ((σ 41 (x2 - 1).toNat) + (σ 44 x2.toNat)))) → (-2147483648 ≤ x2 + 1 ∧ x2 + 1 ≤ 2147483647) ∧ MWi l G mX6_delayStops 4 [(0, vR 40), (1, vI y9), (2, vI (x2 + 1))] [] s10 Q)) :
    MWi l G mX6_delayStops 4 [(0, vR 40), (1, vI x1), (2, vI x2)] [] σ Q := by
  refine r_iload_n 2 dX6_delayStops_4 rfl rfl ?_
  refine r_aload_n 0 dX6_delayStops_5 rfl rfl ?_
  refine r_getI (j := 11) dX6_delayStops_6 sh_40 rfl kc_6 (by decide) lf_X6_43 ?_
  refine r_icmp_ge (tgt := 53) dX6_delayStops_9 (by decide) (fun (c1 : (σ 40 11) ≤ x2) => ?_) (fun (c1 : ¬ ((σ 40 11) ≤ x2)) => ?_)
  · replace h := h.1 c1
    refine r_iload_n 1 dX6_delayStops_53 rfl rfl ?_
    obtain ⟨b2, h⟩ := h
    exact r_zret dX6_delayStops_54 rfl b2 ⟨_, rfl, h⟩
  · replace h := h.2 c1
    refine r_aload_n 0 dX6_delayStops_12 rfl rfl ?_
    refine r_getR (j := 0) dX6_delayStops_13 sh_40 rfl kc_6 (by decide) lf_X6_9 ?_
    refine r_iload_n 2 dX6_delayStops_16 rfl rfl ?_
    refine r_iconst dX6_delayStops_17 (by decide) ?_
    obtain ⟨b3, h⟩ := h
    refine r_isub dX6_delayStops_18 b3 ?_
    obtain ⟨b4, h⟩ := h
    refine r_iald dX6_delayStops_19 sh_41 b4.1 b4.2 ?_
    refine r_aload_n 0 dX6_delayStops_20 rfl rfl ?_
    refine r_getR (j := 3) dX6_delayStops_21 sh_40 rfl kc_6 (by decide) lf_X6_21 ?_
    refine r_iload_n 2 dX6_delayStops_24 rfl rfl ?_
    obtain ⟨b5, h⟩ := h
    refine r_iald dX6_delayStops_25 sh_44 b5.1 b5.2 ?_
    obtain ⟨b6, h⟩ := h
    refine r_iadd dX6_delayStops_26 b6 ?_
    refine r_istore_n dX6_delayStops_27 rfl (by decide) rfl ?_
    refine r_aload_n 1 dX6_delayStops_28 rfl rfl ?_
    refine r_getR (j := 0) dX6_delayStops_29 sh_40 rfl kc_6 (by decide) lf_X6_9 ?_
    refine r_iload_n 3 dX6_delayStops_32 rfl rfl ?_
    obtain ⟨b7, h⟩ := h
    refine r_iald dX6_delayStops_33 sh_41 b7.1 b7.2 ?_
    refine r_iload_n 0 dX6_delayStops_34 rfl rfl ?_
    obtain ⟨y9, ey9⟩ : ∃ z : Int, z = (if ((σ 41 (x2 - 1).toNat) + (σ 44 x2.toNat)) ≤ (σ 41 x2.toNat) then x1 else 1) := ⟨_, rfl⟩
    replace h := h y9 ey9
    obtain ⟨s10, es10⟩ : ∃ z : Sto, z = (if ((σ 41 (x2 - 1).toNat) + (σ 44 x2.toNat)) ≤ (σ 41 x2.toNat) then σ else (stS σ 41 x2.toNat ((σ 41 (x2 - 1).toNat) + (σ 44 x2.toNat)))) := ⟨_, rfl⟩
    replace h := h s10 es10
    have hj11 : MWi l G mX6_delayStops 47 [(0, vR 40), (1, vI y9), (2, vI x2)] [] s10 Q := by
      obtain ⟨b16, h⟩ := h
      refine r_iinc 2 dX6_delayStops_47 rfl (by decide) b16 rfl ?_
      refine r_goto (tgt := 4) dX6_delayStops_50 (by decide) ?_
      refine MWF.sub [1, 2, 0] rfl ?_
      exact h
    refine r_icmp_ge (tgt := 47) dX6_delayStops_35 (by decide) (fun (c8 : ((σ 41 (x2 - 1).toNat) + (σ 44 x2.toNat)) ≤ (σ 41 x2.toNat)) => ?_) (fun (c8 : ¬ (((σ 41 (x2 - 1).toNat) + (σ 44 x2.toNat)) ≤ (σ 41 x2.toNat))) => ?_)
    · refine MWF.sub [1, 2, 3] rfl ?_
      have q12 : y9 = x1 := by rw [ey9, if_pos c8]
      rw [q12] at hj11
      have q13 : s10 = σ := by rw [es10, if_pos c8]
      rw [q13] at hj11
      exact hj11
    · refine r_aload_n 1 dX6_delayStops_38 rfl rfl ?_
      refine r_getR (j := 0) dX6_delayStops_39 sh_40 rfl kc_6 (by decide) lf_X6_9 ?_
      refine r_iload_n 3 dX6_delayStops_42 rfl rfl ?_
      refine r_iload_n 0 dX6_delayStops_43 rfl rfl ?_
      refine r_iast dX6_delayStops_44 sh_41 b7.1 b7.2 ?_
      refine r_iconst dX6_delayStops_45 (by decide) ?_
      refine r_istore_n dX6_delayStops_46 rfl (by decide) rfl ?_
      refine MWF.sub [2, 0, 3] rfl ?_
      have q14 : y9 = 1 := by rw [ey9, if_neg c8]
      rw [q14] at hj11
      have q15 : s10 = (stS σ 41 x2.toNat ((σ 41 (x2 - 1).toNat) + (σ 44 x2.toNat))) := by rw [es10, if_neg c8]
      rw [q15] at hj11
      exact hj11
set_option maxRecDepth 100000 in
set_option maxHeartbeats 4000000 in
theorem clX6_delayPickups (l : Launch) (G : GT) (σ : Sto) (Q : Int → Sto → Prop) 
    (h : (-2147483648 ≤ (σ 40 11) - 1 ∧ (σ 40 11) - 1 ≤ 2147483647) ∧ MWi l G mX6_delayPickups 9 [(0, vR 40), (1, vI 0), (2, vI ((σ 40 11) - 1))] [] σ Q) :
    CLi l G mX6_delayPickups [vR 40] σ Q := by
  show MWi l G mX6_delayPickups 0 [(0, vR 40)] [] σ Q
  refine r_iconst dX6_delayPickups_0 (by decide) ?_
  refine r_istore_n dX6_delayPickups_1 rfl (by decide) rfl ?_
  refine r_aload_n 1 dX6_delayPickups_2 rfl rfl ?_
  refine r_getI (j := 11) dX6_delayPickups_3 sh_40 rfl kc_6 (by decide) lf_X6_43 ?_
  refine r_iconst dX6_delayPickups_6 (by decide) ?_
  obtain ⟨b1, h⟩ := h
  refine r_isub dX6_delayPickups_7 b1 ?_
  refine r_istore_n dX6_delayPickups_8 rfl (by decide) rfl ?_
  refine MWF.sub [2, 1, 0] rfl ?_
  exact h
set_option maxRecDepth 100000 in
set_option maxHeartbeats 4000000 in
theorem vcX6_delayPickups_9 (l : Launch) (G : GT) (σ : Sto) (Q : Int → Sto → Prop) (x1 : Int) (x2 : Int)
    (h : (x2 ≤ 0 → (x1 = 0 ∨ x1 = 1) ∧ Q x1 σ) ∧ (¬ (x2 ≤ 0) → (0 ≤ x2 ∧ x2 < 24) ∧ (-2147483648 ≤ (σ 41 x2.toNat) - (σ 49 x2.toNat) ∧ (σ 41 x2.toNat) - (σ 49 x2.toNat) ≤ 2147483647) ∧ (0 ≤ (σ 48 x2.toNat) ∧ (σ 48 x2.toNat) < 24) ∧ ∀ y8 : Int, y8 = (if ((σ 41 x2.toNat) - (σ 49 x2.toNat)) ≤ (σ 41 (σ 48 x2.toNat).toNat) then x1 else 1) → ∀ s9 : Sto, s9 = (if ((σ 41 x2.toNat) - (σ 49 x2.toNat)) ≤ (σ 41 (σ 48 x2.toNat).toNat) then σ else (stS σ 41 (σ 48 x2.toNat).toNat ((σ 41 x2.toNat) - (σ 49 x2.toNat)))) → (-2147483648 ≤ x2 + (-1) ∧ x2 + (-1) ≤ 2147483647) ∧ MWi l G mX6_delayPickups 9 [(0, vR 40), (1, vI y8), (2, vI (x2 + (-1)))] [] s9 Q)) :
    MWi l G mX6_delayPickups 9 [(0, vR 40), (1, vI x1), (2, vI x2)] [] σ Q := by
  refine r_iload_n 2 dX6_delayPickups_9 rfl rfl ?_
  refine r_if_le (tgt := 62) dX6_delayPickups_10 (by decide) (fun (c2 : x2 ≤ 0) => ?_) (fun (c2 : ¬ (x2 ≤ 0)) => ?_)
  · replace h := h.1 c2
    refine r_iload_n 1 dX6_delayPickups_62 rfl rfl ?_
    obtain ⟨b3, h⟩ := h
    exact r_zret dX6_delayPickups_63 rfl b3 ⟨_, rfl, h⟩
  · replace h := h.2 c2
    refine r_aload_n 0 dX6_delayPickups_13 rfl rfl ?_
    refine r_getR (j := 0) dX6_delayPickups_14 sh_40 rfl kc_6 (by decide) lf_X6_9 ?_
    refine r_iload_n 2 dX6_delayPickups_17 rfl rfl ?_
    obtain ⟨b4, h⟩ := h
    refine r_iald dX6_delayPickups_18 sh_41 b4.1 b4.2 ?_
    refine r_aload_n 0 dX6_delayPickups_19 rfl rfl ?_
    refine r_getR (j := 10) dX6_delayPickups_20 sh_40 rfl kc_6 (by decide) lf_X6_40 ?_
    refine r_iload_n 2 dX6_delayPickups_23 rfl rfl ?_
    refine r_iald dX6_delayPickups_24 sh_49 b4.1 b4.2 ?_
    obtain ⟨b5, h⟩ := h
    refine r_isub dX6_delayPickups_25 b5 ?_
    refine r_istore_n dX6_delayPickups_26 rfl (by decide) rfl ?_
    refine r_aload_n 1 dX6_delayPickups_27 rfl rfl ?_
    refine r_getR (j := 0) dX6_delayPickups_28 sh_40 rfl kc_6 (by decide) lf_X6_9 ?_
    refine r_aload_n 1 dX6_delayPickups_31 rfl rfl ?_
    refine r_getR (j := 9) dX6_delayPickups_32 sh_40 rfl kc_6 (by decide) lf_X6_37 ?_
    refine r_iload_n 3 dX6_delayPickups_35 rfl rfl ?_
    refine r_iald dX6_delayPickups_36 sh_48 b4.1 b4.2 ?_
    obtain ⟨b6, h⟩ := h
    refine r_iald dX6_delayPickups_37 sh_41 b6.1 b6.2 ?_
    refine r_iload_n 0 dX6_delayPickups_38 rfl rfl ?_
    obtain ⟨y8, ey8⟩ : ∃ z : Int, z = (if ((σ 41 x2.toNat) - (σ 49 x2.toNat)) ≤ (σ 41 (σ 48 x2.toNat).toNat) then x1 else 1) := ⟨_, rfl⟩
    replace h := h y8 ey8
    obtain ⟨s9, es9⟩ : ∃ z : Sto, z = (if ((σ 41 x2.toNat) - (σ 49 x2.toNat)) ≤ (σ 41 (σ 48 x2.toNat).toNat) then σ else (stS σ 41 (σ 48 x2.toNat).toNat ((σ 41 x2.toNat) - (σ 49 x2.toNat)))) := ⟨_, rfl⟩
    replace h := h s9 es9
    have hj10 : MWi l G mX6_delayPickups 56 [(0, vR 40), (1, vI y8), (2, vI x2)] [] s9 Q := by
      obtain ⟨b15, h⟩ := h
      refine r_iinc 2 dX6_delayPickups_56 rfl (by decide) b15 rfl ?_
      refine r_goto (tgt := 9) dX6_delayPickups_59 (by decide) ?_
      refine MWF.sub [1, 2, 0] rfl ?_
      exact h
    refine r_icmp_ge (tgt := 56) dX6_delayPickups_39 (by decide) (fun (c7 : ((σ 41 x2.toNat) - (σ 49 x2.toNat)) ≤ (σ 41 (σ 48 x2.toNat).toNat)) => ?_) (fun (c7 : ¬ (((σ 41 x2.toNat) - (σ 49 x2.toNat)) ≤ (σ 41 (σ 48 x2.toNat).toNat))) => ?_)
    · refine MWF.sub [1, 2, 3] rfl ?_
      have q11 : y8 = x1 := by rw [ey8, if_pos c7]
      rw [q11] at hj10
      have q12 : s9 = σ := by rw [es9, if_pos c7]
      rw [q12] at hj10
      exact hj10
    · refine r_aload_n 1 dX6_delayPickups_42 rfl rfl ?_
      refine r_getR (j := 0) dX6_delayPickups_43 sh_40 rfl kc_6 (by decide) lf_X6_9 ?_
      refine r_aload_n 1 dX6_delayPickups_46 rfl rfl ?_
      refine r_getR (j := 9) dX6_delayPickups_47 sh_40 rfl kc_6 (by decide) lf_X6_37 ?_
      refine r_iload_n 3 dX6_delayPickups_50 rfl rfl ?_
      refine r_iald dX6_delayPickups_51 sh_48 b4.1 b4.2 ?_
      refine r_iload_n 0 dX6_delayPickups_52 rfl rfl ?_
      refine r_iast dX6_delayPickups_53 sh_41 b6.1 b6.2 ?_
      refine r_iconst dX6_delayPickups_54 (by decide) ?_
      refine r_istore_n dX6_delayPickups_55 rfl (by decide) rfl ?_
      refine MWF.sub [2, 0, 3] rfl ?_
      have q13 : y8 = 1 := by rw [ey8, if_neg c7]
      rw [q13] at hj10
      have q14 : s9 = (stS σ 41 (σ 48 x2.toNat).toNat ((σ 41 x2.toNat) - (σ 49 x2.toNat))) := by rw [es9, if_neg c7]
      rw [q14] at hj10
      exact hj10
set_option maxRecDepth 100000 in
set_option maxHeartbeats 4000000 in
theorem clX6_isTooLate (l : Launch) (G : GT) (σ : Sto) (Q : Int → Sto → Prop) 
    (h : MWi l G mX6_isTooLate 2 [(0, vR 40), (1, vI 0)] [] σ Q) :
    CLi l G mX6_isTooLate [vR 40] σ Q := by
  show MWi l G mX6_isTooLate 0 [(0, vR 40)] [] σ Q
  refine r_iconst dX6_isTooLate_0 (by decide) ?_
  refine r_istore_n dX6_isTooLate_1 rfl (by decide) rfl ?_
  refine MWF.sub [1, 0] rfl ?_
  exact h
set_option maxRecDepth 100000 in
set_option maxHeartbeats 4000000 in
theorem vcX6_isTooLate_2 (l : Launch) (G : GT) (σ : Sto) (Q : Int → Sto → Prop) (x1 : Int)
    (h : ((σ 40 11) ≤ x1 → Q 0 σ) ∧ (¬ ((σ 40 11) ≤ x1) → (0 ≤ x1 ∧ x1 < 24) ∧ ((σ 41 x1.toNat) ≤ (σ 46 x1.toNat) → (-2147483648 ≤ x1 + 1 ∧ x1 + 1 ≤ 2147483647) ∧ MWi l G mX6_isTooLate 2 [(0, vR 40), (1, vI (x1 + 1))] [] σ Q) ∧ (¬ ((σ 41 x1.toNat) ≤ (σ 46 x1.toNat)) → Q 1 σ))) :
    MWi l G mX6_isTooLate 2 [(0, vR 40), (1, vI x1)] [] σ Q := by
  refine r_iload_n 1 dX6_isTooLate_2 rfl rfl ?_
  refine r_aload_n 0 dX6_isTooLate_3 rfl rfl ?_
  refine r_getI (j := 11) dX6_isTooLate_4 sh_40 rfl kc_6 (by decide) lf_X6_43 ?_
  refine r_icmp_ge (tgt := 33) dX6_isTooLate_7 (by decide) (fun (c1 : (σ 40 11) ≤ x1) => ?_) (fun (c1 : ¬ ((σ 40 11) ≤ x1)) => ?_)
  · replace h := h.1 c1
    refine r_iconst dX6_isTooLate_33 (by decide) ?_
    exact r_zret dX6_isTooLate_34 rfl (by decide) ⟨_, rfl, h⟩
  · replace h := h.2 c1
    refine r_aload_n 0 dX6_isTooLate_10 rfl rfl ?_
    refine r_getR (j := 0) dX6_isTooLate_11 sh_40 rfl kc_6 (by decide) lf_X6_9 ?_
    refine r_iload_n 1 dX6_isTooLate_14 rfl rfl ?_
    obtain ⟨b2, h⟩ := h
    refine r_iald dX6_isTooLate_15 sh_41 b2.1 b2.2 ?_
    refine r_aload_n 0 dX6_isTooLate_16 rfl rfl ?_
    refine r_getR (j := 7) dX6_isTooLate_17 sh_40 rfl kc_6 (by decide) lf_X6_31 ?_
    refine r_iload_n 1 dX6_isTooLate_20 rfl rfl ?_
    refine r_iald dX6_isTooLate_21 sh_46 b2.1 b2.2 ?_
    refine r_icmp_le (tgt := 27) dX6_isTooLate_22 (by decide) (fun (c3 : (σ 41 x1.toNat) ≤ (σ 46 x1.toNat)) => ?_) (fun (c3 : ¬ ((σ 41 x1.toNat) ≤ (σ 46 x1.toNat))) => ?_)
    · replace h := h.1 c3
      obtain ⟨b4, h⟩ := h
      refine r_iinc 1 dX6_isTooLate_27 rfl (by decide) b4 rfl ?_
      refine r_goto (tgt := 2) dX6_isTooLate_30 (by decide) ?_
      refine MWF.sub [1, 0] rfl ?_
      exact h
    · replace h := h.2 c3
      refine r_iconst dX6_isTooLate_25 (by decide) ?_
      exact r_zret dX6_isTooLate_26 rfl (by decide) ⟨_, rfl, h⟩
set_option maxRecDepth 100000 in
set_option maxHeartbeats 4000000 in
theorem clX6_advanceStops (l : Launch) (G : GT) (σ : Sto) (Q : Int → Sto → Prop) 
    (h : (-2147483648 ≤ (σ 40 11) - 2 ∧ (σ 40 11) - 2 ≤ 2147483647) ∧ MWi l G mX6_advanceStops 9 [(0, vR 40), (1, vI 0), (2, vI ((σ 40 11) - 2))] [] σ Q) :
    CLi l G mX6_advanceStops [vR 40] σ Q := by
  show MWi l G mX6_advanceStops 0 [(0, vR 40)] [] σ Q
  refine r_iconst dX6_advanceStops_0 (by decide) ?_
  refine r_istore_n dX6_advanceStops_1 rfl (by decide) rfl ?_
  refine r_aload_n 1 dX6_advanceStops_2 rfl rfl ?_
  refine r_getI (j := 11) dX6_advanceStops_3 sh_40 rfl kc_6 (by decide) lf_X6_43 ?_
  refine r_iconst dX6_advanceStops_6 (by decide) ?_
  obtain ⟨b1, h⟩ := h
  refine r_isub dX6_advanceStops_7 b1 ?_
  refine r_istore_n dX6_advanceStops_8 rfl (by decide) rfl ?_
  refine MWF.sub [2, 1, 0] rfl ?_
  exact h
set_option maxRecDepth 100000 in
set_option maxHeartbeats 4000000 in
theorem vcX6_advanceStops_9 (l : Launch) (G : GT) (σ : Sto) (Q : Int → Sto → Prop) (x1 : Int) (x2 : Int)
    (h : (x2 < 0 → (x1 = 0 ∨ x1 = 1) ∧ Q x1 σ) ∧ (¬ (x2 < 0) → (-2147483648 ≤ x2 + 1 ∧ x2 + 1 ≤ 2147483647) ∧ (0 ≤ (x2 + 1) ∧ (x2 + 1) < 24) ∧ (0 ≤ (x2 + 1) ∧ (x2 + 1) < 25) ∧ (-2147483648 ≤ (σ 42 (x2 + 1).toNat) - (σ 44 (x2 + 1).toNat) ∧ (σ 42 (x2 + 1).toNat) - (σ 44 (x2 + 1).toNat) ≤ 2147483647) ∧ (0 ≤ x2 ∧ x2 < 24) ∧ ∀ y10 : Int, y10 = (if (σ 42 x2.toNat) ≤ ((σ 42 (x2 + 1).toNat) - (σ 44 (x2 + 1).toNat)) then x1 else 1) → ∀ s11 : Sto, s11 = (if (σ 42 x2.toNat) ≤ ((σ 42 (x2 + 1).toNat) - (σ 44 (x2 + 1).toNat)) then σ else (stS σ 42 x2.toNat ((σ 42 (x2 + 1).toNat) - (σ 44 (x2 + 1).toNat)))) → (-2147483648 ≤ x2 + (-1) ∧ x2 + (-1) ≤ 2147483647) ∧ MWi l G mX6_advanceStops 9 [(0, vR 40), (1, vI y10), (2, vI (x2 + (-1)))] [] s11 Q)) :
    MWi l G mX6_advanceStops 9 [(0, vR 40), (1, vI x1), (2, vI x2)] [] σ Q := by
  refine r_iload_n 2 dX6_advanceStops_9 rfl rfl ?_
  refine r_if_lt (tgt := 56) dX6_advanceStops_10 (by decide) (fun (c2 : x2 < 0) => ?_) (fun (c2 : ¬ (x2 < 0)) => ?_)
  · replace h := h.1 c2
    refine r_iload_n 1 dX6_advanceStops_56 rfl rfl ?_
    obtain ⟨b3, h⟩ := h
    exact r_zret dX6_advanceStops_57 rfl b3 ⟨_, rfl, h⟩
  · replace h := h.2 c2
    refine r_aload_n 0 dX6_advanceStops_13 rfl rfl ?_
    refine r_getR (j := 1) dX6_advanceStops_14 sh_40 rfl kc_6 (by decide) lf_X6_15 ?_
    refine r_iload_n 2 dX6_advanceStops_17 rfl rfl ?_
    refine r_iconst dX6_advanceStops_18 (by decide) ?_
    obtain ⟨b4, h⟩ := h
    refine r_iadd dX6_advanceStops_19 b4 ?_
    obtain ⟨b5, h⟩ := h
    refine r_iald dX6_advanceStops_20 sh_42 b5.1 b5.2 ?_
    refine r_aload_n 0 dX6_advanceStops_21 rfl rfl ?_
    refine r_getR (j := 3) dX6_advanceStops_22 sh_40 rfl kc_6 (by decide) lf_X6_21 ?_
    refine r_iload_n 2 dX6_advanceStops_25 rfl rfl ?_
    refine r_iconst dX6_advanceStops_26 (by decide) ?_
    refine r_iadd dX6_advanceStops_27 b4 ?_
    obtain ⟨b6, h⟩ := h
    refine r_iald dX6_advanceStops_28 sh_44 b6.1 b6.2 ?_
    obtain ⟨b7, h⟩ := h
    refine r_isub dX6_advanceStops_29 b7 ?_
    refine r_istore_n dX6_advanceStops_30 rfl (by decide) rfl ?_
    refine r_aload_n 1 dX6_advanceStops_31 rfl rfl ?_
    refine r_getR (j := 1) dX6_advanceStops_32 sh_40 rfl kc_6 (by decide) lf_X6_15 ?_
    refine r_iload_n 3 dX6_advanceStops_35 rfl rfl ?_
    obtain ⟨b8, h⟩ := h
    refine r_iald dX6_advanceStops_36 sh_42 b8.1 b8.2 ?_
    refine r_iload_n 0 dX6_advanceStops_37 rfl rfl ?_
    obtain ⟨y10, ey10⟩ : ∃ z : Int, z = (if (σ 42 x2.toNat) ≤ ((σ 42 (x2 + 1).toNat) - (σ 44 (x2 + 1).toNat)) then x1 else 1) := ⟨_, rfl⟩
    replace h := h y10 ey10
    obtain ⟨s11, es11⟩ : ∃ z : Sto, z = (if (σ 42 x2.toNat) ≤ ((σ 42 (x2 + 1).toNat) - (σ 44 (x2 + 1).toNat)) then σ else (stS σ 42 x2.toNat ((σ 42 (x2 + 1).toNat) - (σ 44 (x2 + 1).toNat)))) := ⟨_, rfl⟩
    replace h := h s11 es11
    have hj12 : MWi l G mX6_advanceStops 50 [(0, vR 40), (1, vI y10), (2, vI x2)] [] s11 Q := by
      obtain ⟨b17, h⟩ := h
      refine r_iinc 2 dX6_advanceStops_50 rfl (by decide) b17 rfl ?_
      refine r_goto (tgt := 9) dX6_advanceStops_53 (by decide) ?_
      refine MWF.sub [1, 2, 0] rfl ?_
      exact h
    refine r_icmp_le (tgt := 50) dX6_advanceStops_38 (by decide) (fun (c9 : (σ 42 x2.toNat) ≤ ((σ 42 (x2 + 1).toNat) - (σ 44 (x2 + 1).toNat))) => ?_) (fun (c9 : ¬ ((σ 42 x2.toNat) ≤ ((σ 42 (x2 + 1).toNat) - (σ 44 (x2 + 1).toNat)))) => ?_)
    · refine MWF.sub [1, 2, 3] rfl ?_
      have q13 : y10 = x1 := by rw [ey10, if_pos c9]
      rw [q13] at hj12
      have q14 : s11 = σ := by rw [es11, if_pos c9]
      rw [q14] at hj12
      exact hj12
    · refine r_aload_n 1 dX6_advanceStops_41 rfl rfl ?_
      refine r_getR (j := 1) dX6_advanceStops_42 sh_40 rfl kc_6 (by decide) lf_X6_15 ?_
      refine r_iload_n 3 dX6_advanceStops_45 rfl rfl ?_
      refine r_iload_n 0 dX6_advanceStops_46 rfl rfl ?_
      refine r_iast dX6_advanceStops_47 sh_42 b8.1 b8.2 ?_
      refine r_iconst dX6_advanceStops_48 (by decide) ?_
      refine r_istore_n dX6_advanceStops_49 rfl (by decide) rfl ?_
      refine MWF.sub [2, 0, 3] rfl ?_
      have q15 : y10 = 1 := by rw [ey10, if_neg c9]
      rw [q15] at hj12
      have q16 : s11 = (stS σ 42 x2.toNat ((σ 42 (x2 + 1).toNat) - (σ 44 (x2 + 1).toNat))) := by rw [es11, if_neg c9]
      rw [q16] at hj12
      exact hj12
set_option maxRecDepth 100000 in
set_option maxHeartbeats 4000000 in
theorem clX6_advanceDrops (l : Launch) (G : GT) (σ : Sto) (Q : Int → Sto → Prop) 
    (h : MWi l G mX6_advanceDrops 4 [(0, vR 40), (1, vI 0), (2, vI 1)] [] σ Q) :
    CLi l G mX6_advanceDrops [vR 40] σ Q := by
  show MWi l G mX6_advanceDrops 0 [(0, vR 40)] [] σ Q
  refine r_iconst dX6_advanceDrops_0 (by decide) ?_
  refine r_istore_n dX6_advanceDrops_1 rfl (by decide) rfl ?_
  refine r_iconst dX6_advanceDrops_2 (by decide) ?_
  refine r_istore_n dX6_advanceDrops_3 rfl (by decide) rfl ?_
  refine MWF.sub [2, 1, 0] rfl ?_
  exact h
set_option maxRecDepth 100000 in
set_option maxHeartbeats 4000000 in
theorem vcX6_advanceDrops_4 (l : Launch) (G : GT) (σ : Sto) (Q : Int → Sto → Prop) (x1 : Int) (x2 : Int)
    (h : ((σ 40 11) ≤ x2 → (x1 = 0 ∨ x1 = 1) ∧ Q x1 σ) ∧ (¬ ((σ 40 11) ≤ x2) → (0 ≤ x2 ∧ x2 < 24) ∧ (0 ≤ (σ 48 x2.toNat) ∧ (σ 48 x2.toNat) < 24) ∧ (-2147483648 ≤ (σ 42 (σ 48 x2.toNat).toNat) + (σ 49 x2.toNat) ∧ (σ 42 (σ 48 x2.toNat).toNat) + (σ 49 x2.toNat) ≤ 2147483647) ∧ ∀ y7 : Int, y7 = (if (σ 42 x2.toNat) ≤ ((σ 42 (σ 48 x2.toNat).toNat) + (σ 49 x2.toNat)) then x1 else 1) → ∀ s8 : Sto, s8 = (if (σ 42 x2.toNat) ≤ ((σ 42 (σ 48 x2.toNat).toNat) + (σ 49 x2.toNat)) then σ else (stS σ 42 x2.toNat ((σ 42 (σ 48 x2.toNat).toNat) + (σ 49 x2.toNat)))) → (-2147483648 ≤ x2 + 1 ∧ x2 + 1 ≤ 2147483647) ∧ MWi l G mX6_advanceDrops 4 [(0, vR 40), (1, vI y7), (2, vI (x2 + 1))] [] s8 Q)) :
    MWi l G mX6_advanceDrops 4 [(0, vR 40), (1, vI x1), (2, vI x2)] [] σ Q := by
  refine r_iload_n 2 dX6_advanceDrops_4 rfl rfl ?_
  refine r_aload_n 0 dX6_advanceDrops_5 rfl rfl ?_
  refine r_getI (j := 11) dX6_advanceDrops_6 sh_40 rfl kc_6 (by decide) lf_X6_43 ?_
  refine r_icmp_ge (tgt := 56) dX6_advanceDrops_9 (by decide) (fun (c1 : (σ 40 11) ≤ x2) => ?_) (fun (c1 : ¬ ((σ 40 11) ≤ x2)) => ?_)
  · replace h := h.1 c1
    refine r_iload_n 1 dX6_advanceDrops_56 rfl rfl ?_
    obtain ⟨b2, h⟩ := h
    exact r_zret dX6_advanceDrops_57 rfl b2 ⟨_, rfl, h⟩
  · replace h := h.2 c1
    refine r_aload_n 0 dX6_advanceDrops_12 rfl rfl ?_
    refine r_getR (j := 1) dX6_advanceDrops_13 sh_40 rfl kc_6 (by decide) lf_X6_15 ?_
    refine r_aload_n 0 dX6_advanceDrops_16 rfl rfl ?_
    refine r_getR (j := 9) dX6_advanceDrops_17 sh_40 rfl kc_6 (by decide) lf_X6_37 ?_
    refine r_iload_n 2 dX6_advanceDrops_20 rfl rfl ?_
    obtain ⟨b3, h⟩ := h
    refine r_iald dX6_advanceDrops_21 sh_48 b3.1 b3.2 ?_
    obtain ⟨b4, h⟩ := h
    refine r_iald dX6_advanceDrops_22 sh_42 b4.1 b4.2 ?_
    refine r_aload_n 0 dX6_advanceDrops_23 rfl rfl ?_
    refine r_getR (j := 10) dX6_advanceDrops_24 sh_40 rfl kc_6 (by decide) lf_X6_40 ?_
    refine r_iload_n 2 dX6_advanceDrops_27 rfl rfl ?_
    refine r_iald dX6_advanceDrops_28 sh_49 b3.1 b3.2 ?_
    obtain ⟨b5, h⟩ := h
    refine r_iadd dX6_advanceDrops_29 b5 ?_
    refine r_istore_n dX6_advanceDrops_30 rfl (by decide) rfl ?_
    refine r_aload_n 1 dX6_advanceDrops_31 rfl rfl ?_
    refine r_getR (j := 1) dX6_advanceDrops_32 sh_40 rfl kc_6 (by decide) lf_X6_15 ?_
    refine r_iload_n 3 dX6_advanceDrops_35 rfl rfl ?_
    refine r_iald dX6_advanceDrops_36 sh_42 b3.1 b3.2 ?_
    refine r_iload_n 0 dX6_advanceDrops_37 rfl rfl ?_
    obtain ⟨y7, ey7⟩ : ∃ z : Int, z = (if (σ 42 x2.toNat) ≤ ((σ 42 (σ 48 x2.toNat).toNat) + (σ 49 x2.toNat)) then x1 else 1) := ⟨_, rfl⟩
    replace h := h y7 ey7
    obtain ⟨s8, es8⟩ : ∃ z : Sto, z = (if (σ 42 x2.toNat) ≤ ((σ 42 (σ 48 x2.toNat).toNat) + (σ 49 x2.toNat)) then σ else (stS σ 42 x2.toNat ((σ 42 (σ 48 x2.toNat).toNat) + (σ 49 x2.toNat)))) := ⟨_, rfl⟩
    replace h := h s8 es8
    have hj9 : MWi l G mX6_advanceDrops 50 [(0, vR 40), (1, vI y7), (2, vI x2)] [] s8 Q := by
      obtain ⟨b14, h⟩ := h
      refine r_iinc 2 dX6_advanceDrops_50 rfl (by decide) b14 rfl ?_
      refine r_goto (tgt := 4) dX6_advanceDrops_53 (by decide) ?_
      refine MWF.sub [1, 2, 0] rfl ?_
      exact h
    refine r_icmp_le (tgt := 50) dX6_advanceDrops_38 (by decide) (fun (c6 : (σ 42 x2.toNat) ≤ ((σ 42 (σ 48 x2.toNat).toNat) + (σ 49 x2.toNat))) => ?_) (fun (c6 : ¬ ((σ 42 x2.toNat) ≤ ((σ 42 (σ 48 x2.toNat).toNat) + (σ 49 x2.toNat)))) => ?_)
    · refine MWF.sub [1, 2, 3] rfl ?_
      have q10 : y7 = x1 := by rw [ey7, if_pos c6]
      rw [q10] at hj9
      have q11 : s8 = σ := by rw [es8, if_pos c6]
      rw [q11] at hj9
      exact hj9
    · refine r_aload_n 1 dX6_advanceDrops_41 rfl rfl ?_
      refine r_getR (j := 1) dX6_advanceDrops_42 sh_40 rfl kc_6 (by decide) lf_X6_15 ?_
      refine r_iload_n 3 dX6_advanceDrops_45 rfl rfl ?_
      refine r_iload_n 0 dX6_advanceDrops_46 rfl rfl ?_
      refine r_iast dX6_advanceDrops_47 sh_42 b3.1 b3.2 ?_
      refine r_iconst dX6_advanceDrops_48 (by decide) ?_
      refine r_istore_n dX6_advanceDrops_49 rfl (by decide) rfl ?_
      refine MWF.sub [2, 0, 3] rfl ?_
      have q12 : y7 = 1 := by rw [ey7, if_neg c6]
      rw [q12] at hj9
      have q13 : s8 = (stS σ 42 x2.toNat ((σ 42 (σ 48 x2.toNat).toNat) + (σ 49 x2.toNat))) := by rw [es8, if_neg c6]
      rw [q13] at hj9
      exact hj9

