set_option maxRecDepth 100000 in
set_option maxHeartbeats 4000000 in
theorem clX3_become (l : Launch) (G : GT) (σ : Sto) (Q : Sto → Prop) (x0 : Nat) (x1 : Nat) (hx0 : isPl x0) (hx1 : isPl x1)
    (h : MWv l G mX3_become 2 [(0, vR x0), (1, vR x1), (2, vI 0)] [] σ Q) :
    CLv l G mX3_become [vR x0, vR x1] σ Q := by
  show MWv l G mX3_become 0 [(0, vR x0), (1, vR x1)] [] σ Q
  refine r_iconst dX3_become_0 (by decide) ?_
  refine r_istore_n dX3_become_1 rfl (by decide) rfl ?_
  refine MWF.sub [1, 2, 0] rfl ?_
  exact h
set_option maxRecDepth 100000 in
set_option maxHeartbeats 4000000 in
theorem vcX3_become_2 (l : Launch) (G : GT) (σ : Sto) (Q : Sto → Prop) (x0 : Nat) (x1 : Nat) (x2 : Int) (hx0 : isPl x0) (hx1 : isPl x1)
    (h : (4 ≤ x2 → Q (cpS σ (x1 + 2) (x0 + 2) 12)) ∧ (¬ (4 ≤ x2) → (0 ≤ x2 ∧ x2 < 4) ∧ CLv l G mX5_become [vR (x0 + 3 + x2.toNat), vR (x1 + 3 + x2.toNat)] σ (fun s4 => (-2147483648 ≤ x2 + 1 ∧ x2 + 1 ≤ 2147483647) ∧ MWv l G mX3_become 2 [(0, vR x0), (1, vR x1), (2, vI (x2 + 1))] [] s4 Q))) :
    MWv l G mX3_become 2 [(0, vR x0), (1, vR x1), (2, vI x2)] [] σ Q := by
  refine r_iload_n 2 dX3_become_2 rfl rfl ?_
  refine r_iconst dX3_become_3 (by decide) ?_
  refine r_icmp_ge (tgt := 28) dX3_become_4 (by decide) (fun (c1 : 4 ≤ x2) => ?_) (fun (c1 : ¬ (4 ≤ x2)) => ?_)
  · replace h := h.1 c1
    refine r_aload_n 1 dX3_become_28 rfl rfl ?_
    refine r_getR (j := 1) dX3_become_29 hx1.1 rfl kc_3 (by decide) lf_X3_17 ?_
    refine r_iconst dX3_become_32 (by decide) ?_
    refine r_aload_n 0 dX3_become_33 rfl rfl ?_
    refine r_getR (j := 1) dX3_become_34 hx0.1 rfl kc_3 (by decide) lf_X3_17 ?_
    refine r_iconst dX3_become_37 (by decide) ?_
    refine r_bipush dX3_become_38 (by decide) (by decide) ?_
    refine r_copy dX3_become_40 lm_X3_28 w_cpy hx1.2.2.1 hx0.2.2.1 (by decide) (by decide) (by decide) ⟨Nat.le_of_ble_eq_true rfl, Nat.le_of_ble_eq_true rfl⟩ ?_
    exact r_vret dX3_become_43 rfl ⟨rfl, h⟩
  · replace h := h.2 c1
    refine r_aload_n 0 dX3_become_7 rfl rfl ?_
    refine r_getR (j := 0) dX3_become_8 hx0.1 rfl kc_3 (by decide) lf_X3_11 ?_
    refine r_iload_n 2 dX3_become_11 rfl rfl ?_
    obtain ⟨b2, h⟩ := h
    refine r_aald dX3_become_12 hx0.2.1 (fun _ => rfl) rfl b2.1 (pl_at b2.1 b2.2) ?_
    refine r_aload_n 1 dX3_become_13 rfl rfl ?_
    refine r_getR (j := 0) dX3_become_14 hx1.1 rfl kc_3 (by decide) lf_X3_11 ?_
    refine r_iload_n 2 dX3_become_17 rfl rfl ?_
    refine r_aald dX3_become_18 hx1.2.1 (fun _ => rfl) rfl b2.1 (pl_at b2.1 b2.2) ?_
    refine r_callV [vR (x1 + 3 + x2.toNat)] [] dX3_become_19 okX5_become ivX5_become seX5_become lm_X3_24 rfl rfl (pl_rt hx0 b2.1 b2.2).1 rfl ⟨Nat.le_of_ble_eq_true rfl, Nat.le_of_ble_eq_true rfl, Nat.le_of_ble_eq_true rfl, Nat.le_of_ble_eq_true rfl⟩ h ?_
    rintro _ s4 ⟨rfl, h⟩
    obtain ⟨b5, h⟩ := h
    refine r_iinc 2 dX3_become_22 rfl (by decide) b5 rfl ?_
    refine r_goto (tgt := 2) dX3_become_25 (by decide) ?_
    refine MWF.sub [1, 2, 0] rfl ?_
    exact h
set_option maxRecDepth 100000 in
set_option maxHeartbeats 4000000 in
theorem clX3_put (l : Launch) (G : GT) (σ : Sto) (Q : Sto → Prop) (x0 : Nat) (x1 : Int) (x2 : Int) (x3 : Int) (x4 : Int) (hx0 : isPl x0)
    (h : (x2 = (-1) → Q σ) ∧ (¬ (x2 = (-1)) → (0 ≤ x2 ∧ x2 < 4) ∧ CLv l G mX5_put [vR (x0 + 3 + x2.toNat), vI x1, vI x3, vI x4] σ (fun s4 => (0 ≤ x1 ∧ x1 < 12) ∧ Q (stS s4 (x0 + 2) x1.toNat x2)))) :
    CLv l G mX3_put [vR x0, vI x1, vI x2, vI x3, vI x4] σ Q := by
  show MWv l G mX3_put 0 [(0, vR x0), (1, vI x1), (2, vI x2), (3, vI x3), (4, vI x4)] [] σ Q
  refine r_iload_n 2 dX3_put_0 rfl rfl ?_
  refine r_iconst dX3_put_1 (by decide) ?_
  refine r_icmp_ne (tgt := 6) dX3_put_2 (by decide) (fun (c1 : x2 = (-1)) => ?_) (fun (c1 : ¬ (x2 = (-1))) => ?_)
  · replace h := h.1 c1
    exact r_vret dX3_put_5 rfl ⟨rfl, h⟩
  · replace h := h.2 c1
    refine r_aload_n 0 dX3_put_6 rfl rfl ?_
    refine r_getR (j := 0) dX3_put_7 hx0.1 rfl kc_3 (by decide) lf_X3_11 ?_
    refine r_iload_n 2 dX3_put_10 rfl rfl ?_
    obtain ⟨b2, h⟩ := h
    refine r_aald dX3_put_11 hx0.2.1 (fun _ => rfl) rfl b2.1 (pl_at b2.1 b2.2) ?_
    refine r_iload_n 1 dX3_put_12 rfl rfl ?_
    refine r_iload_n 3 dX3_put_13 rfl rfl ?_
    refine r_iload 4 dX3_put_14 rfl ?_
    refine r_callV [vI x1, vI x3, vI x4] [] dX3_put_16 okX5_put ivX5_put seX5_put lm_X3_34 rfl rfl (pl_rt hx0 b2.1 b2.2).1 rfl ⟨Nat.le_of_ble_eq_true rfl, Nat.le_of_ble_eq_true rfl, Nat.le_of_ble_eq_true rfl, Nat.le_of_ble_eq_true rfl⟩ h ?_
    rintro _ s4 ⟨rfl, h⟩
    refine r_aload_n 0 dX3_put_19 rfl rfl ?_
    refine r_getR (j := 1) dX3_put_20 hx0.1 rfl kc_3 (by decide) lf_X3_17 ?_
    refine r_iload_n 1 dX3_put_23 rfl rfl ?_
    refine r_iload_n 2 dX3_put_24 rfl rfl ?_
    obtain ⟨b5, h⟩ := h
    refine r_iast dX3_put_25 hx0.2.2.1 b5.1 b5.2 ?_
    exact r_vret dX3_put_26 rfl ⟨rfl, h⟩
set_option maxRecDepth 100000 in
set_option maxHeartbeats 4000000 in
theorem clX3_take (l : Launch) (G : GT) (σ : Sto) (Q : Sto → Prop) (x0 : Nat) (x1 : Int) (hx0 : isPl x0)
    (h : (0 ≤ x1 ∧ x1 < 12) ∧ ((σ (x0 + 2) x1.toNat) = (-1) → Q σ) ∧ (¬ ((σ (x0 + 2) x1.toNat) = (-1)) → (0 ≤ (σ (x0 + 2) x1.toNat) ∧ (σ (x0 + 2) x1.toNat) < 4) ∧ CLv l G mX5_take [vR (x0 + 3 + (σ (x0 + 2) x1.toNat).toNat), vI x1] σ (fun s5 => Q (stS s5 (x0 + 2) x1.toNat (-1))))) :
    CLv l G mX3_take [vR x0, vI x1] σ Q := by
  show MWv l G mX3_take 0 [(0, vR x0), (1, vI x1)] [] σ Q
  refine r_aload_n 0 dX3_take_0 rfl rfl ?_
  refine r_getR (j := 1) dX3_take_1 hx0.1 rfl kc_3 (by decide) lf_X3_17 ?_
  refine r_iload_n 1 dX3_take_4 rfl rfl ?_
  obtain ⟨b1, h⟩ := h
  refine r_iald dX3_take_5 hx0.2.2.1 b1.1 b1.2 ?_
  refine r_iconst dX3_take_6 (by decide) ?_
  refine r_icmp_ne (tgt := 11) dX3_take_7 (by decide) (fun (c2 : (σ (x0 + 2) x1.toNat) = (-1)) => ?_) (fun (c2 : ¬ ((σ (x0 + 2) x1.toNat) = (-1))) => ?_)
  · replace h := h.1 c2
    exact r_vret dX3_take_10 rfl ⟨rfl, h⟩
  · replace h := h.2 c2
    refine r_aload_n 0 dX3_take_11 rfl rfl ?_
    refine r_getR (j := 0) dX3_take_12 hx0.1 rfl kc_3 (by decide) lf_X3_11 ?_
    refine r_aload_n 0 dX3_take_15 rfl rfl ?_
    refine r_getR (j := 1) dX3_take_16 hx0.1 rfl kc_3 (by decide) lf_X3_17 ?_
    refine r_iload_n 1 dX3_take_19 rfl rfl ?_
    refine r_iald dX3_take_20 hx0.2.2.1 b1.1 b1.2 ?_
    obtain ⟨b3, h⟩ := h
    refine r_aald dX3_take_21 hx0.2.1 (fun _ => rfl) rfl b3.1 (pl_at b3.1 b3.2) ?_
    refine r_iload_n 1 dX3_take_22 rfl rfl ?_
    refine r_callV [vI x1] [] dX3_take_23 okX5_take ivX5_take seX5_take lm_X3_38 rfl rfl (pl_rt hx0 b3.1 b3.2).1 rfl ⟨Nat.le_of_ble_eq_true rfl, Nat.le_of_ble_eq_true rfl, Nat.le_of_ble_eq_true rfl, Nat.le_of_ble_eq_true rfl⟩ h ?_
    rintro _ s5 ⟨rfl, h⟩
    refine r_aload_n 0 dX3_take_26 rfl rfl ?_
    refine r_getR (j := 1) dX3_take_27 hx0.1 rfl kc_3 (by decide) lf_X3_17 ?_
    refine r_iload_n 1 dX3_take_30 rfl rfl ?_
    refine r_iconst dX3_take_31 (by decide) ?_
    refine r_iast dX3_take_32 hx0.2.2.1 b1.1 b1.2 ?_
    exact r_vret dX3_take_33 rfl ⟨rfl, h⟩
set_option maxRecDepth 100000 in
set_option maxHeartbeats 4000000 in
theorem clX3_requestsOf (l : Launch) (G : GT) (σ : Sto) (Q : Int → Sto → Prop) (x0 : Nat) (x1 : Int) (hx0 : isPl x0)
    (h : MWi l G mX3_requestsOf 4 [(0, vR x0), (1, vI x1), (2, vI 0), (3, vI 0)] [] σ Q) :
    CLi l G mX3_requestsOf [vR x0, vI x1] σ Q := by
  show MWi l G mX3_requestsOf 0 [(0, vR x0), (1, vI x1)] [] σ Q
  refine r_iconst dX3_requestsOf_0 (by decide) ?_
  refine r_istore_n dX3_requestsOf_1 rfl (by decide) rfl ?_
  refine r_iconst dX3_requestsOf_2 (by decide) ?_
  refine r_istore_n dX3_requestsOf_3 rfl (by decide) rfl ?_
  refine MWF.sub [2, 3, 1, 0] rfl ?_
  exact h
set_option maxRecDepth 100000 in
set_option maxHeartbeats 4000000 in
theorem vcX3_requestsOf_4 (l : Launch) (G : GT) (σ : Sto) (Q : Int → Sto → Prop) (x0 : Nat) (x1 : Int) (x2 : Int) (x3 : Int) (hx0 : isPl x0)
    (h : (12 ≤ x3 → Q x2 σ) ∧ (¬ (12 ≤ x3) → (0 ≤ x3 ∧ x3 < 12) ∧ (((σ (x0 + 2) x3.toNat) = x1 → (0 ≤ x3 ∧ x3 < 31) ∧ (0 ≤ x2) ∧ (0 ≤ ((2 ^ x3.toNat : Nat) : Int)) ∧ True)) ∧ ∀ y8 : Int, y8 = (if (σ (x0 + 2) x3.toNat) = x1 then ((x2.toNat ||| ((2 ^ x3.toNat : Nat) : Int).toNat : Nat) : Int) else x2) → (-2147483648 ≤ x3 + 1 ∧ x3 + 1 ≤ 2147483647) ∧ MWi l G mX3_requestsOf 4 [(0, vR x0), (1, vI x1), (2, vI y8), (3, vI (x3 + 1))] [] σ Q)) :
    MWi l G mX3_requestsOf 4 [(0, vR x0), (1, vI x1), (2, vI x2), (3, vI x3)] [] σ Q := by
  refine r_iload_n 3 dX3_requestsOf_4 rfl rfl ?_
  refine r_bipush dX3_requestsOf_5 (by decide) (by decide) ?_
  refine r_icmp_ge (tgt := 32) dX3_requestsOf_7 (by decide) (fun (c1 : 12 ≤ x3) => ?_) (fun (c1 : ¬ (12 ≤ x3)) => ?_)
  · replace h := h.1 c1
    refine r_iload_n 2 dX3_requestsOf_32 rfl rfl ?_
    exact r_iret dX3_requestsOf_33 rfl ⟨_, rfl, h⟩
  · replace h := h.2 c1
    refine r_aload_n 0 dX3_requestsOf_10 rfl rfl ?_
    refine r_getR (j := 1) dX3_requestsOf_11 hx0.1 rfl kc_3 (by decide) lf_X3_17 ?_
    refine r_iload_n 3 dX3_requestsOf_14 rfl rfl ?_
    obtain ⟨b2, h⟩ := h
    refine r_iald dX3_requestsOf_15 hx0.2.2.1 b2.1 b2.2 ?_
    refine r_iload_n 1 dX3_requestsOf_16 rfl rfl ?_
    obtain ⟨q7, h⟩ := h
    obtain ⟨y8, ey8⟩ : ∃ z : Int, z = (if (σ (x0 + 2) x3.toNat) = x1 then ((x2.toNat ||| ((2 ^ x3.toNat : Nat) : Int).toNat : Nat) : Int) else x2) := ⟨_, rfl⟩
    replace h := h y8 ey8
    have hj9 : MWi l G mX3_requestsOf 26 [(0, vR x0), (1, vI x1), (2, vI y8), (3, vI x3)] [] σ Q := by
      obtain ⟨b12, h⟩ := h
      refine r_iinc 3 dX3_requestsOf_26 rfl (by decide) b12 rfl ?_
      refine r_goto (tgt := 4) dX3_requestsOf_29 (by decide) ?_
      refine MWF.sub [1, 2, 3, 0] rfl ?_
      exact h
    replace h := q7
    refine r_icmp_ne (tgt := 26) dX3_requestsOf_17 (by decide) (fun (c3 : (σ (x0 + 2) x3.toNat) = x1) => ?_) (fun (c3 : ¬ ((σ (x0 + 2) x3.toNat) = x1)) => ?_)
    · replace h := h c3
      refine r_iload_n 2 dX3_requestsOf_20 rfl rfl ?_
      refine r_iconst dX3_requestsOf_21 (by decide) ?_
      refine r_iload_n 3 dX3_requestsOf_22 rfl rfl ?_
      obtain ⟨b4, h⟩ := h
      refine r_shl1 dX3_requestsOf_23 b4.1 b4.2 ?_
      obtain ⟨b5, h⟩ := h
      obtain ⟨b6, h⟩ := h
      refine r_ior dX3_requestsOf_24 b5 b6 ?_
      refine r_istore_n dX3_requestsOf_25 rfl (by decide) rfl ?_
      refine MWF.sub [1, 2, 0, 3] rfl ?_
      have q10 : y8 = ((x2.toNat ||| ((2 ^ x3.toNat : Nat) : Int).toNat : Nat) : Int) := by rw [ey8, if_pos c3]
      rw [q10] at hj9
      exact hj9
    · refine MWF.sub [0, 1, 2, 3] rfl ?_
      have q11 : y8 = x2 := by rw [ey8, if_neg c3]
      rw [q11] at hj9
      exact hj9
set_option maxRecDepth 100000 in
set_option maxHeartbeats 4000000 in
theorem clX4_keepPlace (l : Launch) (G : GT) (σ : Sto) (Q : Sto → Prop) (x1 : Int) (x2 : Int) (x3 : Int)
    (h : (0 ≤ x1 ∧ x1 < 28) ∧ MWv l G mX4_keepPlace 17 [(0, vR 1), (1, vI x1), (2, vI x2), (3, vI x3), (4, vI 0)] [] (stS (stS σ 9 x1.toNat x2) 10 x1.toNat x3) Q) :
    CLv l G mX4_keepPlace [vR 1, vI x1, vI x2, vI x3] σ Q := by
  show MWv l G mX4_keepPlace 0 [(0, vR 1), (1, vI x1), (2, vI x2), (3, vI x3)] [] σ Q
  refine r_aload_n 0 dX4_keepPlace_0 rfl rfl ?_
  refine r_getR (j := 10) dX4_keepPlace_1 sh_1 rfl kc_4 (by decide) lf_X4_43 ?_
  refine r_iload_n 1 dX4_keepPlace_4 rfl rfl ?_
  refine r_iload_n 2 dX4_keepPlace_5 rfl rfl ?_
  obtain ⟨b1, h⟩ := h
  refine r_iast dX4_keepPlace_6 sh_9 b1.1 b1.2 ?_
  refine r_aload_n 0 dX4_keepPlace_7 rfl rfl ?_
  refine r_getR (j := 11) dX4_keepPlace_8 sh_1 rfl kc_4 (by decide) lf_X4_46 ?_
  refine r_iload_n 1 dX4_keepPlace_11 rfl rfl ?_
  refine r_iload_n 3 dX4_keepPlace_12 rfl rfl ?_
  refine r_iast dX4_keepPlace_13 sh_10 b1.1 b1.2 ?_
  refine r_iconst dX4_keepPlace_14 (by decide) ?_
  refine r_istore dX4_keepPlace_15 (by decide) rfl ?_
  refine MWF.sub [1, 2, 3, 4, 0] rfl ?_
  exact h
set_option maxRecDepth 100000 in
set_option maxHeartbeats 4000000 in
theorem vcX4_keepPlace_17 (l : Launch) (G : GT) (σ : Sto) (Q : Sto → Prop) (x1 : Int) (x2 : Int) (x3 : Int) (x4 : Int)
    (h : (28 ≤ x4 → Q σ) ∧ (¬ (28 ≤ x4) → (0 ≤ x4 ∧ x4 < 28) ∧ (-2147483648 ≤ x2 - (σ 9 x4.toNat) ∧ x2 - (σ 9 x4.toNat) ≤ 2147483647) ∧ (-2147483648 ≤ 0 - (x2 - (σ 9 x4.toNat)) ∧ 0 - (x2 - (σ 9 x4.toNat)) ≤ 2147483647) ∧ (-2147483648 ≤ x3 - (σ 10 x4.toNat) ∧ x3 - (σ 10 x4.toNat) ≤ 2147483647) ∧ (-2147483648 ≤ 0 - (x3 - (σ 10 x4.toNat)) ∧ 0 - (x3 - (σ 10 x4.toNat)) ≤ 2147483647) ∧ (-2147483648 ≤ (if 0 ≤ (x2 - (σ 9 x4.toNat)) then (x2 - (σ 9 x4.toNat)) else 0 - (x2 - (σ 9 x4.toNat))) + (if 0 ≤ (x3 - (σ 10 x4.toNat)) then (x3 - (σ 10 x4.toNat)) else 0 - (x3 - (σ 10 x4.toNat))) ∧ (if 0 ≤ (x2 - (σ 9 x4.toNat)) then (x2 - (σ 9 x4.toNat)) else 0 - (x2 - (σ 9 x4.toNat))) + (if 0 ≤ (x3 - (σ 10 x4.toNat)) then (x3 - (σ 10 x4.toNat)) else 0 - (x3 - (σ 10 x4.toNat))) ≤ 2147483647) ∧ (0 ≤ x1 ∧ x1 < 28) ∧ (-2147483648 ≤ x4 + 1 ∧ x4 + 1 ≤ 2147483647) ∧ MWv l G mX4_keepPlace 17 [(0, vR 1), (1, vI x1), (2, vI x2), (3, vI x3), (4, vI (x4 + 1))] [] (stS (stS σ (12 + x1.toNat) x4.toNat ((if 0 ≤ (x2 - (σ 9 x4.toNat)) then (x2 - (σ 9 x4.toNat)) else 0 - (x2 - (σ 9 x4.toNat))) + (if 0 ≤ (x3 - (σ 10 x4.toNat)) then (x3 - (σ 10 x4.toNat)) else 0 - (x3 - (σ 10 x4.toNat))))) (12 + x4.toNat) x1.toNat ((if 0 ≤ (x2 - (σ 9 x4.toNat)) then (x2 - (σ 9 x4.toNat)) else 0 - (x2 - (σ 9 x4.toNat))) + (if 0 ≤ (x3 - (σ 10 x4.toNat)) then (x3 - (σ 10 x4.toNat)) else 0 - (x3 - (σ 10 x4.toNat))))) Q)) :
    MWv l G mX4_keepPlace 17 [(0, vR 1), (1, vI x1), (2, vI x2), (3, vI x3), (4, vI x4)] [] σ Q := by
  refine r_iload 4 dX4_keepPlace_17 rfl ?_
  refine r_bipush dX4_keepPlace_19 (by decide) (by decide) ?_
  refine r_icmp_ge (tgt := 79) dX4_keepPlace_21 (by decide) (fun (c2 : 28 ≤ x4) => ?_) (fun (c2 : ¬ (28 ≤ x4)) => ?_)
  · replace h := h.1 c2
    exact r_vret dX4_keepPlace_79 rfl ⟨rfl, h⟩
  · replace h := h.2 c2
    refine r_iload_n 2 dX4_keepPlace_24 rfl rfl ?_
    refine r_aload_n 0 dX4_keepPlace_25 rfl rfl ?_
    refine r_getR (j := 10) dX4_keepPlace_26 sh_1 rfl kc_4 (by decide) lf_X4_43 ?_
    refine r_iload 4 dX4_keepPlace_29 rfl ?_
    obtain ⟨b3, h⟩ := h
    refine r_iald dX4_keepPlace_31 sh_9 b3.1 b3.2 ?_
    obtain ⟨b4, h⟩ := h
    refine r_isub dX4_keepPlace_32 b4 ?_
    obtain ⟨b5, h⟩ := h
    refine r_abs dX4_keepPlace_33 lm_X4_54 w_abs ⟨Nat.le_of_ble_eq_true rfl, Nat.le_of_ble_eq_true rfl⟩ b5 ?_
    refine r_iload_n 3 dX4_keepPlace_36 rfl rfl ?_
    refine r_aload_n 0 dX4_keepPlace_37 rfl rfl ?_
    refine r_getR (j := 11) dX4_keepPlace_38 sh_1 rfl kc_4 (by decide) lf_X4_46 ?_
    refine r_iload 4 dX4_keepPlace_41 rfl ?_
    refine r_iald dX4_keepPlace_43 sh_10 b3.1 b3.2 ?_
    obtain ⟨b6, h⟩ := h
    refine r_isub dX4_keepPlace_44 b6 ?_
    obtain ⟨b7, h⟩ := h
    refine r_abs dX4_keepPlace_45 lm_X4_54 w_abs ⟨Nat.le_of_ble_eq_true rfl, Nat.le_of_ble_eq_true rfl⟩ b7 ?_
    obtain ⟨b8, h⟩ := h
    refine r_iadd dX4_keepPlace_48 b8 ?_
    refine r_istore dX4_keepPlace_49 (by decide) rfl ?_
    refine r_aload_n 1 dX4_keepPlace_51 rfl rfl ?_
    refine r_getR (j := 12) dX4_keepPlace_52 sh_1 rfl kc_4 (by decide) lf_X4_51 ?_
    refine r_iload_n 2 dX4_keepPlace_55 rfl rfl ?_
    obtain ⟨b9, h⟩ := h
    refine r_aald dX4_keepPlace_56 sh_11 (fun _ => rfl) rfl b9.1 (tv_at b9.1 b9.2) ?_
    refine r_iload 5 dX4_keepPlace_57 rfl ?_
    refine r_iload 0 dX4_keepPlace_59 rfl ?_
    refine r_iast dX4_keepPlace_61 (tv_sh b9.1 b9.2) b3.1 b3.2 ?_
    refine r_aload_n 1 dX4_keepPlace_62 rfl rfl ?_
    refine r_getR (j := 12) dX4_keepPlace_63 sh_1 rfl kc_4 (by decide) lf_X4_51 ?_
    refine r_iload 5 dX4_keepPlace_66 rfl ?_
    refine r_aald dX4_keepPlace_68 sh_11 (fun _ => rfl) rfl b3.1 (tv_at b3.1 b3.2) ?_
    refine r_iload_n 2 dX4_keepPlace_69 rfl rfl ?_
    refine r_iload 0 dX4_keepPlace_70 rfl ?_
    refine r_iast dX4_keepPlace_72 (tv_sh b3.1 b3.2) b9.1 b9.2 ?_
    obtain ⟨b10, h⟩ := h
    refine r_iinc 5 dX4_keepPlace_73 rfl (by decide) b10 rfl ?_
    refine r_goto (tgt := 17) dX4_keepPlace_76 (by decide) ?_
    refine MWF.sub [2, 3, 4, 5, 0] rfl ?_
    exact h
set_option maxRecDepth 100000 in
set_option maxHeartbeats 4000000 in
theorem clX4_keepWindow (l : Launch) (G : GT) (σ : Sto) (Q : Sto → Prop) (x1 : Int) (x2 : Int) (x3 : Int)
    (h : (0 ≤ x1 ∧ x1 < 24) ∧ Q (stS (stS σ 7 x1.toNat x2) 8 x1.toNat x3)) :
    CLv l G mX4_keepWindow [vR 1, vI x1, vI x2, vI x3] σ Q := by
  show MWv l G mX4_keepWindow 0 [(0, vR 1), (1, vI x1), (2, vI x2), (3, vI x3)] [] σ Q
  refine r_aload_n 0 dX4_keepWindow_0 rfl rfl ?_
  refine r_getR (j := 8) dX4_keepWindow_1 sh_1 rfl kc_4 (by decide) lf_X4_37 ?_
  refine r_iload_n 1 dX4_keepWindow_4 rfl rfl ?_
  refine r_iload_n 2 dX4_keepWindow_5 rfl rfl ?_
  obtain ⟨b1, h⟩ := h
  refine r_iast dX4_keepWindow_6 sh_7 b1.1 b1.2 ?_
  refine r_aload_n 0 dX4_keepWindow_7 rfl rfl ?_
  refine r_getR (j := 9) dX4_keepWindow_8 sh_1 rfl kc_4 (by decide) lf_X4_40 ?_
  refine r_iload_n 1 dX4_keepWindow_11 rfl rfl ?_
  refine r_iload_n 3 dX4_keepWindow_12 rfl rfl ?_
  refine r_iast dX4_keepWindow_13 sh_8 b1.1 b1.2 ?_
  exact r_vret dX4_keepWindow_14 rfl ⟨rfl, h⟩
set_option maxRecDepth 100000 in
set_option maxHeartbeats 4000000 in
theorem clX4_keepLoad (l : Launch) (G : GT) (σ : Sto) (Q : Sto → Prop) (x1 : Int) (x2 : Int)
    (h : (-2147483648 ≤ 2 * x1 ∧ 2 * x1 ≤ 2147483647) ∧ (0 ≤ (2 * x1) ∧ (2 * x1) < 24) ∧ (-2147483648 ≤ (2 * x1) + 1 ∧ (2 * x1) + 1 ≤ 2147483647) ∧ (-2147483648 ≤ -x2 ∧ -x2 ≤ 2147483647) ∧ (0 ≤ ((2 * x1) + 1) ∧ ((2 * x1) + 1) < 24) ∧ Q (stS (stS σ 6 (2 * x1).toNat x2) 6 ((2 * x1) + 1).toNat (-x2))) :
    CLv l G mX4_keepLoad [vR 1, vI x1, vI x2] σ Q := by
  show MWv l G mX4_keepLoad 0 [(0, vR 1), (1, vI x1), (2, vI x2)] [] σ Q
  refine r_aload_n 0 dX4_keepLoad_0 rfl rfl ?_
  refine r_getR (j := 7) dX4_keepLoad_1 sh_1 rfl kc_4 (by decide) lf_X4_34 ?_
  refine r_iconst dX4_keepLoad_4 (by decide) ?_
  refine r_iload_n 1 dX4_keepLoad_5 rfl rfl ?_
  obtain ⟨b1, h⟩ := h
  refine r_imul dX4_keepLoad_6 b1 ?_
  refine r_iload_n 2 dX4_keepLoad_7 rfl rfl ?_
  obtain ⟨b2, h⟩ := h
  refine r_iast dX4_keepLoad_8 sh_6 b2.1 b2.2 ?_
  refine r_aload_n 0 dX4_keepLoad_9 rfl rfl ?_
  refine r_getR (j := 7) dX4_keepLoad_10 sh_1 rfl kc_4 (by decide) lf_X4_34 ?_
  refine r_iconst dX4_keepLoad_13 (by decide) ?_
  refine r_iload_n 1 dX4_keepLoad_14 rfl rfl ?_
  refine r_imul dX4_keepLoad_15 b1 ?_
  refine r_iconst dX4_keepLoad_16 (by decide) ?_
  obtain ⟨b3, h⟩ := h
  refine r_iadd dX4_keepLoad_17 b3 ?_
  refine r_iload_n 2 dX4_keepLoad_18 rfl rfl ?_
  obtain ⟨b4, h⟩ := h
  refine r_ineg dX4_keepLoad_19 b4 ?_
  obtain ⟨b5, h⟩ := h
  refine r_iast dX4_keepLoad_20 sh_6 b5.1 b5.2 ?_
  exact r_vret dX4_keepLoad_21 rfl ⟨rfl, h⟩
set_option maxRecDepth 100000 in
set_option maxHeartbeats 4000000 in
theorem clX4_length (l : Launch) (G : GT) (σ : Sto) (Q : Int → Sto → Prop) (x1 : Nat) (hx1 : isRt x1)
    (h : MWi l G mX4_length 10 [(0, vR 1), (1, vR x1), (2, vI 0), (3, vI (σ x1 1)), (4, vI 0)] [] σ Q) :
    CLi l G mX4_length [vR 1, vR x1] σ Q := by
  show MWi l G mX4_length 0 [(0, vR 1), (1, vR x1)] [] σ Q
  refine r_iconst dX4_length_0 (by decide) ?_
  refine r_istore_n dX4_length_1 rfl (by decide) rfl ?_
  refine r_aload_n 2 dX4_length_2 rfl rfl ?_
  refine r_getI (j := 1) dX4_length_3 hx1.1 rfl kc_5 (by decide) lf_X4_60 ?_
  refine r_istore_n dX4_length_6 rfl (by decide) rfl ?_
  refine r_iconst dX4_length_7 (by decide) ?_
  refine r_istore dX4_length_8 (by decide) rfl ?_
  refine MWF.sub [3, 4, 2, 1, 0] rfl ?_
  exact h
set_option maxRecDepth 100000 in
set_option maxHeartbeats 4000000 in
theorem vcX4_length_10 (l : Launch) (G : GT) (σ : Sto) (Q : Int → Sto → Prop) (x1 : Nat) (x2 : Int) (x3 : Int) (x4 : Int) (hx1 : isRt x1)
    (h : ((σ x1 2) ≤ x4 → (0 ≤ x3 ∧ x3 < 28) ∧ (0 ≤ (σ x1 1) ∧ (σ x1 1) < 28) ∧ (-2147483648 ≤ x2 + (σ (12 + x3.toNat) (σ x1 1).toNat) ∧ x2 + (σ (12 + x3.toNat) (σ x1 1).toNat) ≤ 2147483647) ∧ Q (x2 + (σ (12 + x3.toNat) (σ x1 1).toNat)) σ) ∧ (¬ ((σ x1 2) ≤ x4) → (0 ≤ x3 ∧ x3 < 28) ∧ (0 ≤ x4 ∧ x4 < 24) ∧ (0 ≤ (σ (x1 + 4) x4.toNat) ∧ (σ (x1 + 4) x4.toNat) < 28) ∧ (-2147483648 ≤ x2 + (σ (12 + x3.toNat) (σ (x1 + 4) x4.toNat).toNat) ∧ x2 + (σ (12 + x3.toNat) (σ (x1 + 4) x4.toNat).toNat) ≤ 2147483647) ∧ (-2147483648 ≤ x4 + 1 ∧ x4 + 1 ≤ 2147483647) ∧ MWi l G mX4_length 10 [(0, vR 1), (1, vR x1), (2, vI (x2 + (σ (12 + x3.toNat) (σ (x1 + 4) x4.toNat).toNat))), (3, vI (σ (x1 + 4) x4.toNat)), (4, vI (x4 + 1))] [] σ Q)) :
    MWi l G mX4_length 10 [(0, vR 1), (1, vR x1), (2, vI x2), (3, vI x3), (4, vI x4)] [] σ Q := by
  refine r_iload 4 dX4_length_10 rfl ?_
  refine r_aload_n 1 dX4_length_12 rfl rfl ?_
  refine r_getI (j := 2) dX4_length_13 hx1.1 rfl kc_5 (by decide) lf_X4_65 ?_
  refine r_icmp_ge (tgt := 50) dX4_length_16 (by decide) (fun (c1 : (σ x1 2) ≤ x4) => ?_) (fun (c1 : ¬ ((σ x1 2) ≤ x4)) => ?_)
  · replace h := h.1 c1
    refine r_iload_n 2 dX4_length_50 rfl rfl ?_
    refine r_aload_n 0 dX4_length_51 rfl rfl ?_
    refine r_getR (j := 12) dX4_length_52 sh_1 rfl kc_4 (by decide) lf_X4_51 ?_
    refine r_iload_n 3 dX4_length_55 rfl rfl ?_
    obtain ⟨b2, h⟩ := h
    refine r_aald dX4_length_56 sh_11 (fun _ => rfl) rfl b2.1 (tv_at b2.1 b2.2) ?_
    refine r_aload_n 1 dX4_length_57 rfl rfl ?_
    refine r_getI (j := 1) dX4_length_58 hx1.1 rfl kc_5 (by decide) lf_X4_60 ?_
    obtain ⟨b3, h⟩ := h
    refine r_iald dX4_length_61 (tv_sh b2.1 b2.2) b3.1 b3.2 ?_
    obtain ⟨b4, h⟩ := h
    refine r_iadd dX4_length_62 b4 ?_
    exact r_iret dX4_length_63 rfl ⟨_, rfl, h⟩
  · replace h := h.2 c1
    refine r_iload_n 2 dX4_length_19 rfl rfl ?_
    refine r_aload_n 0 dX4_length_20 rfl rfl ?_
    refine r_getR (j := 12) dX4_length_21 sh_1 rfl kc_4 (by decide) lf_X4_51 ?_
    refine r_iload_n 3 dX4_length_24 rfl rfl ?_
    obtain ⟨b5, h⟩ := h
    refine r_aald dX4_length_25 sh_11 (fun _ => rfl) rfl b5.1 (tv_at b5.1 b5.2) ?_
    refine r_aload_n 1 dX4_length_26 rfl rfl ?_
    refine r_getR (j := 3) dX4_length_27 hx1.1 rfl kc_5 (by decide) lf_X4_68 ?_
    refine r_iload 4 dX4_length_30 rfl ?_
    obtain ⟨b6, h⟩ := h
    refine r_iald dX4_length_32 hx1.2 b6.1 b6.2 ?_
    obtain ⟨b7, h⟩ := h
    refine r_iald dX4_length_33 (tv_sh b5.1 b5.2) b7.1 b7.2 ?_
    obtain ⟨b8, h⟩ := h
    refine r_iadd dX4_length_34 b8 ?_
    refine r_istore_n dX4_length_35 rfl (by decide) rfl ?_
    refine r_aload_n 2 dX4_length_36 rfl rfl ?_
    refine r_getR (j := 3) dX4_length_37 hx1.1 rfl kc_5 (by decide) lf_X4_68 ?_
    refine r_iload 4 dX4_length_40 rfl ?_
    refine r_iald dX4_length_42 hx1.2 b6.1 b6.2 ?_
    refine r_istore_n dX4_length_43 rfl (by decide) rfl ?_
    obtain ⟨b9, h⟩ := h
    refine r_iinc 4 dX4_length_44 rfl (by decide) b9 rfl ?_
    refine r_goto (tgt := 10) dX4_length_47 (by decide) ?_
    refine MWF.sub [3, 4, 2, 1, 0] rfl ?_
    exact h
set_option maxRecDepth 100000 in
set_option maxHeartbeats 4000000 in
theorem clX4_totalLength (l : Launch) (G : GT) (σ : Sto) (Q : Int → Sto → Prop) (x1 : Nat) (hx1 : isPl x1)
    (h : MWi l G mX4_totalLength 4 [(0, vR 1), (1, vR x1), (2, vI 0), (3, vI 0)] [] σ Q) :
    CLi l G mX4_totalLength [vR 1, vR x1] σ Q := by
  show MWi l G mX4_totalLength 0 [(0, vR 1), (1, vR x1)] [] σ Q
  refine r_iconst dX4_totalLength_0 (by decide) ?_
  refine r_istore_n dX4_totalLength_1 rfl (by decide) rfl ?_
  refine r_iconst dX4_totalLength_2 (by decide) ?_
  refine r_istore_n dX4_totalLength_3 rfl (by decide) rfl ?_
  refine MWF.sub [2, 3, 1, 0] rfl ?_
  exact h
set_option maxRecDepth 100000 in
set_option maxHeartbeats 4000000 in
theorem vcX4_totalLength_4 (l : Launch) (G : GT) (σ : Sto) (Q : Int → Sto → Prop) (x1 : Nat) (x2 : Int) (x3 : Int) (hx1 : isPl x1)
    (h : ((σ 1 0) ≤ x3 → Q x2 σ) ∧ (¬ ((σ 1 0) ≤ x3) → (0 ≤ x3 ∧ x3 < 4) ∧ CLi l G mX4_length [vR 1, vR (x1 + 3 + x3.toNat)] σ (fun r3 s4 => (-2147483648 ≤ x2 + r3 ∧ x2 + r3 ≤ 2147483647) ∧ (-2147483648 ≤ x3 + 1 ∧ x3 + 1 ≤ 2147483647) ∧ MWi l G mX4_totalLength 4 [(0, vR 1), (1, vR x1), (2, vI (x2 + r3)), (3, vI (x3 + 1))] [] s4 Q))) :
    MWi l G mX4_totalLength 4 [(0, vR 1), (1, vR x1), (2, vI x2), (3, vI x3)] [] σ Q := by
  refine r_iload_n 3 dX4_totalLength_4 rfl rfl ?_
  refine r_aload_n 0 dX4_totalLength_5 rfl rfl ?_
  refine r_getI (j := 0) dX4_totalLength_6 sh_1 rfl kc_4 (by decide) lf_X4_9 ?_
  refine r_icmp_ge (tgt := 31) dX4_totalLength_9 (by decide) (fun (c1 : (σ 1 0) ≤ x3) => ?_) (fun (c1 : ¬ ((σ 1 0) ≤ x3)) => ?_)
  · replace h := h.1 c1
    refine r_iload_n 2 dX4_totalLength_31 rfl rfl ?_
    exact r_iret dX4_totalLength_32 rfl ⟨_, rfl, h⟩
  · replace h := h.2 c1
    refine r_iload_n 2 dX4_totalLength_12 rfl rfl ?_
    refine r_aload_n 0 dX4_totalLength_13 rfl rfl ?_
    refine r_aload_n 1 dX4_totalLength_14 rfl rfl ?_
    refine r_getR (j := 0) dX4_totalLength_15 hx1.1 rfl kc_3 (by decide) lf_X4_71 ?_
    refine r_iload_n 3 dX4_totalLength_18 rfl rfl ?_
    obtain ⟨b2, h⟩ := h
    refine r_aald dX4_totalLength_19 hx1.2.1 (fun _ => rfl) rfl b2.1 (pl_at b2.1 b2.2) ?_
    refine r_callV [vR (x1 + 3 + x3.toNat)] [vI x2] dX4_totalLength_20 okX4_length ivX4_length seX4_length lm_X4_77 rfl rfl sh_1 rfl ⟨Nat.le_of_ble_eq_true rfl, Nat.le_of_ble_eq_true rfl, Nat.le_of_ble_eq_true rfl, Nat.le_of_ble_eq_true rfl⟩ h ?_
    rintro _ s4 ⟨r3, rfl, h⟩
    obtain ⟨b5, h⟩ := h
    refine r_iadd dX4_totalLength_23 b5 ?_
    refine r_istore_n dX4_totalLength_24 rfl (by decide) rfl ?_
    obtain ⟨b6, h⟩ := h
    refine r_iinc 3 dX4_totalLength_25 rfl (by decide) b6 rfl ?_
    refine r_goto (tgt := 4) dX4_totalLength_28 (by decide) ?_
    refine MWF.sub [2, 3, 1, 0] rfl ?_
    exact h
set_option maxRecDepth 100000 in
set_option maxHeartbeats 4000000 in
theorem clX4_addedLength (l : Launch) (G : GT) (σ : Sto) (Q : Int → Sto → Prop) (x1 : Nat) (x2 : Int) (x3 : Int) (x4 : Int) (hx1 : isRt x1)
    (h : (-2147483648 ≤ 2 * x2 ∧ 2 * x2 ≤ 2147483647) ∧ (-2147483648 ≤ (2 * x2) + 1 ∧ (2 * x2) + 1 ≤ 2147483647) ∧ (-2147483648 ≤ x3 - 1 ∧ x3 - 1 ≤ 2147483647) ∧ CLi l G mX5_placeAt [vR x1, vI (x3 - 1)] σ (fun r4 s5 => CLi l G mX5_placeAt [vR x1, vI x3] s5 (fun r6 s7 => (-2147483648 ≤ x3 + 1 ∧ x3 + 1 ≤ 2147483647) ∧ (x4 = (x3 + 1) → (0 ≤ r4 ∧ r4 < 28) ∧ (0 ≤ (2 * x2) ∧ (2 * x2) < 28) ∧ (0 ≤ ((2 * x2) + 1) ∧ ((2 * x2) + 1) < 28) ∧ (-2147483648 ≤ (s7 (12 + r4.toNat) (2 * x2).toNat) + (s7 (12 + (2 * x2).toNat) ((2 * x2) + 1).toNat) ∧ (s7 (12 + r4.toNat) (2 * x2).toNat) + (s7 (12 + (2 * x2).toNat) ((2 * x2) + 1).toNat) ≤ 2147483647) ∧ (0 ≤ r6 ∧ r6 < 28) ∧ (-2147483648 ≤ ((s7 (12 + r4.toNat) (2 * x2).toNat) + (s7 (12 + (2 * x2).toNat) ((2 * x2) + 1).toNat)) + (s7 (12 + ((2 * x2) + 1).toNat) r6.toNat) ∧ ((s7 (12 + r4.toNat) (2 * x2).toNat) + (s7 (12 + (2 * x2).toNat) ((2 * x2) + 1).toNat)) + (s7 (12 + ((2 * x2) + 1).toNat) r6.toNat) ≤ 2147483647) ∧ (-2147483648 ≤ (((s7 (12 + r4.toNat) (2 * x2).toNat) + (s7 (12 + (2 * x2).toNat) ((2 * x2) + 1).toNat)) + (s7 (12 + ((2 * x2) + 1).toNat) r6.toNat)) - (s7 (12 + r4.toNat) r6.toNat) ∧ (((s7 (12 + r4.toNat) (2 * x2).toNat) + (s7 (12 + (2 * x2).toNat) ((2 * x2) + 1).toNat)) + (s7 (12 + ((2 * x2) + 1).toNat) r6.toNat)) - (s7 (12 + r4.toNat) r6.toNat) ≤ 2147483647) ∧ Q ((((s7 (12 + r4.toNat) (2 * x2).toNat) + (s7 (12 + (2 * x2).toNat) ((2 * x2) + 1).toNat)) + (s7 (12 + ((2 * x2) + 1).toNat) r6.toNat)) - (s7 (12 + r4.toNat) r6.toNat)) s7) ∧ (¬ (x4 = (x3 + 1)) → (-2147483648 ≤ x4 - 2 ∧ x4 - 2 ≤ 2147483647) ∧ CLi l G mX5_placeAt [vR x1, vI (x4 - 2)] s7 (fun r18 s19 => (-2147483648 ≤ x4 - 1 ∧ x4 - 1 ≤ 2147483647) ∧ CLi l G mX5_placeAt [vR x1, vI (x4 - 1)] s19 (fun r21 s22 => (0 ≤ r4 ∧ r4 < 28) ∧ (0 ≤ (2 * x2) ∧ (2 * x2) < 28) ∧ (0 ≤ r6 ∧ r6 < 28) ∧ (-2147483648 ≤ (s22 (12 + r4.toNat) (2 * x2).toNat) + (s22 (12 + (2 * x2).toNat) r6.toNat) ∧ (s22 (12 + r4.toNat) (2 * x2).toNat) + (s22 (12 + (2 * x2).toNat) r6.toNat) ≤ 2147483647) ∧ (-2147483648 ≤ ((s22 (12 + r4.toNat) (2 * x2).toNat) + (s22 (12 + (2 * x2).toNat) r6.toNat)) - (s22 (12 + r4.toNat) r6.toNat) ∧ ((s22 (12 + r4.toNat) (2 * x2).toNat) + (s22 (12 + (2 * x2).toNat) r6.toNat)) - (s22 (12 + r4.toNat) r6.toNat) ≤ 2147483647) ∧ (0 ≤ r18 ∧ r18 < 28) ∧ (0 ≤ ((2 * x2) + 1) ∧ ((2 * x2) + 1) < 28) ∧ (-2147483648 ≤ (((s22 (12 + r4.toNat) (2 * x2).toNat) + (s22 (12 + (2 * x2).toNat) r6.toNat)) - (s22 (12 + r4.toNat) r6.toNat)) + (s22 (12 + r18.toNat) ((2 * x2) + 1).toNat) ∧ (((s22 (12 + r4.toNat) (2 * x2).toNat) + (s22 (12 + (2 * x2).toNat) r6.toNat)) - (s22 (12 + r4.toNat) r6.toNat)) + (s22 (12 + r18.toNat) ((2 * x2) + 1).toNat) ≤ 2147483647) ∧ (0 ≤ r21 ∧ r21 < 28) ∧ (-2147483648 ≤ ((((s22 (12 + r4.toNat) (2 * x2).toNat) + (s22 (12 + (2 * x2).toNat) r6.toNat)) - (s22 (12 + r4.toNat) r6.toNat)) + (s22 (12 + r18.toNat) ((2 * x2) + 1).toNat)) + (s22 (12 + ((2 * x2) + 1).toNat) r21.toNat) ∧ ((((s22 (12 + r4.toNat) (2 * x2).toNat) + (s22 (12 + (2 * x2).toNat) r6.toNat)) - (s22 (12 + r4.toNat) r6.toNat)) + (s22 (12 + r18.toNat) ((2 * x2) + 1).toNat)) + (s22 (12 + ((2 * x2) + 1).toNat) r21.toNat) ≤ 2147483647) ∧ (-2147483648 ≤ (((((s22 (12 + r4.toNat) (2 * x2).toNat) + (s22 (12 + (2 * x2).toNat) r6.toNat)) - (s22 (12 + r4.toNat) r6.toNat)) + (s22 (12 + r18.toNat) ((2 * x2) + 1).toNat)) + (s22 (12 + ((2 * x2) + 1).toNat) r21.toNat)) - (s22 (12 + r18.toNat) r21.toNat) ∧ (((((s22 (12 + r4.toNat) (2 * x2).toNat) + (s22 (12 + (2 * x2).toNat) r6.toNat)) - (s22 (12 + r4.toNat) r6.toNat)) + (s22 (12 + r18.toNat) ((2 * x2) + 1).toNat)) + (s22 (12 + ((2 * x2) + 1).toNat) r21.toNat)) - (s22 (12 + r18.toNat) r21.toNat) ≤ 2147483647) ∧ Q ((((((s22 (12 + r4.toNat) (2 * x2).toNat) + (s22 (12 + (2 * x2).toNat) r6.toNat)) - (s22 (12 + r4.toNat) r6.toNat)) + (s22 (12 + r18.toNat) ((2 * x2) + 1).toNat)) + (s22 (12 + ((2 * x2) + 1).toNat) r21.toNat)) - (s22 (12 + r18.toNat) r21.toNat)) s22)))))) :
    CLi l G mX4_addedLength [vR 1, vR x1, vI x2, vI x3, vI x4] σ Q := by
  show MWi l G mX4_addedLength 0 [(0, vR 1), (1, vR x1), (2, vI x2), (3, vI x3), (4, vI x4)] [] σ Q
  refine r_iconst dX4_addedLength_0 (by decide) ?_
  refine r_iload_n 2 dX4_addedLength_1 rfl rfl ?_
  obtain ⟨b1, h⟩ := h
  refine r_imul dX4_addedLength_2 b1 ?_
  refine r_istore dX4_addedLength_3 (by decide) rfl ?_
  refine r_iload 0 dX4_addedLength_5 rfl ?_
  refine r_iconst dX4_addedLength_7 (by decide) ?_
  obtain ⟨b2, h⟩ := h
  refine r_iadd dX4_addedLength_8 b2 ?_
  refine r_istore dX4_addedLength_9 (by decide) rfl ?_
  refine r_aload_n 3 dX4_addedLength_11 rfl rfl ?_
  refine r_iload_n 5 dX4_addedLength_12 rfl rfl ?_
  refine r_iconst dX4_addedLength_13 (by decide) ?_
  obtain ⟨b3, h⟩ := h
  refine r_isub dX4_addedLength_14 b3 ?_
  refine r_callV [vI (x3 - 1)] [] dX4_addedLength_15 okX5_placeAt ivX5_placeAt seX5_placeAt lm_X4_81 rfl rfl hx1.1 rfl ⟨Nat.le_of_ble_eq_true rfl, Nat.le_of_ble_eq_true rfl, Nat.le_of_ble_eq_true rfl, Nat.le_of_ble_eq_true rfl⟩ h ?_
  rintro _ s5 ⟨r4, rfl, h⟩
  refine r_istore dX4_addedLength_18 (by decide) rfl ?_
  refine r_aload_n 4 dX4_addedLength_20 rfl rfl ?_
  refine r_iload_n 6 dX4_addedLength_21 rfl rfl ?_
  refine r_callV [vI x3] [] dX4_addedLength_22 okX5_placeAt ivX5_placeAt seX5_placeAt lm_X4_81 rfl rfl hx1.1 rfl ⟨Nat.le_of_ble_eq_true rfl, Nat.le_of_ble_eq_true rfl, Nat.le_of_ble_eq_true rfl, Nat.le_of_ble_eq_true rfl⟩ h ?_
  rintro _ s7 ⟨r6, rfl, h⟩
  refine r_istore dX4_addedLength_25 (by decide) rfl ?_
  refine r_iload 8 dX4_addedLength_27 rfl ?_
  refine r_iload_n 7 dX4_addedLength_29 rfl rfl ?_
  refine r_iconst dX4_addedLength_30 (by decide) ?_
  obtain ⟨b8, h⟩ := h
  refine r_iadd dX4_addedLength_31 b8 ?_
  refine r_icmp_ne (tgt := 79) dX4_addedLength_32 (by decide) (fun (c9 : x4 = (x3 + 1)) => ?_) (fun (c9 : ¬ (x4 = (x3 + 1))) => ?_)
  · replace h := h.1 c9
    refine r_aload_n 4 dX4_addedLength_35 rfl rfl ?_
    refine r_getR (j := 12) dX4_addedLength_36 sh_1 rfl kc_4 (by decide) lf_X4_51 ?_
    refine r_iload 1 dX4_addedLength_39 rfl ?_
    obtain ⟨b10, h⟩ := h
    refine r_aald dX4_addedLength_41 sh_11 (fun _ => rfl) rfl b10.1 (tv_at b10.1 b10.2) ?_
    refine r_iload 3 dX4_addedLength_42 rfl ?_
    obtain ⟨b11, h⟩ := h
    refine r_iald dX4_addedLength_44 (tv_sh b10.1 b10.2) b11.1 b11.2 ?_
    refine r_aload_n 4 dX4_addedLength_45 rfl rfl ?_
    refine r_getR (j := 12) dX4_addedLength_46 sh_1 rfl kc_4 (by decide) lf_X4_51 ?_
    refine r_iload 3 dX4_addedLength_49 rfl ?_
    refine r_aald dX4_addedLength_51 sh_11 (fun _ => rfl) rfl b11.1 (tv_at b11.1 b11.2) ?_
    refine r_iload 2 dX4_addedLength_52 rfl ?_
    obtain ⟨b12, h⟩ := h
    refine r_iald dX4_addedLength_54 (tv_sh b11.1 b11.2) b12.1 b12.2 ?_
    obtain ⟨b13, h⟩ := h
    refine r_iadd dX4_addedLength_55 b13 ?_
    refine r_aload_n 4 dX4_addedLength_56 rfl rfl ?_
    refine r_getR (j := 12) dX4_addedLength_57 sh_1 rfl kc_4 (by decide) lf_X4_51 ?_
    refine r_iload 2 dX4_addedLength_60 rfl ?_
    refine r_aald dX4_addedLength_62 sh_11 (fun _ => rfl) rfl b12.1 (tv_at b12.1 b12.2) ?_
    refine r_iload 0 dX4_addedLength_63 rfl ?_
    obtain ⟨b14, h⟩ := h
    refine r_iald dX4_addedLength_65 (tv_sh b12.1 b12.2) b14.1 b14.2 ?_
    obtain ⟨b15, h⟩ := h
    refine r_iadd dX4_addedLength_66 b15 ?_
    refine r_aload_n 4 dX4_addedLength_67 rfl rfl ?_
    refine r_getR (j := 12) dX4_addedLength_68 sh_1 rfl kc_4 (by decide) lf_X4_51 ?_
    refine r_iload 1 dX4_addedLength_71 rfl ?_
    refine r_aald dX4_addedLength_73 sh_11 (fun _ => rfl) rfl b10.1 (tv_at b10.1 b10.2) ?_
    refine r_iload 0 dX4_addedLength_74 rfl ?_
    refine r_iald dX4_addedLength_76 (tv_sh b10.1 b10.2) b14.1 b14.2 ?_
    obtain ⟨b16, h⟩ := h
    refine r_isub dX4_addedLength_77 b16 ?_
    exact r_iret dX4_addedLength_78 rfl ⟨_, rfl, h⟩
  · replace h := h.2 c9
    refine r_aload_n 5 dX4_addedLength_79 rfl rfl ?_
    refine r_iload 8 dX4_addedLength_80 rfl ?_
    refine r_iconst dX4_addedLength_82 (by decide) ?_
    obtain ⟨b17, h⟩ := h
    refine r_isub dX4_addedLength_83 b17 ?_
    refine r_callV [vI (x4 - 2)] [] dX4_addedLength_84 okX5_placeAt ivX5_placeAt seX5_placeAt lm_X4_81 rfl rfl hx1.1 rfl ⟨Nat.le_of_ble_eq_true rfl, Nat.le_of_ble_eq_true rfl, Nat.le_of_ble_eq_true rfl, Nat.le_of_ble_eq_true rfl⟩ h ?_
    rintro _ s19 ⟨r18, rfl, h⟩
    refine r_istore dX4_addedLength_87 (by decide) rfl ?_
    refine r_aload_n 6 dX4_addedLength_89 rfl rfl ?_
    refine r_iload 9 dX4_addedLength_90 rfl ?_
    refine r_iconst dX4_addedLength_92 (by decide) ?_
    obtain ⟨b20, h⟩ := h
    refine r_isub dX4_addedLength_93 b20 ?_
    refine r_callV [vI (x4 - 1)] [] dX4_addedLength_94 okX5_placeAt ivX5_placeAt seX5_placeAt lm_X4_81 rfl rfl hx1.1 rfl ⟨Nat.le_of_ble_eq_true rfl, Nat.le_of_ble_eq_true rfl, Nat.le_of_ble_eq_true rfl, Nat.le_of_ble_eq_true rfl⟩ h ?_
    rintro _ s22 ⟨r21, rfl, h⟩
    refine r_istore dX4_addedLength_97 (by decide) rfl ?_
    refine r_aload_n 6 dX4_addedLength_99 rfl rfl ?_
    refine r_getR (j := 12) dX4_addedLength_100 sh_1 rfl kc_4 (by decide) lf_X4_51 ?_
    refine r_iload 3 dX4_addedLength_103 rfl ?_
    obtain ⟨b23, h⟩ := h
    refine r_aald dX4_addedLength_105 sh_11 (fun _ => rfl) rfl b23.1 (tv_at b23.1 b23.2) ?_
    refine r_iload 5 dX4_addedLength_106 rfl ?_
    obtain ⟨b24, h⟩ := h
    refine r_iald dX4_addedLength_108 (tv_sh b23.1 b23.2) b24.1 b24.2 ?_
    refine r_aload_n 6 dX4_addedLength_109 rfl rfl ?_
    refine r_getR (j := 12) dX4_addedLength_110 sh_1 rfl kc_4 (by decide) lf_X4_51 ?_
    refine r_iload 5 dX4_addedLength_113 rfl ?_
    refine r_aald dX4_addedLength_115 sh_11 (fun _ => rfl) rfl b24.1 (tv_at b24.1 b24.2) ?_
    refine r_iload 2 dX4_addedLength_116 rfl ?_
    obtain ⟨b25, h⟩ := h
    refine r_iald dX4_addedLength_118 (tv_sh b24.1 b24.2) b25.1 b25.2 ?_
    obtain ⟨b26, h⟩ := h
    refine r_iadd dX4_addedLength_119 b26 ?_
    refine r_aload_n 6 dX4_addedLength_120 rfl rfl ?_
    refine r_getR (j := 12) dX4_addedLength_121 sh_1 rfl kc_4 (by decide) lf_X4_51 ?_
    refine r_iload 3 dX4_addedLength_124 rfl ?_
    refine r_aald dX4_addedLength_126 sh_11 (fun _ => rfl) rfl b23.1 (tv_at b23.1 b23.2) ?_
    refine r_iload 2 dX4_addedLength_127 rfl ?_
    refine r_iald dX4_addedLength_129 (tv_sh b23.1 b23.2) b25.1 b25.2 ?_
    obtain ⟨b27, h⟩ := h
    refine r_isub dX4_addedLength_130 b27 ?_
    refine r_aload_n 6 dX4_addedLength_131 rfl rfl ?_
    refine r_getR (j := 12) dX4_addedLength_132 sh_1 rfl kc_4 (by decide) lf_X4_51 ?_
    refine r_iload 1 dX4_addedLength_135 rfl ?_
    obtain ⟨b28, h⟩ := h
    refine r_aald dX4_addedLength_137 sh_11 (fun _ => rfl) rfl b28.1 (tv_at b28.1 b28.2) ?_
    refine r_iload 4 dX4_addedLength_138 rfl ?_
    obtain ⟨b29, h⟩ := h
    refine r_iald dX4_addedLength_140 (tv_sh b28.1 b28.2) b29.1 b29.2 ?_
    obtain ⟨b30, h⟩ := h
    refine r_iadd dX4_addedLength_141 b30 ?_
    refine r_aload_n 6 dX4_addedLength_142 rfl rfl ?_
    refine r_getR (j := 12) dX4_addedLength_143 sh_1 rfl kc_4 (by decide) lf_X4_51 ?_
    refine r_iload 4 dX4_addedLength_146 rfl ?_
    refine r_aald dX4_addedLength_148 sh_11 (fun _ => rfl) rfl b29.1 (tv_at b29.1 b29.2) ?_
    refine r_iload 0 dX4_addedLength_149 rfl ?_
    obtain ⟨b31, h⟩ := h
    refine r_iald dX4_addedLength_151 (tv_sh b29.1 b29.2) b31.1 b31.2 ?_
    obtain ⟨b32, h⟩ := h
    refine r_iadd dX4_addedLength_152 b32 ?_
    refine r_aload_n 6 dX4_addedLength_153 rfl rfl ?_
    refine r_getR (j := 12) dX4_addedLength_154 sh_1 rfl kc_4 (by decide) lf_X4_51 ?_
    refine r_iload 1 dX4_addedLength_157 rfl ?_
    refine r_aald dX4_addedLength_159 sh_11 (fun _ => rfl) rfl b28.1 (tv_at b28.1 b28.2) ?_
    refine r_iload 0 dX4_addedLength_160 rfl ?_
    refine r_iald dX4_addedLength_162 (tv_sh b28.1 b28.2) b31.1 b31.2 ?_
    obtain ⟨b33, h⟩ := h
    refine r_isub dX4_addedLength_163 b33 ?_
    exact r_iret dX4_addedLength_164 rfl ⟨_, rfl, h⟩
set_option maxRecDepth 100000 in
set_option maxHeartbeats 4000000 in
theorem clX5_become (l : Launch) (G : GT) (σ : Sto) (Q : Sto → Prop) (x0 : Nat) (x1 : Nat) (hx0 : isRt x0) (hx1 : isRt x1)
    (h : Q (cpS (stS (stS (stS σ x0 0 (σ x1 0)) x0 1 ((stS σ x0 0 (σ x1 0)) x1 1)) x0 2 ((stS (stS σ x0 0 (σ x1 0)) x0 1 ((stS σ x0 0 (σ x1 0)) x1 1)) x1 2)) (x1 + 4) (x0 + 4) 24)) :
    CLv l G mX5_become [vR x0, vR x1] σ Q := by
  show MWv l G mX5_become 0 [(0, vR x0), (1, vR x1)] [] σ Q
  refine r_aload_n 0 dX5_become_0 rfl rfl ?_
  refine r_aload_n 1 dX5_become_1 rfl rfl ?_
  refine r_getI (j := 0) dX5_become_2 hx1.1 rfl kc_5 (by decide) lf_X5_19 ?_
  refine r_putI (j := 0) dX5_become_5 hx0.1 rfl kc_5 (by decide) lf_X5_19 rfl (by decide) ?_
  refine r_aload_n 0 dX5_become_8 rfl rfl ?_
  refine r_aload_n 1 dX5_become_9 rfl rfl ?_
  refine r_getI (j := 1) dX5_become_10 hx1.1 rfl kc_5 (by decide) lf_X5_22 ?_
  refine r_putI (j := 1) dX5_become_13 hx0.1 rfl kc_5 (by decide) lf_X5_22 rfl (by decide) ?_
  refine r_aload_n 0 dX5_become_16 rfl rfl ?_
  refine r_aload_n 1 dX5_become_17 rfl rfl ?_
  refine r_getI (j := 2) dX5_become_18 hx1.1 rfl kc_5 (by decide) lf_X5_9 ?_
  refine r_putI (j := 2) dX5_become_21 hx0.1 rfl kc_5 (by decide) lf_X5_9 rfl (by decide) ?_
  refine r_aload_n 1 dX5_become_24 rfl rfl ?_
  refine r_getR (j := 3) dX5_become_25 hx1.1 rfl kc_5 (by decide) lf_X5_15 ?_
  refine r_iconst dX5_become_28 (by decide) ?_
  refine r_aload_n 0 dX5_become_29 rfl rfl ?_
  refine r_getR (j := 3) dX5_become_30 hx0.1 rfl kc_5 (by decide) lf_X5_15 ?_
  refine r_iconst dX5_become_33 (by decide) ?_
  refine r_bipush dX5_become_34 (by decide) (by decide) ?_
  refine r_copy dX5_become_36 lm_X5_25 w_cpy hx1.2 hx0.2 (by decide) (by decide) (by decide) ⟨Nat.le_of_ble_eq_true rfl, Nat.le_of_ble_eq_true rfl⟩ ?_
  exact r_vret dX5_become_39 rfl ⟨rfl, h⟩
set_option maxRecDepth 100000 in
set_option maxHeartbeats 4000000 in
theorem clX5_placeAt (l : Launch) (G : GT) (σ : Sto) (Q : Int → Sto → Prop) (x0 : Nat) (x1 : Int) (hx0 : isRt x0)
    (h : ((¬ (x1 < 0) → (¬ ((σ x0 2) ≤ x1) → (0 ≤ x1 ∧ x1 < 24) ∧ True))) ∧ ∀ y5 : Int, y5 = (if x1 < 0 then (σ x0 1) else (if (σ x0 2) ≤ x1 then (σ x0 1) else (σ (x0 + 4) x1.toNat))) → Q y5 σ) :
    CLi l G mX5_placeAt [vR x0, vI x1] σ Q := by
  show MWi l G mX5_placeAt 0 [(0, vR x0), (1, vI x1)] [] σ Q
  refine r_iload_n 1 dX5_placeAt_0 rfl rfl ?_
  obtain ⟨q4, h⟩ := h
  obtain ⟨y5, ey5⟩ : ∃ z : Int, z = (if x1 < 0 then (σ x0 1) else (if (σ x0 2) ≤ x1 then (σ x0 1) else (σ (x0 + 4) x1.toNat))) := ⟨_, rfl⟩
  replace h := h y5 ey5
  have hj6 : MWi l G mX5_placeAt 25 [] [vI y5] σ Q := by
    exact r_iret dX5_placeAt_25 rfl ⟨_, rfl, h⟩
  replace h := q4
  refine r_if_lt (tgt := 21) dX5_placeAt_1 (by decide) (fun (c1 : x1 < 0) => ?_) (fun (c1 : ¬ (x1 < 0)) => ?_)
  · refine r_aload_n 0 dX5_placeAt_21 rfl rfl ?_
    refine r_getI (j := 1) dX5_placeAt_22 hx0.1 rfl kc_5 (by decide) lf_X5_22 ?_
    refine MWF.sub [] rfl ?_
    have q7 : y5 = (σ x0 1) := by rw [ey5, if_pos c1]
    rw [q7] at hj6
    exact hj6
  · replace h := h c1
    refine r_iload_n 1 dX5_placeAt_4 rfl rfl ?_
    refine r_aload_n 0 dX5_placeAt_5 rfl rfl ?_
    refine r_getI (j := 2) dX5_placeAt_6 hx0.1 rfl kc_5 (by decide) lf_X5_9 ?_
    refine r_icmp_ge (tgt := 21) dX5_placeAt_9 (by decide) (fun (c2 : (σ x0 2) ≤ x1) => ?_) (fun (c2 : ¬ ((σ x0 2) ≤ x1)) => ?_)
    · refine r_aload_n 0 dX5_placeAt_21 rfl rfl ?_
      refine r_getI (j := 1) dX5_placeAt_22 hx0.1 rfl kc_5 (by decide) lf_X5_22 ?_
      refine MWF.sub [] rfl ?_
      have q8 : y5 = (σ x0 1) := by rw [ey5, if_neg c1, if_pos c2]
      rw [q8] at hj6
      exact hj6
    · replace h := h c2
      refine r_aload_n 0 dX5_placeAt_12 rfl rfl ?_
      refine r_getR (j := 3) dX5_placeAt_13 hx0.1 rfl kc_5 (by decide) lf_X5_15 ?_
      refine r_iload_n 1 dX5_placeAt_16 rfl rfl ?_
      obtain ⟨b3, h⟩ := h
      refine r_iald dX5_placeAt_17 hx0.2 b3.1 b3.2 ?_
      refine r_goto (tgt := 25) dX5_placeAt_18 (by decide) ?_
      refine MWF.sub [] rfl ?_
      have q9 : y5 = (σ (x0 + 4) x1.toNat) := by rw [ey5, if_neg c1, if_neg c2]
      rw [q9] at hj6
      exact hj6
set_option maxRecDepth 100000 in
set_option maxHeartbeats 4000000 in
theorem clX5_put (l : Launch) (G : GT) (σ : Sto) (Q : Sto → Prop) (x0 : Nat) (x1 : Int) (x2 : Int) (x3 : Int) (hx0 : isRt x0)
    (h : (-2147483648 ≤ (σ x0 2) + 2 ∧ (σ x0 2) + 2 ≤ 2147483647) ∧ (24 < ((σ x0 2) + 2) → Q σ) ∧ (¬ (24 < ((σ x0 2) + 2)) → (x2 < 0 → Q σ) ∧ (¬ (x2 < 0) → (x3 ≤ x2 → Q σ) ∧ (¬ (x3 ≤ x2) → (-2147483648 ≤ (σ x0 2) + 1 ∧ (σ x0 2) + 1 ≤ 2147483647) ∧ (x3 ≤ ((σ x0 2) + 1) → MWv l G mX5_put 39 [(0, vR x0), (1, vI x1), (2, vI x2), (3, vI x3), (4, vI ((σ x0 2) + 1))] [] σ Q) ∧ (¬ (x3 ≤ ((σ x0 2) + 1)) → Q σ))))) :
    CLv l G mX5_put [vR x0, vI x1, vI x2, vI x3] σ Q := by
  show MWv l G mX5_put 0 [(0, vR x0), (1, vI x1), (2, vI x2), (3, vI x3)] [] σ Q
  refine r_aload_n 0 dX5_put_0 rfl rfl ?_
  refine r_getI (j := 2) dX5_put_1 hx0.1 rfl kc_5 (by decide) lf_X5_9 ?_
  refine r_iconst dX5_put_4 (by decide) ?_
  obtain ⟨b1, h⟩ := h
  refine r_iadd dX5_put_5 b1 ?_
  refine r_bipush dX5_put_6 (by decide) (by decide) ?_
  refine r_icmp_gt (tgt := 30) dX5_put_8 (by decide) (fun (c2 : 24 < ((σ x0 2) + 2)) => ?_) (fun (c2 : ¬ (24 < ((σ x0 2) + 2))) => ?_)
  · replace h := h.1 c2
    exact r_vret dX5_put_30 rfl ⟨rfl, h⟩
  · replace h := h.2 c2
    refine r_iload_n 2 dX5_put_11 rfl rfl ?_
    refine r_if_lt (tgt := 30) dX5_put_12 (by decide) (fun (c3 : x2 < 0) => ?_) (fun (c3 : ¬ (x2 < 0)) => ?_)
    · replace h := h.1 c3
      exact r_vret dX5_put_30 rfl ⟨rfl, h⟩
    · replace h := h.2 c3
      refine r_iload_n 3 dX5_put_15 rfl rfl ?_
      refine r_iload_n 2 dX5_put_16 rfl rfl ?_
      refine r_icmp_le (tgt := 30) dX5_put_17 (by decide) (fun (c4 : x3 ≤ x2) => ?_) (fun (c4 : ¬ (x3 ≤ x2)) => ?_)
      · replace h := h.1 c4
        exact r_vret dX5_put_30 rfl ⟨rfl, h⟩
      · replace h := h.2 c4
        refine r_iload_n 3 dX5_put_20 rfl rfl ?_
        refine r_aload_n 0 dX5_put_21 rfl rfl ?_
        refine r_getI (j := 2) dX5_put_22 hx0.1 rfl kc_5 (by decide) lf_X5_9 ?_
        refine r_iconst dX5_put_25 (by decide) ?_
        obtain ⟨b5, h⟩ := h
        refine r_iadd dX5_put_26 b5 ?_
        refine r_icmp_le (tgt := 31) dX5_put_27 (by decide) (fun (c6 : x3 ≤ ((σ x0 2) + 1)) => ?_) (fun (c6 : ¬ (x3 ≤ ((σ x0 2) + 1))) => ?_)
        · replace h := h.1 c6
          refine r_aload_n 0 dX5_put_31 rfl rfl ?_
          refine r_getI (j := 2) dX5_put_32 hx0.1 rfl kc_5 (by decide) lf_X5_9 ?_
          refine r_iconst dX5_put_35 (by decide) ?_
          refine r_iadd dX5_put_36 b5 ?_
          refine r_istore dX5_put_37 (by decide) rfl ?_
          refine MWF.sub [1, 2, 3, 4, 0] rfl ?_
          exact h
        · replace h := h.2 c6
          exact r_vret dX5_put_30 rfl ⟨rfl, h⟩
set_option maxRecDepth 100000 in
set_option maxHeartbeats 4000000 in
theorem vcX5_put_39 (l : Launch) (G : GT) (σ : Sto) (Q : Sto → Prop) (x0 : Nat) (x1 : Int) (x2 : Int) (x3 : Int) (x4 : Int) (hx0 : isRt x0)
    (h : (x4 ≤ x3 → (-2147483648 ≤ x3 - 1 ∧ x3 - 1 ≤ 2147483647) ∧ MWv l G mX5_put 72 [(0, vR x0), (1, vI x1), (2, vI x2), (3, vI x3), (4, vI (x3 - 1))] [] σ Q) ∧ (¬ (x4 ≤ x3) → (-2147483648 ≤ x4 - 2 ∧ x4 - 2 ≤ 2147483647) ∧ (0 ≤ (x4 - 2) ∧ (x4 - 2) < 24) ∧ (0 ≤ x4 ∧ x4 < 24) ∧ (-2147483648 ≤ x4 + (-1) ∧ x4 + (-1) ≤ 2147483647) ∧ MWv l G mX5_put 39 [(0, vR x0), (1, vI x1), (2, vI x2), (3, vI x3), (4, vI (x4 + (-1)))] [] (stS σ (x0 + 4) x4.toNat (σ (x0 + 4) (x4 - 2).toNat)) Q)) :
    MWv l G mX5_put 39 [(0, vR x0), (1, vI x1), (2, vI x2), (3, vI x3), (4, vI x4)] [] σ Q := by
  refine r_iload 4 dX5_put_39 rfl ?_
  refine r_iload_n 3 dX5_put_41 rfl rfl ?_
  refine r_icmp_le (tgt := 67) dX5_put_42 (by decide) (fun (c7 : x4 ≤ x3) => ?_) (fun (c7 : ¬ (x4 ≤ x3)) => ?_)
  · replace h := h.1 c7
    refine r_iload_n 3 dX5_put_67 rfl rfl ?_
    refine r_iconst dX5_put_68 (by decide) ?_
    obtain ⟨b8, h⟩ := h
    refine r_isub dX5_put_69 b8 ?_
    refine r_istore dX5_put_70 (by decide) rfl ?_
    refine MWF.sub [1, 2, 3, 4, 0] rfl ?_
    exact h
  · replace h := h.2 c7
    refine r_aload_n 0 dX5_put_45 rfl rfl ?_
    refine r_getR (j := 3) dX5_put_46 hx0.1 rfl kc_5 (by decide) lf_X5_15 ?_
    refine r_iload 4 dX5_put_49 rfl ?_
    refine r_aload_n 0 dX5_put_51 rfl rfl ?_
    refine r_getR (j := 3) dX5_put_52 hx0.1 rfl kc_5 (by decide) lf_X5_15 ?_
    refine r_iload 4 dX5_put_55 rfl ?_
    refine r_iconst dX5_put_57 (by decide) ?_
    obtain ⟨b9, h⟩ := h
    refine r_isub dX5_put_58 b9 ?_
    obtain ⟨b10, h⟩ := h
    refine r_iald dX5_put_59 hx0.2 b10.1 b10.2 ?_
    obtain ⟨b11, h⟩ := h
    refine r_iast dX5_put_60 hx0.2 b11.1 b11.2 ?_
    obtain ⟨b12, h⟩ := h
    refine r_iinc 4 dX5_put_61 rfl (by decide) b12 rfl ?_
    refine r_goto (tgt := 39) dX5_put_64 (by decide) ?_
    refine MWF.sub [1, 2, 3, 4, 0] rfl ?_
    exact h
set_option maxRecDepth 100000 in
set_option maxHeartbeats 4000000 in
theorem vcX5_put_72 (l : Launch) (G : GT) (σ : Sto) (Q : Sto → Prop) (x0 : Nat) (x1 : Int) (x2 : Int) (x3 : Int) (x4 : Int) (hx0 : isRt x0)
    (h : (x4 ≤ x2 → (-2147483648 ≤ 2 * x1 ∧ 2 * x1 ≤ 2147483647) ∧ (0 ≤ x2 ∧ x2 < 24) ∧ (-2147483648 ≤ (2 * x1) + 1 ∧ (2 * x1) + 1 ≤ 2147483647) ∧ (0 ≤ x3 ∧ x3 < 24) ∧ (-2147483648 ≤ (σ x0 2) + 2 ∧ (σ x0 2) + 2 ≤ 2147483647) ∧ Q (stS (stS (stS σ (x0 + 4) x2.toNat (2 * x1)) (x0 + 4) x3.toNat ((2 * x1) + 1)) x0 2 ((σ x0 2) + 2))) ∧ (¬ (x4 ≤ x2) → (-2147483648 ≤ x4 - 1 ∧ x4 - 1 ≤ 2147483647) ∧ (0 ≤ (x4 - 1) ∧ (x4 - 1) < 24) ∧ (0 ≤ x4 ∧ x4 < 24) ∧ (-2147483648 ≤ x4 + (-1) ∧ x4 + (-1) ≤ 2147483647) ∧ MWv l G mX5_put 72 [(0, vR x0), (1, vI x1), (2, vI x2), (3, vI x3), (4, vI (x4 + (-1)))] [] (stS σ (x0 + 4) x4.toNat (σ (x0 + 4) (x4 - 1).toNat)) Q)) :
    MWv l G mX5_put 72 [(0, vR x0), (1, vI x1), (2, vI x2), (3, vI x3), (4, vI x4)] [] σ Q := by
  refine r_iload 4 dX5_put_72 rfl ?_
  refine r_iload_n 2 dX5_put_74 rfl rfl ?_
  refine r_icmp_le (tgt := 100) dX5_put_75 (by decide) (fun (c13 : x4 ≤ x2) => ?_) (fun (c13 : ¬ (x4 ≤ x2)) => ?_)
  · replace h := h.1 c13
    refine r_aload_n 0 dX5_put_100 rfl rfl ?_
    refine r_getR (j := 3) dX5_put_101 hx0.1 rfl kc_5 (by decide) lf_X5_15 ?_
    refine r_iload_n 2 dX5_put_104 rfl rfl ?_
    refine r_iconst dX5_put_105 (by decide) ?_
    refine r_iload_n 1 dX5_put_106 rfl rfl ?_
    obtain ⟨b14, h⟩ := h
    refine r_imul dX5_put_107 b14 ?_
    obtain ⟨b15, h⟩ := h
    refine r_iast dX5_put_108 hx0.2 b15.1 b15.2 ?_
    refine r_aload_n 0 dX5_put_109 rfl rfl ?_
    refine r_getR (j := 3) dX5_put_110 hx0.1 rfl kc_5 (by decide) lf_X5_15 ?_
    refine r_iload_n 3 dX5_put_113 rfl rfl ?_
    refine r_iconst dX5_put_114 (by decide) ?_
    refine r_iload_n 1 dX5_put_115 rfl rfl ?_
    refine r_imul dX5_put_116 b14 ?_
    refine r_iconst dX5_put_117 (by decide) ?_
    obtain ⟨b16, h⟩ := h
    refine r_iadd dX5_put_118 b16 ?_
    obtain ⟨b17, h⟩ := h
    refine r_iast dX5_put_119 hx0.2 b17.1 b17.2 ?_
    refine r_aload_n 0 dX5_put_120 rfl rfl ?_
    refine r_dup dX5_put_121 ?_
    refine r_getI (j := 2) dX5_put_122 hx0.1 rfl kc_5 (by decide) lf_X5_9 ?_
    refine MWF.top ((stS_ne (shne_oa hx0.1 hx0.2)).trans (stS_ne (shne_oa hx0.1 hx0.2))) ?_
    refine r_iconst dX5_put_125 (by decide) ?_
    obtain ⟨b18, h⟩ := h
    refine r_iadd dX5_put_126 b18 ?_
    refine r_putI (j := 2) dX5_put_127 hx0.1 rfl kc_5 (by decide) lf_X5_9 rfl (by decide) ?_
    exact r_vret dX5_put_130 rfl ⟨rfl, h⟩
  · replace h := h.2 c13
    refine r_aload_n 0 dX5_put_78 rfl rfl ?_
    refine r_getR (j := 3) dX5_put_79 hx0.1 rfl kc_5 (by decide) lf_X5_15 ?_
    refine r_iload 4 dX5_put_82 rfl ?_
    refine r_aload_n 0 dX5_put_84 rfl rfl ?_
    refine r_getR (j := 3) dX5_put_85 hx0.1 rfl kc_5 (by decide) lf_X5_15 ?_
    refine r_iload 4 dX5_put_88 rfl ?_
    refine r_iconst dX5_put_90 (by decide) ?_
    obtain ⟨b19, h⟩ := h
    refine r_isub dX5_put_91 b19 ?_
    obtain ⟨b20, h⟩ := h
    refine r_iald dX5_put_92 hx0.2 b20.1 b20.2 ?_
    obtain ⟨b21, h⟩ := h
    refine r_iast dX5_put_93 hx0.2 b21.1 b21.2 ?_
    obtain ⟨b22, h⟩ := h
    refine r_iinc 4 dX5_put_94 rfl (by decide) b22 rfl ?_
    refine r_goto (tgt := 72) dX5_put_97 (by decide) ?_
    refine MWF.sub [1, 2, 3, 4, 0] rfl ?_
    exact h
set_option maxRecDepth 100000 in
set_option maxHeartbeats 4000000 in
theorem clX5_take (l : Launch) (G : GT) (σ : Sto) (Q : Sto → Prop) (x0 : Nat) (x1 : Int) (hx0 : isRt x0)
    (h : MWv l G mX5_take 4 [(0, vR x0), (1, vI x1), (2, vI 0), (3, vI 0)] [] σ Q) :
    CLv l G mX5_take [vR x0, vI x1] σ Q := by
  show MWv l G mX5_take 0 [(0, vR x0), (1, vI x1)] [] σ Q
  refine r_iconst dX5_take_0 (by decide) ?_
  refine r_istore_n dX5_take_1 rfl (by decide) rfl ?_
  refine r_iconst dX5_take_2 (by decide) ?_
  refine r_istore_n dX5_take_3 rfl (by decide) rfl ?_
  refine MWF.sub [2, 3, 1, 0] rfl ?_
  exact h
set_option maxRecDepth 100000 in
set_option maxHeartbeats 4000000 in
theorem vcX5_take_4 (l : Launch) (G : GT) (σ : Sto) (Q : Sto → Prop) (x0 : Nat) (x1 : Int) (x2 : Int) (x3 : Int) (hx0 : isRt x0)
    (h : ((σ x0 2) ≤ x3 → Q (stS σ x0 2 x2)) ∧ (¬ ((σ x0 2) ≤ x3) → (0 ≤ x3 ∧ x3 < 24) ∧ (0 ≤ (σ (x0 + 4) x3.toNat)) ∧ ((¬ (((σ (x0 + 4) x3.toNat) / 2) = x1) → (0 ≤ x2 ∧ x2 < 24) ∧ (-2147483648 ≤ x2 + 1 ∧ x2 + 1 ≤ 2147483647) ∧ True)) ∧ ∀ y8 : Int, y8 = (if ((σ (x0 + 4) x3.toNat) / 2) = x1 then x2 else (x2 + 1)) → ∀ s9 : Sto, s9 = (if ((σ (x0 + 4) x3.toNat) / 2) = x1 then σ else (stS σ (x0 + 4) x2.toNat (σ (x0 + 4) x3.toNat))) → (-2147483648 ≤ x3 + 1 ∧ x3 + 1 ≤ 2147483647) ∧ MWv l G mX5_take 4 [(0, vR x0), (1, vI x1), (2, vI y8), (3, vI (x3 + 1))] [] s9 Q)) :
    MWv l G mX5_take 4 [(0, vR x0), (1, vI x1), (2, vI x2), (3, vI x3)] [] σ Q := by
  refine r_iload_n 3 dX5_take_4 rfl rfl ?_
  refine r_aload_n 0 dX5_take_5 rfl rfl ?_
  refine r_getI (j := 2) dX5_take_6 hx0.1 rfl kc_5 (by decide) lf_X5_9 ?_
  refine r_icmp_ge (tgt := 45) dX5_take_9 (by decide) (fun (c1 : (σ x0 2) ≤ x3) => ?_) (fun (c1 : ¬ ((σ x0 2) ≤ x3)) => ?_)
  · replace h := h.1 c1
    refine r_aload_n 0 dX5_take_45 rfl rfl ?_
    refine r_iload_n 2 dX5_take_46 rfl rfl ?_
    refine r_putI (j := 2) dX5_take_47 hx0.1 rfl kc_5 (by decide) lf_X5_9 rfl (by decide) ?_
    exact r_vret dX5_take_50 rfl ⟨rfl, h⟩
  · replace h := h.2 c1
    refine r_aload_n 0 dX5_take_12 rfl rfl ?_
    refine r_getR (j := 3) dX5_take_13 hx0.1 rfl kc_5 (by decide) lf_X5_15 ?_
    refine r_iload_n 3 dX5_take_16 rfl rfl ?_
    obtain ⟨b2, h⟩ := h
    refine r_iald dX5_take_17 hx0.2 b2.1 b2.2 ?_
    refine r_iconst dX5_take_18 (by decide) ?_
    obtain ⟨b3, h⟩ := h
    refine r_idiv dX5_take_19 b3 (by decide) ?_
    refine r_iload_n 1 dX5_take_20 rfl rfl ?_
    obtain ⟨q7, h⟩ := h
    obtain ⟨y8, ey8⟩ : ∃ z : Int, z = (if ((σ (x0 + 4) x3.toNat) / 2) = x1 then x2 else (x2 + 1)) := ⟨_, rfl⟩
    replace h := h y8 ey8
    obtain ⟨s9, es9⟩ : ∃ z : Sto, z = (if ((σ (x0 + 4) x3.toNat) / 2) = x1 then σ else (stS σ (x0 + 4) x2.toNat (σ (x0 + 4) x3.toNat))) := ⟨_, rfl⟩
    replace h := h s9 es9
    have hj10 : MWv l G mX5_take 39 [(0, vR x0), (1, vI x1), (2, vI y8), (3, vI x3)] [] s9 Q := by
      obtain ⟨b15, h⟩ := h
      refine r_iinc 3 dX5_take_39 rfl (by decide) b15 rfl ?_
      refine r_goto (tgt := 4) dX5_take_42 (by decide) ?_
      refine MWF.sub [1, 2, 3, 0] rfl ?_
      exact h
    replace h := q7
    refine r_icmp_eq (tgt := 39) dX5_take_21 (by decide) (fun (c4 : ((σ (x0 + 4) x3.toNat) / 2) = x1) => ?_) (fun (c4 : ¬ (((σ (x0 + 4) x3.toNat) / 2) = x1)) => ?_)
    · refine MWF.sub [0, 1, 2, 3] rfl ?_
      have q11 : y8 = x2 := by rw [ey8, if_pos c4]
      rw [q11] at hj10
      have q12 : s9 = σ := by rw [es9, if_pos c4]
      rw [q12] at hj10
      exact hj10
    · replace h := h c4
      refine r_aload_n 0 dX5_take_24 rfl rfl ?_
      refine r_getR (j := 3) dX5_take_25 hx0.1 rfl kc_5 (by decide) lf_X5_15 ?_
      refine r_iload_n 2 dX5_take_28 rfl rfl ?_
      refine r_aload_n 0 dX5_take_29 rfl rfl ?_
      refine r_getR (j := 3) dX5_take_30 hx0.1 rfl kc_5 (by decide) lf_X5_15 ?_
      refine r_iload_n 3 dX5_take_33 rfl rfl ?_
      refine r_iald dX5_take_34 hx0.2 b2.1 b2.2 ?_
      obtain ⟨b5, h⟩ := h
      refine r_iast dX5_take_35 hx0.2 b5.1 b5.2 ?_
      obtain ⟨b6, h⟩ := h
      refine r_iinc 2 dX5_take_36 rfl (by decide) b6 rfl ?_
      refine MWF.sub [1, 2, 0, 3] rfl ?_
      have q13 : y8 = (x2 + 1) := by rw [ey8, if_neg c4]
      rw [q13] at hj10
      have q14 : s9 = (stS σ (x0 + 4) x2.toNat (σ (x0 + 4) x3.toNat)) := by rw [es9, if_neg c4]
      rw [q14] at hj10
      exact hj10

