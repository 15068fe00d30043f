section LAWC
variable {l : Launch} {G : GT} {D : Sto} {p : PL} {hs : List PL} {σ0 σ : Sto} {Q : Int → Sto → Prop}
theorem k_plan (hV : Val (D, p, hs)) (hM : rM σ0 D) (h : BI σ0 σ (D, p, hs)) (hQ : ∀ σ', BI σ0 σ' (D, p, hs) → Q 1 σ') : CLi l G mL_plan [vR 0, vR 56] σ Q := by
  have hD : DOK D := hV.1
  have nb := nv_b hD
  have tb := tl_5k hD (VP hV)
  have ob := opn_b p
  have sme := smN_e hD (VP hV)
  have s61 : ∀ (m r : Nat) (x4 x5 : Int) (σ1 : Sto), r + m = nrN D → x5 = r → x4 = opn p r → BI σ0 σ1 (D, p, hs) → MWi l G mL_plan 61 [(0, vR 0), (1, vR 56), (2, vI (tl D p)), (3, vI (smN p (nvN D))), (4, vI x4), (5, vI x5)] [] σ1 Q := by
    intro m
    induction m with
    | zero =>
      intro r x4 x5 σ1 hr h5 h4 i1
      obtain rfl : r = nrN D := by omega
      have o1 := ob (nrN D)
      refine vcL_plan_61 l G σ1 Q _ _ x4 x5 (q_count hV i1 fc_1 (fun σ2 i2 => ⟨fun _ => ?_, fun c => absurd (by omega) c⟩))
      refine q_count hV i2 fc_3 (fun σ3 i3 => ⟨fun _ => q_count hV i3 fc_2 (fun σ4 i4 => ⟨fun _ => q_count hV i4 fc_1 (fun σ5 i5 => ⟨by omega, by omega, fun y hy => ?_⟩), fun c => absurd h4.symm c⟩), fun c => absurd rfl c⟩)
      rw [if_pos (by rw [sme, h4, nb.2.2.2])] at hy
      rw [hy]; exact hQ σ5 i5
    | succ m ih =>
      intro r x4 x5 σ1 hr h5 h4 i1
      have hrn : r < nrN D := by omega
      have o1 := ob r
      have os : opn p (r + 1) = if p.2.2 r = -1 then opn p r + 1 else opn p r := rfl
      refine vcL_plan_61 l G σ1 Q _ _ x4 x5 (q_count hV i1 fc_1 (fun σ2 i2 => ⟨fun c => absurd c (by omega), fun _ => ?_⟩))
      by_cases c : p.2.2 r = -1
      · rw [if_pos c] at os
        refine q_req hV i2 h5 (fr_0 hrn) (fun σ3 i3 y hy z hz => ?_)
        rw [if_pos c, if_pos rfl] at hy
        rw [if_neg (by omega)] at hz
        refine ⟨by omega, q_ride hV i3 h5 (fq_o hrn c 0) (fun σ4 i4 w hw => ?_)⟩
        rw [if_pos rfl] at hw
        refine ⟨fun _ => q_req hV i4 h5 (fr_7 hrn) (fun σ5 i5 => ⟨by omega, by omega, k_farS hD (rM_fr hM i5.2) (a := 2 * r) (b := 2 * r + 1) (by omega) (by omega) (by omega) (by omega) ⟨fun _ => ⟨by omega, ih (r + 1) _ _ σ5 (by omega) (by omega) (by omega) i5⟩, fun c => absurd rfl c⟩⟩), fun c => absurd (by omega) c⟩
      · rw [if_neg c] at os
        obtain ⟨v, a1, a2, a3, i, j, hij, hj, g1, g2⟩ := ((VP hV).2.2.1 r (by omega)).resolve_left c
        have hf := VF hV a1
        obtain ⟨hE, -⟩ := FE_L hf
        obtain ⟨x1, -⟩ := fq_a (hs := hs) (VP hV) hrn a1 a3 (by omega) hj g1 g2
        have fr := SC_far hD hE.1 i (j - i - 1) (by omega)
        rw [show i + (j - i - 1) + 1 = j by omega] at fr
        have d0 := ds_0 D (p.2.1 v i) (p.2.1 v j)
        refine q_req hV i2 h5 (fr_0 hrn) (fun σ3 i3 y hy z hz => ?_)
        rw [if_neg c, if_neg (by omega)] at hy
        rw [if_pos hy] at hz
        refine ⟨by omega, q_ride hV i3 h5 x1 (fun σ4 i4 w hw => ?_)⟩
        rw [if_neg (by omega)] at hw
        refine ⟨fun _ => q_req hV i4 h5 (fr_7 hrn) (fun σ5 i5 => ⟨by omega, by omega, k_farS hD (rM_fr hM i5.2) (a := 2 * r) (b := 2 * r + 1) (by omega) (by omega) (by omega) (by omega) ⟨fun _ => ⟨by omega, ih (r + 1) _ _ σ5 (by omega) (by omega) (by omega) i5⟩, fun c => absurd rfl c⟩⟩), fun c => absurd (by omega) c⟩
  have s7 : ∀ (m v : Nat) (x2 x3 x4 : Int) (σ1 : Sto), v + m = nvN D → x4 = v → x2 = ptot D p v → x3 = smN p v → BI σ0 σ1 (D, p, hs) → MWi l G mL_plan 7 [(0, vR 0), (1, vR 56), (2, vI x2), (3, vI x3), (4, vI x4)] [] σ1 Q := by
    intro m
    induction m with
    | zero =>
      intro v x2 x3 x4 σ1 hv h4 h2 h3 i1
      obtain rfl : v = nvN D := by omega
      refine vcL_plan_7 l G σ1 Q x2 x3 x4 (q_count hV i1 fc_0 (fun σ2 i2 => ⟨fun _ => ?_, fun c => absurd (by omega) c⟩))
      rw [h2, h3]
      exact s61 (nrN D) 0 _ _ σ2 (by omega) rfl rfl i2
    | succ m ih =>
      intro v x2 x3 x4 σ1 hv h4 h2 h3 i1
      have hvn : v < nvN D := by omega
      have b1 := ptot_b hD (VP hV) v (by omega)
      have b2 := rl_b hD (v := v) (by omega) (VW hV (v := v) (by omega))
      have b3 := (VW hV (v := v) (by omega)).1
      have b4 : ∀ k, k ≤ 4 → 0 ≤ smN p k ∧ smN p k ≤ 24 * (k : Int) := by
        intro k
        induction k with
        | zero => intro _; simp [smN, sm]
        | succ k ihk =>
          intro hk
          have a := ihk (by omega)
          have b := (VW hV (v := k) (by omega)).1
          have e : smN p (k + 1) = smN p k + (p.1 k : Int) := rfl
          omega
      have b5 := b4 v (by omega)
      refine vcL_plan_7 l G σ1 Q x2 x3 x4 (q_count hV i1 fc_0 (fun σ2 i2 => ⟨fun c => absurd c (by omega), fun _ => ?_⟩))
      refine k_route hV hM hvn i2 h4 (fun σ3 i3 => ⟨fun c => absurd c (by decide), fun _ => ?_⟩)
      refine q_veh hV i3 hvn h4 (fv_4 hvn) (fun σ4 i4 => ⟨by omega, q_veh hV i4 hvn h4 (fv_3 hvn) (fun σ5 i5 => ⟨by omega, by omega, ih (v + 1) _ _ _ σ5 (by omega) (by omega) ?_ ?_ i5⟩)⟩)
      · rw [h2]; rfl
      · rw [h3]; rfl
  exact clL_plan l G σ Q (s7 (nvN D) 0 _ _ _ σ (by omega) rfl rfl rfl h)
theorem q_addV (hV : Val (D, p, hs)) (h : BI σ0 σ (D, p, hs)) {a b c d e x : Int} (hx : f_addV (D, p, hs) a b c d e = (x, (D, p, hs))) (hQ : ∀ σ', BI σ0 σ' (D, p, hs) → Q x σ') : CLi l G mX7_addVehicle [vR 0, vI a, vI b, vI c, vI d, vI e] σ Q :=
  c_addV hV h.1 (fun σ' i f => by rw [hx] at i ⊢; exact hQ σ' ⟨i, frC_t h.2 f⟩)
theorem q_addR (hV : Val (D, p, hs)) (h : BI σ0 σ (D, p, hs)) {a b c d e g x : Int} (hx : f_addR (D, p, hs) a b c d e g = (x, (D, p, hs))) (hQ : ∀ σ', BI σ0 σ' (D, p, hs) → Q x σ') : CLi l G mX7_addRequest [vR 0, vI a, vI b, vI c, vI d, vI e, vI g] σ Q :=
  c_addR hV h.1 (fun σ' i f => by rw [hx] at i ⊢; exact hQ σ' ⟨i, frC_t h.2 f⟩)
theorem q_setW (hV : Val (D, p, hs)) (h : BI σ0 σ (D, p, hs)) {a b c d x : Int} (hx : f_setW (D, p, hs) a b c d = (x, (D, p, hs))) (hQ : ∀ σ', BI σ0 σ' (D, p, hs) → Q x σ') : CLi l G mX7_setWindow [vR 0, vI a, vI b, vI c, vI d] σ Q :=
  c_setW hV h.1 (fun σ' i f => by rw [hx] at i ⊢; exact hQ σ' ⟨i, frC_t h.2 f⟩)
theorem q_setM (hV : Val (D, p, hs)) (h : BI σ0 σ (D, p, hs)) {a b x : Int} (hx : f_setM (D, p, hs) a b = (x, (D, p, hs))) (hQ : ∀ σ', BI σ0 σ' (D, p, hs) → Q x σ') : CLi l G mX7_setLimit [vR 0, vI a, vI b] σ Q :=
  c_setM hV h.1 (fun σ' i f => by rw [hx] at i ⊢; exact hQ σ' ⟨i, frC_t h.2 f⟩)
theorem q_setL (hV : Val (D, p, hs)) (h : BI σ0 σ (D, p, hs)) {a b x : Int} (hx : f_setL (D, p, hs) a b = (x, (D, p, hs))) (hQ : ∀ σ', BI σ0 σ' (D, p, hs) → Q x σ') : CLi l G mX7_setLoad [vR 0, vI a, vI b] σ Q :=
  c_setL hV h.1 (fun σ' i f => by rw [hx] at i ⊢; exact hQ σ' ⟨i, frC_t h.2 f⟩)
theorem q_setS (hV : Val (D, p, hs)) (h : BI σ0 σ (D, p, hs)) {a x : Int} (hx : f_setS (D, p, hs) a = (x, (D, p, hs))) (hQ : ∀ σ', BI σ0 σ' (D, p, hs) → Q x σ') : CLi l G mX7_setService [vR 0, vI a] σ Q :=
  c_setS hV h.1 (fun σ' i f => by rw [hx] at i ⊢; exact hQ σ' ⟨i, frC_t h.2 f⟩)
theorem q_ins (hV : Val (D, p, hs)) (h : BI σ0 σ (D, p, hs)) {a b c d x : Int} (hx : f_ins (D, p, hs) a b c d = (x, (D, p, hs))) (hQ : ∀ σ', BI σ0 σ' (D, p, hs) → Q x σ') : CLi l G mX7_insert [vR 0, vI a, vI b, vI c, vI d] σ Q :=
  c_ins hV h.1 (fun σ' i f => by rw [hx] at i ⊢; exact hQ σ' ⟨i, frC_t h.2 f⟩)
theorem q_asT (hV : Val (D, p, hs)) (h : BI σ0 σ (D, p, hs)) {a b x : Int} (hx : f_asT (D, p, hs) a b = (x, (D, p, hs))) (hQ : ∀ σ', BI σ0 σ' (D, p, hs) → Q x σ') : CLi l G mX7_assignTo [vR 0, vI a, vI b] σ Q :=
  c_asT hV h.1 (fun σ' i f => by rw [hx] at i ⊢; exact hQ σ' ⟨i, frC_t h.2 f⟩)
theorem q_asg (hV : Val (D, p, hs)) (h : BI σ0 σ (D, p, hs)) {a x : Int} (hx : f_asg (D, p, hs) a = (x, (D, p, hs))) (hQ : ∀ σ', BI σ0 σ' (D, p, hs) → Q x σ') : CLi l G mX7_assign [vR 0, vI a] σ Q :=
  c_asg hV h.1 (fun σ' i f => by rw [hx] at i ⊢; exact hQ σ' ⟨i, frC_t h.2 f⟩)
theorem q_rem (hV : Val (D, p, hs)) (h : BI σ0 σ (D, p, hs)) {a x : Int} (hx : f_rem (D, p, hs) a = (x, (D, p, hs))) (hQ : ∀ σ', BI σ0 σ' (D, p, hs) → Q x σ') : CLi l G mX7_remove [vR 0, vI a] σ Q :=
  c_rem hV h.1 (fun σ' i f => by rw [hx] at i ⊢; exact hQ σ' ⟨i, frC_t h.2 f⟩)
theorem q_ch (hV : Val (D, p, hs)) (h : BI σ0 σ (D, p, hs)) {a x : Int} (hx : f_ch (D, p, hs) a = (x, (D, p, hs))) (hQ : ∀ σ', BI σ0 σ' (D, p, hs) → Q x σ') : CLi l G mX7_chain [vR 0, vI a] σ Q :=
  c_ch hV h.1 (fun σ' i f => by rw [hx] at i ⊢; exact hQ σ' ⟨i, frC_t h.2 f⟩)
theorem q_im (hV : Val (D, p, hs)) (h : BI σ0 σ (D, p, hs)) {x : Int} (hx : f_im (D, p, hs) = (x, (D, p, hs))) (hQ : ∀ σ', BI σ0 σ' (D, p, hs) → Q x σ') : CLi l G mX7_improve [vR 0] σ Q :=
  c_im hV h.1 (fun σ' i f => by rw [hx] at i ⊢; exact hQ σ' ⟨i, frC_t h.2 f⟩)
theorem qI_req (hV : Val (D, p, hs)) (h : BI σ0 σ (D, p, hs)) {r w x : Int} (hx : f_req (D, p, hs) r w = x) (hQ : ∀ σ', BI σ0 σ' (D, p, hs) → Q x σ') : CLi l G mX7_request [vR 0, vI r, vI w] σ Q :=
  c_req hV h.1 (fun σ' a b => by rw [hx]; exact hQ σ' ⟨a, frC_t h.2 b⟩)
theorem qI_veh (hV : Val (D, p, hs)) (h : BI σ0 σ (D, p, hs)) {r w x : Int} (hx : f_veh (D, p, hs) r w = x) (hQ : ∀ σ', BI σ0 σ' (D, p, hs) → Q x σ') : CLi l G mX7_vehicle [vR 0, vI r, vI w] σ Q :=
  c_veh hV h.1 (fun σ' a b => by rw [hx]; exact hQ σ' ⟨a, frC_t h.2 b⟩)
theorem qI_stop (hV : Val (D, p, hs)) (h : BI σ0 σ (D, p, hs)) {r k w x : Int} (hx : f_stop (D, p, hs) r k w = x) (hQ : ∀ σ', BI σ0 σ' (D, p, hs) → Q x σ') : CLi l G mX7_stop [vR 0, vI r, vI k, vI w] σ Q :=
  c_stop hV h.1 (fun σ' a b => by rw [hx]; exact hQ σ' ⟨a, frC_t h.2 b⟩)
theorem qI_ride (hV : Val (D, p, hs)) (h : BI σ0 σ (D, p, hs)) {r w x : Int} (hx : f_ride (D, p, hs) r w = x) (hQ : ∀ σ', BI σ0 σ' (D, p, hs) → Q x σ') : CLi l G mX7_rideTime [vR 0, vI r, vI w] σ Q :=
  c_ride hV h.1 (fun σ' a b => by rw [hx]; exact hQ σ' ⟨a, frC_t h.2 b⟩)
theorem qI_depot (hV : Val (D, p, hs)) (h : BI σ0 σ (D, p, hs)) {r w x : Int} (hx : f_depot (D, p, hs) r w = x) (hQ : ∀ σ', BI σ0 σ' (D, p, hs) → Q x σ') : CLi l G mX7_depotTime [vR 0, vI r, vI w] σ Q :=
  c_depot hV h.1 (fun σ' a b => by rw [hx]; exact hQ σ' ⟨a, frC_t h.2 b⟩)
theorem k_errors (hV : Val (D, p, hs)) (hnv : 1 ≤ nvN D) (hnr : 1 ≤ nrN D) (h : BI σ0 σ (D, p, hs)) (hQ : ∀ σ', BI σ0 σ' (D, p, hs) → Q 1 σ') : CLi l G mL_errors [vR 0] σ Q := by
  have hD : DOK D := hV.1
  have nb := nv_b hD
  have rN : ¬ isRq D (D 10 1) := fun q => by have := q.2; omega
  have rM1 : ¬ isRq D (-1) := fun q => by have := q.1; omega
  have r0 : isRq D 0 := ⟨by omega, by omega⟩
  have vN : ¬ isVh D (D 10 0) := fun q => by have := q.2; omega
  have vM1 : ¬ isVh D (-1) := fun q => by have := q.1; omega
  have v0 : isVh D 0 := ⟨by omega, by omega⟩
  have ieR : ∀ v i j, f_ie (D, p, hs) (D 10 1) v i j = -1001 := fun v i j => by unfold f_ie; rw [if_f (fun q => rN q.1)]
  have ieV : ∀ r i j, f_ie (D, p, hs) r (D 10 0) i j = -1001 := fun r i j => by unfold f_ie; rw [if_f (fun q => vN q.2)]
  have oeN : f_oe (D, p, hs) (D 10 1) = -1001 := by unfold f_oe; rw [if_f rN]
  have oeM : f_oe (D, p, hs) (-1) = -1001 := by unfold f_oe; rw [if_f rM1]
  refine clL_errors l G σ Q (q_count hV h fc_0 (fun s1 i1 => q_count hV i1 fc_1 (fun s2 i2 => ?_)))
  refine q_addV hV i2 (x := -1002) (by unfold f_addV; rw [if_f (fun q => by have := q.1.2.1; omega)]) (fun s3 i3 => ⟨fun _ => ?_, fun c => absurd rfl c⟩)
  refine q_addV hV i3 (x := -1002) (by unfold f_addV; rw [if_f (fun q => by have := q.2.1.2; omega)]) (fun s4 i4 => ⟨fun _ => ?_, fun c => absurd rfl c⟩)
  refine q_addV hV i4 (x := -1002) (by unfold f_addV; rw [if_f (fun q => by have := q.2.2.2.1; omega)]) (fun s5 i5 => ⟨fun _ => ?_, fun c => absurd rfl c⟩)
  refine q_addR hV i5 (x := -1002) (by unfold f_addR; rw [if_f (fun q => by have := q.1.2.2.1; omega)]) (fun s6 i6 => ⟨fun _ => ?_, fun c => absurd rfl c⟩)
  refine q_addR hV i6 (x := -1002) (by unfold f_addR; rw [if_f (fun q => by have := q.2.2.1.1; omega)]) (fun s7 i7 => ⟨fun _ => ?_, fun c => absurd rfl c⟩)
  refine q_addR hV i7 (x := -1002) (by unfold f_addR; rw [if_f (fun q => by have := q.2.2.2.2; omega)]) (fun s8 i8 => ⟨fun _ => ?_, fun c => absurd rfl c⟩)
  refine q_setW hV i8 (x := -1001) (by unfold f_setW; rw [if_f rN]) (fun s9 i9 => ⟨fun _ => ?_, fun c => absurd rfl c⟩)
  refine q_setW hV i9 (x := -1002) (by unfold f_setW; rw [if_t r0, if_f (fun q => by have := q.2.1; omega)]) (fun s10 i10 => ⟨fun _ => ?_, fun c => absurd rfl c⟩)
  refine q_setM hV i10 (x := -1001) (by unfold f_setM; rw [if_f rN]) (fun s11 i11 => ⟨fun _ => ?_, fun c => absurd rfl c⟩)
  refine q_setM hV i11 (x := -1002) (by unfold f_setM; rw [if_t r0, if_f (fun q => by have := q.2; omega)]) (fun s12 i12 => ⟨fun _ => ?_, fun c => absurd rfl c⟩)
  refine q_setL hV i12 (x := -1001) (by unfold f_setL; rw [if_f rM1]) (fun s13 i13 => ⟨fun _ => ?_, fun c => absurd rfl c⟩)
  refine q_setL hV i13 (x := -1002) (by unfold f_setL; rw [if_t r0, if_f (fun q => by have := q.2; omega)]) (fun s14 i14 => ⟨fun _ => ?_, fun c => absurd rfl c⟩)
  refine q_setS hV i14 (x := -1002) (by unfold f_setS; rw [if_f (fun q => by have := q.2; omega)]) (fun s15 i15 => ⟨fun _ => ?_, fun c => absurd rfl c⟩)
  refine q_count hV i15 (x := -1002) (by simp [f_count]) (fun s16 i16 => ⟨fun _ => ?_, fun c => absurd rfl c⟩)
  refine vcL_errors_209 l G s16 Q _ _ (-1001) (-1002) 1 ⟨fun c => absurd c (by decide), fun _ => ?_⟩
  refine qI_req hV i16 (x := -1001) (by unfold f_req; rw [if_f rN]) (fun s17 i17 => ⟨fun _ => ?_, fun c => absurd rfl c⟩)
  refine qI_req hV i17 (x := -1002) (by unfold f_req; rw [if_t r0]; simp) (fun s18 i18 => ⟨fun _ => ?_, fun c => absurd rfl c⟩)
  refine qI_veh hV i18 (x := -1001) (by unfold f_veh; rw [if_f vN]) (fun s19 i19 => ⟨fun _ => ?_, fun c => absurd rfl c⟩)
  refine qI_veh hV i19 (x := -1002) (by unfold f_veh; rw [if_t v0]; simp) (fun s20 i20 => ⟨fun _ => ?_, fun c => absurd rfl c⟩)
  refine qI_stop hV i20 (x := -1001) (by unfold f_stop; rw [if_f (fun q => vN q.1)]) (fun s21 i21 => ⟨fun _ => ?_, fun c => absurd rfl c⟩)
  refine qI_stop hV i21 (x := -1001) (by unfold f_stop; rw [if_f (fun q => by have := q.2.1; omega)]) (fun s22 i22 => ⟨fun _ => ?_, fun c => absurd rfl c⟩)
  refine qI_ride hV i22 (x := -1001) (by unfold f_ride; rw [if_f rN]) (fun s23 i23 => ⟨fun _ => ?_, fun c => absurd rfl c⟩)
  refine qI_depot hV i23 (x := -1001) (by unfold f_depot; rw [if_f vM1]) (fun s24 i24 => ⟨fun _ => ?_, fun c => absurd rfl c⟩)
  refine q_cost hV i24 (x := -1001) (by unfold f_cost; rw [ieR, if_neg (by decide)]) (fun s25 i25 => ⟨fun _ => ?_, fun c => absurd rfl c⟩)
  refine q_cost hV i25 (x := -1001) (by unfold f_cost; rw [ieV, if_neg (by decide)]) (fun s26 i26 => ⟨fun _ => ?_, fun c => absurd rfl c⟩)
  refine q_cost hV i26 (x := -1002) (fco_b (r := 0) (v := 0) (by omega) (by omega) (by omega)).1 (fun s27 i27 => ⟨fun _ => ?_, fun c => absurd rfl c⟩)
  refine q_ins hV i27 (x := -1002) (by unfold f_ins; have e := (fco_b (p := p) (hs := hs) (r := 0) (v := 0) (i := 2) (j := 2) (show 0 < nrN D by omega) (by omega) (by omega)).2; rw [show f_ie (D, p, hs) 0 0 2 2 = -1002 from e, if_neg (by decide)]) (fun s28 i28 => ⟨fun _ => ?_, fun c => absurd rfl c⟩)
  refine q_best hV i28 (x := -1001) (by unfold f_best f_oe2; rw [if_f vN, if_neg (by decide)]) (fun s29 i29 => ⟨fun _ => ?_, fun c => absurd rfl c⟩)
  refine q_asT hV i29 (x := -1001) (by unfold f_asT f_oe2; rw [if_t v0, oeN, if_neg (by decide)]) (fun s30 i30 => ⟨fun _ => ?_, fun c => absurd rfl c⟩)
  refine q_asg hV i30 (x := -1001) (by unfold f_asg; rw [oeN, if_neg (by decide)]) (fun s31 i31 => ⟨fun _ => ?_, fun c => absurd rfl c⟩)
  refine q_rem hV i31 (x := -1001) (by unfold f_rem; rw [if_f rM1]) (fun s32 i32 => ⟨fun _ => ?_, fun c => absurd rfl c⟩)
  refine q_cc hV i32 (x := -1001) (by unfold f_cc; rw [oeN, if_neg (by decide)]) (fun s33 i33 => ⟨fun _ => ?_, fun c => absurd rfl c⟩)
  refine q_ch hV i33 (x := -1001) (by unfold f_ch; rw [oeM, if_neg (by decide)]) (fun s34 i34 y hy => ?_)
  rw [if_pos rfl] at hy
  rw [hy]; exact hQ s34 i34
end LAWC
