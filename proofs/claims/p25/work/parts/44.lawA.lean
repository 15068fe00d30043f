section LAWA
variable {l : Launch} {G : GT} {D : Sto} {p : PL} {hs : List PL} {σ0 σ : Sto}
theorem k_print (hV : Val (D, p, hs)) (h : BI σ0 σ (D, p, hs)) {Q : Int64 → Sto → Prop} (hQ : ∀ σ', BI σ0 σ' (D, p, hs) → Q (prF D p) σ') : CLj l G mL_print [vR 0] σ Q := by
  have nb := nv_b (D := D) hV.1
  have key : ∀ (m v : Nat) (x1 : Int64) (x3 : Int) (σ1 : Sto), v + m = nvN D → x3 = v → x1 = prV p v → BI σ0 σ1 (D, p, hs) → MWj l G mL_print 4 [(0, vR 0), (1, vJ x1), (3, vI x3)] [] σ1 Q := by
    intro m
    induction m with
    | zero =>
      intro v x1 x3 σ1 hv h3 h1 i1
      obtain rfl : v = nvN D := by omega
      refine vcL_print_4 l G σ1 Q x1 x3 (q_count hV i1 fc_0 (fun σ2 i2 => ⟨fun _ => ?_, fun c => absurd (by omega) c⟩))
      rw [h1]; exact hQ σ2 i2
    | succ m ih =>
      intro v x1 x3 σ1 hv h3 h1 i1
      have hn := (VW hV (v := v) (by omega)).1
      refine vcL_print_4 l G σ1 Q x1 x3 (q_count hV i1 fc_0 (fun σ2 i2 => ⟨fun c => absurd c (by omega), fun _ => ?_⟩))
      have inner : ∀ (j k : Nat) (y : Int64) (x4 : Int) (σ3 : Sto), k + j = p.1 v → x4 = k → y = prR (p.2.1 v) ((1000003 * x1) + 7) k → BI σ0 σ3 (D, p, hs) → MWj l G mL_print 26 [(0, vR 0), (1, vJ y), (3, vI x3), (4, vI x4)] [] σ3 Q := by
        intro j
        induction j with
        | zero =>
          intro k y x4 σ3 hk h4 hy i3
          refine vcL_print_26 l G σ3 Q y x3 x4 (q_veh hV i3 (v := v) (by omega) h3 (fv_3 (by omega)) (fun σ4 i4 => ⟨fun _ => ⟨by omega, ih (v + 1) _ _ σ4 (by omega) (by omega) ?_ i4⟩, fun c => absurd (by omega) c⟩))
          have ek : k = p.1 v := by omega
          rw [hy, h1, ek]; rfl
        | succ j ihj =>
          intro k y x4 σ3 hk h4 hy i3
          refine vcL_print_26 l G σ3 Q y x3 x4 (q_veh hV i3 (v := v) (by omega) h3 (fv_3 (by omega)) (fun σ4 i4 => ⟨fun c => absurd c (by omega), fun _ => q_stop hV i4 h3 h4 (fs_0 (by omega) (by omega)) (fun σ5 i5 => q_stop hV i5 h3 h4 (fs_1 (by omega) (by omega)) (fun σ6 i6 => ⟨by omega, ihj (k + 1) _ _ σ6 (by omega) (by omega) ?_ i6⟩))⟩))
          rw [hy]; rfl
      exact inner (p.1 v) 0 _ 0 σ2 (by omega) rfl rfl i2
  exact clL_print l G σ Q (key (nvN D) 0 1 0 σ (by omega) rfl rfl h)
theorem fco {r v i j : Nat} (hr : r < nrN D) (hv : v < nvN D) (hij : i < j) (hj : j < p.1 v + 2) (ho : p.2.2 r = -1) : f_ie (D, p, hs) r v i j = iff' (FE D v (p.1 v + 2) (insT (p.2.1 v) r i j)) 0 (-1005) := by
  have e1 : ((r : Nat) : Int).toNat = r := Int.toNat_natCast r
  have e2 : ((v : Nat) : Int).toNat = v := Int.toNat_natCast v
  have e3 : ((i : Nat) : Int).toNat = i := Int.toNat_natCast i
  have e4 : ((j : Nat) : Int).toNat = j := Int.toNat_natCast j
  have hr2 : isRq D r := by unfold nrN at hr; exact ⟨by omega, by omega⟩
  have hv2 : isVh D v := by unfold nvN at hv; exact ⟨by omega, by omega⟩
  unfold f_ie
  rw [if_t ⟨hr2, hv2⟩]
  simp only [e1, e2, e3, e4]
  rw [if_t ⟨by omega, by omega, by omega⟩, if_pos ho]
theorem fco_t {r v i j : Nat} (hr : r < nrN D) (hv : v < nvN D) (hij : i < j) (hj : j < p.1 v + 2) (ho : p.2.2 r = -1) (hf : FE D v (p.1 v + 2) (insT (p.2.1 v) r i j)) : f_cost (D, p, hs) r v i j = adL D v (p.1 v) (p.2.1 v) r i j ∧ f_ie (D, p, hs) r v i j = 0 := by
  have e1 : ((r : Nat) : Int).toNat = r := Int.toNat_natCast r
  have e2 : ((v : Nat) : Int).toNat = v := Int.toNat_natCast v
  have e3 : ((i : Nat) : Int).toNat = i := Int.toNat_natCast i
  have e4 : ((j : Nat) : Int).toNat = j := Int.toNat_natCast j
  have e : f_ie (D, p, hs) r v i j = 0 := by rw [fco hr hv hij hj ho, if_t hf]
  refine ⟨?_, e⟩
  unfold f_cost
  rw [if_pos e]
  simp only [e1, e2, e3, e4]
theorem fco_f {r v i j : Nat} (hr : r < nrN D) (hv : v < nvN D) (hij : i < j) (hj : j < p.1 v + 2) (ho : p.2.2 r = -1) (hf : ¬ FE D v (p.1 v + 2) (insT (p.2.1 v) r i j)) : f_cost (D, p, hs) r v i j = -1005 ∧ f_ie (D, p, hs) r v i j = -1005 := by
  have e : f_ie (D, p, hs) r v i j = -1005 := by rw [fco hr hv hij hj ho, if_f hf]
  refine ⟨?_, e⟩
  unfold f_cost
  rw [if_neg (by rw [e]; decide), e]
theorem fco_b {r v : Nat} {i j : Int} (hr : r < nrN D) (hv : v < nvN D) (h : ¬ (0 ≤ i ∧ i < j ∧ j ≤ (p.1 v : Int) + 1)) : f_cost (D, p, hs) r v i j = -1002 ∧ f_ie (D, p, hs) r v i j = -1002 := by
  have e2 : ((v : Nat) : Int).toNat = v := Int.toNat_natCast v
  have hr2 : isRq D r := by unfold nrN at hr; exact ⟨by omega, by omega⟩
  have hv2 : isVh D v := by unfold nvN at hv; exact ⟨by omega, by omega⟩
  have e : f_ie (D, p, hs) r v i j = -1002 := by
    unfold f_ie
    rw [if_t ⟨hr2, hv2⟩]
    simp only [e2]
    rw [if_f h]
  refine ⟨?_, e⟩
  unfold f_cost
  rw [if_neg (by rw [e]; decide), e]
theorem fbe {r v : Nat} (hr : r < nrN D) (hv : v < nvN D) (ho : p.2.2 r = -1) : f_oe (D, p, hs) r = 0 ∧ f_oe2 (D, p, hs) r v = 0 ∧ bst (D, p, hs) r v = sc D v (p.1 v) (p.2.1 v) r none ∧ f_best (D, p, hs) r v = pcA (sc D v (p.1 v) (p.2.1 v) r none) := by
  have e1 : ((r : Nat) : Int).toNat = r := Int.toNat_natCast r
  have e2 : ((v : Nat) : Int).toNat = v := Int.toNat_natCast v
  have hr2 : isRq D r := by unfold nrN at hr; exact ⟨by omega, by omega⟩
  have hv2 : isVh D v := by unfold nvN at hv; exact ⟨by omega, by omega⟩
  have a : f_oe (D, p, hs) r = 0 := by
    unfold f_oe
    rw [if_t hr2]
    simp only [e1]
    rw [if_pos ho]
  have b : f_oe2 (D, p, hs) r v = 0 := by
    unfold f_oe2
    rw [if_t hv2, a]
  have c : bst (D, p, hs) r v = sc D v (p.1 v) (p.2.1 v) r none := by
    unfold bst
    simp only [e1, e2]
  refine ⟨a, b, c, ?_⟩
  unfold f_best
  rw [if_pos b, c]
  cases sc D v (p.1 v) (p.2.1 v) r none <;> rfl
theorem k_best (hV : Val (D, p, hs)) (h : BI σ0 σ (D, p, hs)) {r v : Nat} (hr : r < nrN D) (ho : p.2.2 r = -1) (hv : v < nvN D) {x1 x2 : Int} (h1 : x1 = r) (h2 : x2 = v) {Q : Int → Sto → Prop} (hQ : ∀ σ', BI σ0 σ' (D, p, hs) → Q (costA (sc D v (p.1 v) (p.2.1 v) r none)) σ') : CLi l G mL_best [vR 0, vI x1, vI x2] σ Q := by
  have hD : DOK D := hV.1
  have nb := nv_b hD
  have hw := VW hV (v := v) (by omega)
  have hn := hw.1
  subst h1; subst h2
  have hr12 : r < 12 := by omega
  have hv4 : v < 4 := by omega
  refine clL_best l G σ Q r v (q_veh hV h hv rfl (fv_3 hv) (fun σ1 i1 => ?_))
  have outer : ∀ (m i : Nat) (x4 x5 x6 : Int) (σ2 : Sto), i + m = p.1 v + 1 → x6 = i → x4 = costA (scI D v (p.1 v) (p.2.1 v) r none i) → x5 = pcA (scI D v (p.1 v) (p.2.1 v) r none i) → BI σ0 σ2 (D, p, hs) → MWi l G mL_best 19 [(0, vR 0), (1, vI r), (2, vI v), (3, vI (p.1 v)), (4, vI x4), (5, vI x5), (6, vI x6)] [] σ2 Q := by
    intro m
    induction m with
    | zero =>
      intro i x4 x5 x6 σ2 hi h6 h4 h5 i2
      obtain rfl : i = p.1 v + 1 := by omega
      refine vcL_best_19 l G σ2 Q r v (p.1 v) x4 x5 x6 ⟨fun _ => q_best hV i2 (fbe hr hv ho).2.2.2 (fun σ3 i3 => ⟨fun _ => ⟨by omega, by omega, q_cost hV i3 (fco_b hr hv (by omega)).1 (fun σ4 i4 => ⟨fun _ => q_cost hV i4 (fco_b hr hv (by omega)).1 (fun σ5 i5 y hy => ?_), fun c => absurd rfl c⟩)⟩, fun c => absurd h5.symm c⟩), fun c => absurd (by omega) c⟩
      rw [if_pos rfl] at hy
      rw [hy, h4]
      exact hQ σ5 i5
    | succ m ih =>
      intro i x4 x5 x6 σ2 hi h6 h4 h5 i2
      refine vcL_best_19 l G σ2 Q r v (p.1 v) x4 x5 x6 ⟨fun c => absurd c (by omega), fun _ => ⟨by omega, ?_⟩⟩
      have inner : ∀ (d e : Nat) (x4 x5 x7 : Int) (σ3 : Sto), e + d = p.1 v + 1 - i → x7 = i + 1 + e → x4 = costA (scJ D v (p.1 v) (p.2.1 v) r i (scI D v (p.1 v) (p.2.1 v) r none i) e) → x5 = pcA (scJ D v (p.1 v) (p.2.1 v) r i (scI D v (p.1 v) (p.2.1 v) r none i) e) → BI σ0 σ3 (D, p, hs) → MWi l G mL_best 31 [(0, vR 0), (1, vI r), (2, vI v), (3, vI (p.1 v)), (4, vI x4), (5, vI x5), (6, vI x6), (7, vI x7)] [] σ3 Q := by
        intro d
        induction d with
        | zero =>
          intro e x4 x5 x7 σ3 he h7 h4 h5 i3
          have ee : e = p.1 v + 1 - i := by omega
          refine vcL_best_31 l G σ3 Q r v (p.1 v) x4 x5 x6 x7 ⟨by omega, fun _ => ⟨by omega, ih (i + 1) _ _ _ σ3 (by omega) (by omega) ?_ ?_ i3⟩, fun c => absurd (by omega) c⟩
          · rw [h4, ee]; rfl
          · rw [h5, ee]; rfl
        | succ d ihd =>
          intro e x4 x5 x7 σ3 he h7 h4 h5 i3
          have ej : x7 = ((i + 1 + e : Nat) : Int) := by omega
          have es : scJ D v (p.1 v) (p.2.1 v) r i (scI D v (p.1 v) (p.2.1 v) r none i) (e + 1) = cmb (scJ D v (p.1 v) (p.2.1 v) r i (scI D v (p.1 v) (p.2.1 v) r none i) e) (cnd D v (p.1 v) (p.2.1 v) r i (i + 1 + e)) := rfl
          have hb := cbA_J hD hv4 hw hr12 (i := i) (cbA_I hD hv4 hw hr12 cbA_0 i) e
          have hc := cbA_cnd hD hv4 hw hr12 (i := i) (j := i + 1 + e)
          refine vcL_best_31 l G σ3 Q r v (p.1 v) x4 x5 x6 x7 ⟨by omega, fun c => absurd c (by omega), fun _ => ?_⟩
          by_cases hf : FE D v (p.1 v + 2) (insT (p.2.1 v) r i (i + 1 + e))
          · have ec := cnd_t hf
            have a0 := adL_0 D (v := v) (n := p.1 v) (t := p.2.1 v) (r := r) (i := i) (j := i + 1 + e)
            have eq : f_cost (D, p, hs) r v x6 x7 = adL D v (p.1 v) (p.2.1 v) r i (i + 1 + e) := by rw [h6, ej]; exact (fco_t hr hv (by omega) (by omega) ho hf).1
            refine q_cost hV i3 eq (fun σ4 i4 => ⟨fun _ => vcL_best_66 l G σ4 Q r v (p.1 v) x4 x5 x6 x7 _ ⟨fun _ _ => ⟨by omega, by omega, trivial⟩, fun y hy z hz => ⟨by omega, ihd (e + 1) _ _ _ σ4 (by omega) (by omega) ?_ ?_ i4⟩⟩, fun c => absurd a0 c⟩)
            · rw [if_neg (by omega)] at hy
              rw [es]
              by_cases q : x4 ≤ adL D v (p.1 v) (p.2.1 v) r i (i + 1 + e)
              · rw [if_pos q] at hy
                rw [cmb_le hb hc (by rw [← h4, ec]; exact q), hy, h4]
              · rw [if_neg q] at hy
                rw [cmb_gt hb (by rw [← h4, ec]; exact q), hy, ec]; rfl
            · rw [if_neg (by omega)] at hz
              rw [es]
              by_cases q : x4 ≤ adL D v (p.1 v) (p.2.1 v) r i (i + 1 + e)
              · rw [if_pos q] at hz
                rw [cmb_le hb hc (by rw [← h4, ec]; exact q), hz, h5]
              · rw [if_neg q] at hz
                rw [cmb_gt hb (by rw [← h4, ec]; exact q), hz, ec, h6, ej]; rfl
          · have ec := cnd_f hf
            have eq : f_cost (D, p, hs) r v x6 x7 = -1005 := by rw [h6, ej]; exact (fco_f hr hv (by omega) (by omega) ho hf).1
            refine q_cost hV i3 eq (fun σ4 i4 => ⟨fun c => absurd c (by decide), fun _ => ⟨fun _ => vcL_best_66 l G σ4 Q r v (p.1 v) x4 x5 x6 x7 _ ⟨fun c => absurd (by decide) c, fun y hy z hz => ⟨by omega, ihd (e + 1) _ _ _ σ4 (by omega) (by omega) ?_ ?_ i4⟩⟩, fun c => absurd rfl c⟩⟩)
            · rw [if_pos (by decide)] at hy
              rw [es, ec, hy, h4]; rfl
            · rw [if_pos (by decide)] at hz
              rw [es, ec, hz, h5]; rfl
      exact inner (p.1 v + 1 - i) 0 _ _ _ σ2 (by omega) (by omega) h4 h5 i2
  exact outer (p.1 v + 1) 0 _ _ _ σ1 (by omega) rfl rfl rfl i1
end LAWA
