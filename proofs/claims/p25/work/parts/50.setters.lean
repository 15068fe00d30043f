section SETTERS
variable {l : Launch} {G : GT} {b L : Nat} {xs : Nat → Int32} {κ e : Nat} {D : Sto} {p : PL} {hs : List PL} {σ : Sto} {x4 x5 x6 x7 x8 x9 x10 x13 : Int} {x11 : Int64}
theorem rM_D {σ D D' : Sto} (h : rM σ D) (h1 : D' 1 = D 1) (h2 : D' 2 = D 2) (h10 : D' 10 = D 10) : rM σ D' := by
  unfold rM nrN nvN at *
  rw [h1, h2, h10]
  exact h
theorem prF_D {D D' : Sto} (h10 : D' 10 = D 10) : prF D' p = prF D p := by
  unfold prF nvN
  rw [h10]
theorem LW_D {D' : Sto} {hs' : List PL} {σ' : Sto} (h : LW D p hs σ e) (hV : Val (D', p, hs')) (i : BI σ σ' (D', p, hs')) (h1 : D' 1 = D 1) (h2 : D' 2 = D 2) (h10 : D' 10 = D 10) (h6 : ∀ r, r < 12 → D' 6 r ≤ 201 + (e : Int)) : LW D' p hs' σ' (e + 1) := by
  refine ⟨hV, i.1, rM_D (rM_fr h.2.2.1 i.2) h1 h2 h10, ?_, fun r hr => by have := h6 r hr; omega⟩
  have := h.2.2.2.1
  unfold nvN nrN at *
  rw [h10]
  exact this
theorem setM3 {r : Nat} {m : Int} (hr : r < nrN D) (hm : inM m) : (m = D 6 r ∧ f_setM (D, p, hs) r m = (D 6 r, (D, p, hs))) ∨ (m ≠ D 6 r ∧ f_setM (D, p, hs) r m = (D 6 r, (stS D 6 r m, p, []))) ∨ (p.2.2 r ≠ -1 ∧ f_setM (D, p, hs) r m = (-1005, (D, p, hs))) := by
  have e1 : ((r : Nat) : Int).toNat = r := Int.toNat_natCast r
  have hr2 : isRq D r := by unfold nrN at hr; exact ⟨by omega, by omega⟩
  have e : f_setM (D, p, hs) r m = if m = D 6 r then (D 6 r, (D, p, hs)) else iff' (okR (stS D 6 r m) p r) (D 6 r, (stS D 6 r m, p, [])) (-1005, (D, p, hs)) := by
    unfold f_setM
    rw [if_t hr2, if_t hm]
    simp only [e1]
  rw [e]
  by_cases q : m = D 6 r
  · rw [if_pos q]; exact Or.inl ⟨q, rfl⟩
  · rw [if_neg q]
    by_cases q2 : okR (stS D 6 r m) p r
    · rw [if_t q2]; exact Or.inr (Or.inl ⟨q, rfl⟩)
    · rw [if_f q2]; exact Or.inr (Or.inr ⟨fun z => q2 (Or.inl z), rfl⟩)
theorem setL3 {r : Nat} {m : Int} (hr : r < nrN D) (hm : inL m) : (m = D 5 r ∧ f_setL (D, p, hs) r m = (D 5 r, (D, p, hs))) ∨ (m ≠ D 5 r ∧ f_setL (D, p, hs) r m = (D 5 r, (stS D 5 r m, p, []))) ∨ (p.2.2 r ≠ -1 ∧ f_setL (D, p, hs) r m = (-1005, (D, p, hs))) := by
  have e1 : ((r : Nat) : Int).toNat = r := Int.toNat_natCast r
  have hr2 : isRq D r := by unfold nrN at hr; exact ⟨by omega, by omega⟩
  have e : f_setL (D, p, hs) r m = if m = D 5 r then (D 5 r, (D, p, hs)) else iff' (okR (stS D 5 r m) p r) (D 5 r, (stS D 5 r m, p, [])) (-1005, (D, p, hs)) := by
    unfold f_setL
    rw [if_t hr2, if_t hm]
    simp only [e1]
  rw [e]
  by_cases q : m = D 5 r
  · rw [if_pos q]; exact Or.inl ⟨q, rfl⟩
  · rw [if_neg q]
    by_cases q2 : okR (stS D 5 r m) p r
    · rw [if_t q2]; exact Or.inr (Or.inl ⟨q, rfl⟩)
    · rw [if_f q2]; exact Or.inr (Or.inr ⟨fun z => q2 (Or.inl z), rfl⟩)
theorem setS3 {m : Int} (hm : 0 ≤ m ∧ m ≤ 10) : (m = D 0 0 ∧ f_setS (D, p, hs) m = (D 0 0, (D, p, hs))) ∨ (m ≠ D 0 0 ∧ f_setS (D, p, hs) m = (D 0 0, (stS D 0 0 m, p, []))) ∨ f_setS (D, p, hs) m = (-1005, (D, p, hs)) := by
  have e : f_setS (D, p, hs) m = if m = D 0 0 then (D 0 0, (D, p, hs)) else iff' (FEP (stS D 0 0 m) p) (D 0 0, (stS D 0 0 m, p, [])) (-1005, (D, p, hs)) := by
    unfold f_setS
    rw [if_t hm]
  rw [e]
  by_cases q : m = D 0 0
  · rw [if_pos q]; exact Or.inl ⟨q, rfl⟩
  · rw [if_neg q]
    by_cases q2 : FEP (stS D 0 0 m) p
    · rw [if_t q2]; exact Or.inr (Or.inl ⟨q, rfl⟩)
    · rw [if_f q2]; exact Or.inr (Or.inr rfl)
theorem ev_916 (hx0 : G.2.2.2.2 = 0) (hb2 : G.2.2.1 228 = b) (hL : L ≤ 260) (he : e < 26) (hκ : κ ≤ e) (hC : C1150 l G b L xs e x4 x6 x7) (hW : LW D p hs σ (e + 1)) (h4 : D 10 1 = x4) {r : Nat} (hr : r < nrN D) (h9 : x9 = r) {x14 x15 x16 x17 : Int} (h16 : x16 < 0 → x10 = 0) (h6 : D 6 r = if 0 ≤ x16 then x15 else x14) (h5 : (if x17 = 0 then x5 else 0) = (hs.length : Int)) (hx : x11 = prF D p) : MWF l G mL (FL b L xs κ) 916 [(0, vR 228), (1, vR 0), (2, vR 56), (4, vI x4), (5, vI x5), (6, vI x6), (7, vI x7), (9, vI x9), (10, vI x10), (11, vJ x11), (14, vI x14), (15, vI x15), (16, vI x16), (17, vI x17)] [] σ := by
  have hV := hW.1
  have hk : κ ≤ 100 := by omega
  subst hx
  have nxt : MWF l G mL (FL b L xs κ) 926 [(0, vR 228), (1, vR 0), (2, vR 56), (4, vI x4), (5, vI x5), (6, vI x6), (7, vI x7), (9, vI x9), (11, vJ (prF D p)), (14, vI x14), (15, vI x15), (16, vI x16), (17, vI x17)] [] σ := by
    refine vcL_law_926 l G hx0 hb2 hL hk σ _ _ _ _ _ _ _ _ _ _ (q_req hV (BI_r hW.2.1) h9 (fr_2 hr) (fun s1 i1 y hy => ⟨fun _ => ?_, fun z => absurd (by rw [hy]; exact h6) z⟩))
    refine vcL_law_950 l G hx0 hb2 hL hk s1 _ _ _ _ _ _ (fun y2 hy2 => ?_)
    rw [hy2, h5]
    exact hC D p hs s1 κ _ _ _ (by omega) (LW_b hW hV i1) h4 (PE_l rfl)
  exact vcL_law_916 l G hx0 hb2 hL hk σ _ _ _ _ _ _ _ _ _ _ _ ⟨fun _ => nxt, fun c => ⟨fun z => absurd (h16 z) c, fun _ => nxt⟩⟩
theorem ev_limit (hx0 : G.2.2.2.2 = 0) (hb2 : G.2.2.1 228 = b) (hL : L ≤ 260) (he : e < 26) (hκ : κ ≤ e) (hC : C1150 l G b L xs e x4 x6 x7) (hW : LW D p hs σ e) (h4 : D 10 1 = x4) (h5 : x5 = hs.length) {r : Nat} (hr : r < nrN D) (h9 : x9 = r) (hop : (x10 = 0 ∧ p.2.2 r ≠ -1) ∨ (x10 = 1 ∧ p.2.2 r = -1)) (h8 : x8 = 11) (hx : x11 = prF D p) : MWF l G mL (FL b L xs κ) 817 [(0, vR 228), (1, vR 0), (2, vR 56), (4, vI x4), (5, vI x5), (6, vI x6), (7, vI x7), (8, vI x8), (9, vI x9), (10, vI x10), (11, vJ x11)] [] σ := by
  obtain ⟨hV, hI, hM, hn, hlim⟩ := id hW
  subst hx
  subst h9
  have hD : DOK D := hV.1
  have nb := nv_b hD
  have hk : κ ≤ 100 := by omega
  have d6 := hD.2.2.2.1 r (by omega)
  have l6 := hlim r (by omega)
  have s870 : ∀ (z0 : Int) (s1 : Sto), 0 ≤ z0 → z0 ≤ 201 + e → BI σ s1 (D, p, hs) → MWF l G mL (FL b L xs κ) 870 [(0, vR 228), (1, vR 0), (2, vR 56), (4, vI x4), (5, vI x5), (6, vI x6), (7, vI x7), (9, vI r), (10, vI x10), (11, vJ (prF D p)), (14, vI (D 6 r))] [vI z0] s1 := by
    intro z0 s1 hz0 hz1 i1
    have hm : inM z0 := ⟨hz0, by omega⟩
    rcases setM3 (p := p) (hs := hs) hr hm with ⟨q, eq⟩ | ⟨q, eq⟩ | ⟨q, eq⟩
    · refine vcL_law_870 l G hx0 hb2 hL hk s1 _ _ _ _ _ _ _ _ _ (q_setM hV i1 eq (fun s2 i2 y hy => ⟨fun _ => ?_, fun z => absurd rfl z⟩))
      rw [if_neg (by omega), if_pos q] at hy
      exact ev_916 hx0 hb2 hL he hκ hC (LW_up (LW_b hW hV i2)) h4 hr rfl (fun z => by omega) (by rw [if_pos d6.2.2.1]; exact q.symm) (by rw [if_pos hy]; exact h5) rfl
    · refine vcL_law_870 l G hx0 hb2 hL hk s1 _ _ _ _ _ _ _ _ _ (c_setM hV i1.1 (fun s2 a f => ?_))
      have Vm := V_setM hV r z0
      rw [eq] at a Vm ⊢
      have hVm : Val (stS D 6 r z0, p, []) := Vm
      have i2 : BI σ s2 (stS D 6 r z0, p, []) := ⟨a, frC_t i1.2 f⟩
      have k1 : stS D 6 r z0 1 = D 1 := st_k (by decide)
      have k2 : stS D 6 r z0 2 = D 2 := st_k (by decide)
      have k10 : stS D 6 r z0 10 = D 10 := st_k (by decide)
      have hW2 : LW (stS D 6 r z0) p [] s2 (e + 1) := LW_D hW hVm i2 k1 k2 k10 (fun x hx => by
        by_cases w : x = r
        · rw [w, stS_eq]; omega
        · rw [stS_ni w]; have := hlim x hx; omega)
      have hr2 : r < nrN (stS D 6 r z0) := by unfold nrN at hr ⊢; rw [k10]; exact hr
      refine fun y hy => ⟨fun _ => ?_, fun z => absurd rfl z⟩
      rw [if_neg (by show ¬ (D 6 r < 0); omega), if_neg q] at hy
      have ex := prF_D (p := p) k10
      exact ev_916 (D := stS D 6 r z0) hx0 hb2 hL he hκ hC hW2 (by rw [k10]; exact h4) hr2 rfl (fun z => absurd z (by show ¬ (D 6 r < 0); omega)) (by rw [stS_eq, if_pos (show (0 : Int) ≤ D 6 r by omega)]) (by rw [if_neg (by omega)]; rfl) ex.symm
    · refine vcL_law_870 l G hx0 hb2 hL hk s1 _ _ _ _ _ _ _ _ _ (q_setM hV i1 eq (fun s2 i2 y hy => ⟨fun z => by omega, fun _ => ⟨fun _ => ?_, fun z => absurd rfl z⟩⟩))
      rw [if_pos (by decide)] at hy
      have h10 : x10 = 0 := by
        rcases hop with ⟨z, -⟩ | ⟨-, z⟩
        · exact z
        · exact absurd z q
      exact ev_916 hx0 hb2 hL he hκ hC (LW_up (LW_b hW hV i2)) h4 hr rfl (fun _ => h10) (by rw [if_neg (by decide)]) (by rw [if_pos hy]; exact h5) rfl
  have lb := lowF_b (x := shrI x7 8) (n := 30) (by omega)
  refine vcL_law_817 l G hx0 hb2 hL hk σ _ _ _ _ _ _ _ _ ⟨fun _ => ?_, fun c => absurd h8 c⟩
  refine q_req hV (BI_r hI) rfl (fr_2 hr) (fun s1 i1 => ⟨by omega, k_low (by omega) ⟨by omega, fun c => k_low (by omega) ⟨by omega, s870 _ s1 (by omega) (by omega) i1⟩, fun _ => s870 5 s1 (by omega) (by omega) i1⟩⟩)
theorem ev_1018 (hx0 : G.2.2.2.2 = 0) (hb2 : G.2.2.1 228 = b) (hL : L ≤ 260) (he : e < 26) (hκ : κ ≤ e) (hC : C1150 l G b L xs e x4 x6 x7) (hW : LW D p hs σ (e + 1)) (h4 : D 10 1 = x4) {x14 x15 x16 : Int} (h6 : D 0 0 = if 0 ≤ x16 then x15 else x14) (h5 : (if x16 < 0 then x5 else (if x15 = x14 then x5 else 0)) = (hs.length : Int)) (hx : x11 = prF D p) : MWF l G mL (FL b L xs κ) 1018 [(0, vR 228), (1, vR 0), (2, vR 56), (4, vI x4), (5, vI x5), (6, vI x6), (7, vI x7), (11, vJ x11), (14, vI x14), (15, vI x15), (16, vI x16)] [] σ := by
  have hV := hW.1
  have hk : κ ≤ 100 := by omega
  subst hx
  refine vcL_law_1018 l G hx0 hb2 hL hk σ _ _ _ _ _ _ _ _ (q_count hV (BI_r hW.2.1) fc_4 (fun s1 i1 y hy => ⟨fun _ => ?_, fun z => absurd (by rw [hy]; exact h6) z⟩))
  refine vcL_law_1040 l G hx0 hb2 hL hk s1 _ _ _ _ _ _ _ _ (fun y2 hy2 => ?_)
  rw [hy2, h5]
  exact hC D p hs s1 κ _ _ _ (by omega) (LW_b hW hV i1) h4 (PE_l rfl)
theorem ev_service (hx0 : G.2.2.2.2 = 0) (hb2 : G.2.2.1 228 = b) (hL : L ≤ 260) (he : e < 26) (hκ : κ ≤ e) (hC : C1150 l G b L xs e x4 x6 x7) (hW : LW D p hs σ e) (h4 : D 10 1 = x4) (h5 : x5 = hs.length) (h8 : x8 = 12) (hx : x11 = prF D p) : MWF l G mL (FL b L xs κ) 970 [(0, vR 228), (1, vR 0), (2, vR 56), (4, vI x4), (5, vI x5), (6, vI x6), (7, vI x7), (8, vI x8), (9, vI x9), (10, vI x10), (11, vJ x11)] [] σ := by
  obtain ⟨hV, hI, hM, hn, hlim⟩ := id hW
  subst hx
  have hD : DOK D := hV.1
  have hk : κ ≤ 100 := by omega
  have d0 := hD.1
  have lb := lowF_b (x := shrI x7 8) (n := 4) (by omega)
  refine vcL_law_970 l G hx0 hb2 hL hk σ _ _ _ _ _ _ _ _ ⟨fun _ => ?_, fun c => absurd h8 c⟩
  refine q_count hV (BI_r hI) fc_4 (fun s1 i1 => k_low (by omega) ?_)
  rcases setS3 (D := D) (p := p) (hs := hs) (m := lowF (shrI x7 8) 4) (by omega) with ⟨q, eq⟩ | ⟨q, eq⟩ | eq
  · refine q_setS hV i1 eq (fun s2 i2 => ⟨fun _ => ?_, fun z => absurd rfl z⟩)
    exact ev_1018 hx0 hb2 hL he hκ hC (LW_up (LW_b hW hV i2)) h4 (by rw [if_pos d0.1]; exact q.symm) (by rw [if_neg (by omega), if_pos q]; exact h5) rfl
  · refine c_setS hV i1.1 (fun s2 a f => ?_)
    have Vm := V_setS hV (lowF (shrI x7 8) 4)
    rw [eq] at a Vm ⊢
    have hVm : Val (stS D 0 0 (lowF (shrI x7 8) 4), p, []) := Vm
    have i2 : BI σ s2 (stS D 0 0 (lowF (shrI x7 8) 4), p, []) := ⟨a, frC_t i1.2 f⟩
    have k1 : stS D 0 0 (lowF (shrI x7 8) 4) 1 = D 1 := st_k (by decide)
    have k2 : stS D 0 0 (lowF (shrI x7 8) 4) 2 = D 2 := st_k (by decide)
    have k6 : stS D 0 0 (lowF (shrI x7 8) 4) 6 = D 6 := st_k (by decide)
    have k10 : stS D 0 0 (lowF (shrI x7 8) 4) 10 = D 10 := st_k (by decide)
    have hW2 : LW (stS D 0 0 (lowF (shrI x7 8) 4)) p [] s2 (e + 1) := LW_D hW hVm i2 k1 k2 k10 (fun x hx => by rw [k6]; have := hlim x hx; omega)
    refine ⟨fun _ => ?_, fun z => absurd rfl z⟩
    have ex := prF_D (p := p) k10
    exact ev_1018 (D := stS D 0 0 (lowF (shrI x7 8) 4)) hx0 hb2 hL he hκ hC hW2 (by rw [k10]; exact h4) (by rw [stS_eq, if_pos (show (0 : Int) ≤ D 0 0 by omega)]) (by rw [if_neg (show ¬ (D 0 0 < 0) by omega), if_neg q]; rfl) ex.symm
  · refine q_setS hV i1 eq (fun s2 i2 => ⟨fun z => by omega, fun _ => ⟨fun _ => ?_, fun z => absurd rfl z⟩⟩)
    exact ev_1018 hx0 hb2 hL he hκ hC (LW_up (LW_b hW hV i2)) h4 (by rw [if_neg (by decide)]) (by rw [if_pos (by decide)]; exact h5) rfl
theorem ev_1114 (hx0 : G.2.2.2.2 = 0) (hb2 : G.2.2.1 228 = b) (hL : L ≤ 260) (he : e < 26) (hκ : κ ≤ e) (hC : C1150 l G b L xs e x4 x6 x7) (hW : LW D p hs σ (e + 1)) (h4 : D 10 1 = x4) {x14 x15 x16 : Int} (h16 : ¬ 0 ≤ x16 → x10 = 0) (h5 : (if x16 < 0 then x5 else (if x15 = x14 then x5 else 0)) = (hs.length : Int)) (hx : x11 = prF D p) : MWF l G mL (FL b L xs κ) 1114 [(0, vR 228), (1, vR 0), (2, vR 56), (4, vI x4), (5, vI x5), (6, vI x6), (7, vI x7), (10, vI x10), (11, vJ x11), (14, vI x14), (15, vI x15), (16, vI x16)] [] σ := by
  have hk : κ ≤ 100 := by omega
  subst hx
  have nxt : MWF l G mL (FL b L xs κ) 1126 [(0, vR 228), (1, vR 0), (2, vR 56), (4, vI x4), (5, vI x5), (6, vI x6), (7, vI x7), (11, vJ (prF D p)), (14, vI x14), (15, vI x15), (16, vI x16)] [] σ := by
    refine vcL_law_1126 l G hx0 hb2 hL hk σ _ _ _ _ _ _ _ _ (fun y2 hy2 => ?_)
    rw [hy2, h5]
    exact hC D p hs σ κ _ _ _ (by omega) hW h4 (PE_l rfl)
  exact vcL_law_1114 l G hx0 hb2 hL hk σ _ _ _ _ _ _ _ _ _ ⟨fun _ => nxt, fun c => ⟨fun _ => nxt, fun z => absurd (h16 z) c⟩⟩
theorem ev_load (hx0 : G.2.2.2.2 = 0) (hb2 : G.2.2.1 228 = b) (hL : L ≤ 260) (he : e < 26) (hκ : κ ≤ e) (hC : C1150 l G b L xs e x4 x6 x7) (hW : LW D p hs σ e) (h4 : D 10 1 = x4) (h5 : x5 = hs.length) {r : Nat} (hr : r < nrN D) (h9 : x9 = r) (hop : (x10 = 0 ∧ p.2.2 r ≠ -1) ∨ (x10 = 1 ∧ p.2.2 r = -1)) (hx : x11 = prF D p) : MWF l G mL (FL b L xs κ) 1067 [(0, vR 228), (1, vR 0), (2, vR 56), (4, vI x4), (5, vI x5), (6, vI x6), (7, vI x7), (9, vI x9), (10, vI x10), (11, vJ x11)] [] σ := by
  obtain ⟨hV, hI, hM, hn, hlim⟩ := id hW
  subst hx
  subst h9
  have hD : DOK D := hV.1
  have nb := nv_b hD
  have hk : κ ≤ 100 := by omega
  have d5 := hD.2.2.2.1 r (by omega)
  have lb := lowF_b (x := shrI x7 8) (n := 4) (by omega)
  refine vcL_law_1067 l G hx0 hb2 hL hk σ _ _ _ _ _ _ _ (q_req hV (BI_r hI) rfl (fr_1 hr) (fun s1 i1 => k_low (by omega) ⟨by omega, ?_⟩))
  rcases setL3 (p := p) (hs := hs) (m := 1 + lowF (shrI x7 8) 4) hr ⟨by omega, by omega⟩ with ⟨q, eq⟩ | ⟨q, eq⟩ | ⟨q, eq⟩
  · refine q_setL hV i1 eq (fun s2 i2 => ⟨fun _ => ?_, fun z => absurd rfl z⟩)
    exact ev_1114 hx0 hb2 hL he hκ hC (LW_up (LW_b hW hV i2)) h4 (fun z => absurd d5.1 z) (by rw [if_neg (by omega), if_pos q]; exact h5) rfl
  · refine c_setL hV i1.1 (fun s2 a f => ?_)
    have Vm := V_setL hV r (1 + lowF (shrI x7 8) 4)
    rw [eq] at a Vm ⊢
    have hVm : Val (stS D 5 r (1 + lowF (shrI x7 8) 4), p, []) := Vm
    have i2 : BI σ s2 (stS D 5 r (1 + lowF (shrI x7 8) 4), p, []) := ⟨a, frC_t i1.2 f⟩
    have k1 : stS D 5 r (1 + lowF (shrI x7 8) 4) 1 = D 1 := st_k (by decide)
    have k2 : stS D 5 r (1 + lowF (shrI x7 8) 4) 2 = D 2 := st_k (by decide)
    have k6 : stS D 5 r (1 + lowF (shrI x7 8) 4) 6 = D 6 := st_k (by decide)
    have k10 : stS D 5 r (1 + lowF (shrI x7 8) 4) 10 = D 10 := st_k (by decide)
    have hW2 : LW (stS D 5 r (1 + lowF (shrI x7 8) 4)) p [] s2 (e + 1) := LW_D hW hVm i2 k1 k2 k10 (fun x hx => by rw [k6]; have := hlim x hx; omega)
    refine ⟨fun _ => ?_, fun z => absurd rfl z⟩
    have ex := prF_D (p := p) k10
    exact ev_1114 (D := stS D 5 r (1 + lowF (shrI x7 8) 4)) hx0 hb2 hL he hκ hC hW2 (by rw [k10]; exact h4) (fun z => absurd (show (0 : Int) ≤ D 5 r by omega) z) (by rw [if_neg (show ¬ (D 5 r < 0) by omega), if_neg q]; rfl) ex.symm
  · refine q_setL hV i1 eq (fun s2 i2 => ⟨fun z => by omega, fun _ => ⟨fun _ => ?_, fun z => absurd rfl z⟩⟩)
    have h10 : x10 = 0 := by
      rcases hop with ⟨z, -⟩ | ⟨-, z⟩
      · exact z
      · exact absurd z q
    exact ev_1114 hx0 hb2 hL he hκ hC (LW_up (LW_b hW hV i2)) h4 (fun _ => h10) (by rw [if_pos (by decide)]; exact h5) rfl
end SETTERS
