def rA (σ : Sto) (y : Int) (acc : Acc) : Prop := match acc with
  | none => y = 0
  | some a => y = 1 ∧ σ 56 19 = a.2.2.1 ∧ σ 56 20 = a.2.2.2 ∧ σ 56 21 = a.1
theorem rA_F {lo hi : Nat} {σ σ' : Sto} {y : Int} {acc : Acc} (h : rA σ y acc) (f : mF lo hi A1 σ σ') : rA σ' y acc := by
  cases acc with
  | none => exact h
  | some a => exact ⟨h.1, by rw [f.2 19 (by unfold A1; omega)]; exact h.2.1, by rw [f.2 20 (by unfold A1; omega)]; exact h.2.2.1, by rw [f.2 21 (by unfold A1; omega)]; exact h.2.2.2⟩
theorem rA_01 {σ : Sto} {y : Int} {acc : Acc} (h : rA σ y acc) : y = 0 ∨ y = 1 := by
  cases acc with
  | none => exact Or.inl h
  | some a => exact Or.inr h.1
theorem sc_v {D : Sto} {v n : Nat} {t : Nat → Nat} {r : Nat} {a : Int × Nat × Nat × Nat} (h : sc D v n t r none = some a) : a.2.1 = v := by
  have pc : ∀ (x y : Acc), (∀ b, x = some b → b.2.1 = v) → (∀ b, y = some b → b.2.1 = v) → ∀ b, cmb x y = some b → b.2.1 = v := by
    intro x y hx hy b hb
    cases y with
    | none => exact hx b hb
    | some z =>
      simp only [cmb] at hb
      split at hb
      · exact hy b hb
      · exact hx b hb
  have hc : ∀ i j, ∀ b, cnd D v n t r i j = some b → b.2.1 = v := by
    intro i j b hb
    unfold cnd at hb
    split at hb
    · cases hb; rfl
    · cases hb
  have hJ : ∀ i m acc, (∀ b, acc = some b → b.2.1 = v) → ∀ b, scJ D v n t r i acc m = some b → b.2.1 = v := by
    intro i m
    induction m with
    | zero => intro acc h b hb; exact h b hb
    | succ m ih => intro acc h b hb; exact pc _ _ (ih acc h) (hc i _) b hb
  have hI : ∀ m b, scI D v n t r none m = some b → b.2.1 = v := by
    intro m
    induction m with
    | zero => intro b hb; cases hb
    | succ m ih => intro b hb; exact hJ m _ _ ih b hb
  exact hI _ a h
theorem alb_sc {D : Sto} {p : PL} {r : Nat} {ex : Int} {a : Int × Nat × Nat × Nat} : ∀ m, alb D p r ex m = some a → a.2.1 < m ∧ sc D a.2.1 (p.1 a.2.1) (p.2.1 a.2.1) r none = some a
  | 0, h => by cases h
  | m + 1, h => by
    unfold alb at h
    split at h
    · have := alb_sc m h; exact ⟨by omega, this.2⟩
    · rw [sc_c] at h
      cases e : sc D m (p.1 m) (p.2.1 m) r none with
      | none =>
        rw [e] at h
        have := alb_sc m h; exact ⟨by omega, this.2⟩
      | some z =>
        rw [e] at h
        simp only [cmb] at h
        split at h
        · cases h
          have := sc_v e
          exact ⟨by omega, by rw [this]; exact e⟩
        · have := alb_sc m h; exact ⟨by omega, this.2⟩
section MODELE
variable {l : Launch} {G : GT} {D : Sto}
theorem sm_fBest (hD : DOK D) {σ : Sto} (hM : mMD D σ) {p : PL} (hw : WP D p) (hR : mR (σ 68) 0 p) {v r : Nat} (hv : v < 4) (hr : r < 12) (ho : p.2.2 r = -1) {x1 x2 : Int} (h1 : x1 = r) (h2 : x2 = v) {Q : Int → Sto → Prop} (hQ : ∀ y σ', mF 69 70 A2 σ σ' → rA σ' y (sc D v (p.1 v) (p.2.1 v) r none) → Q y σ') : CLi l G mX8_findBest [vR 56, vI x1, vI x2] σ Q := by
  have hrw := hw.1 v hv
  have n24 := hrw.1
  have room : p.1 v + 2 ≤ 24 := RW_room hrw hr (WP_open hw ho hv)
  have rlb := rl_b hD hv hrw
  have outer : ∀ (m i : Nat) (x3 x6 : Int) (s : Sto), i + m = p.1 v + 1 → x6 = i → mF 69 70 A2 σ s → rA s x3 (scI D v (p.1 v) (p.2.1 v) r none i) → MWi l G mX8_findBest 23 [(0, vR 56), (1, vI x1), (2, vI x2), (3, vI x3), (4, vI (rl D v (p.1 v) (p.2.1 v))), (5, vI (p.1 v : Nat)), (6, vI x6)] [] s Q := by
    intro m
    induction m with
    | zero =>
      intro i x3 x6 s hm h6 hf hA
      obtain rfl : i = p.1 v + 1 := by omega
      exact vcX8_findBest_23 l G s Q x1 x2 x3 _ _ x6 ⟨fun _ => ⟨rA_01 hA, hQ x3 s hf hA⟩, fun c => absurd (by omega) c⟩
    | succ m ih =>
      intro i x3 x6 s hm h6 hf hA
      refine vcX8_findBest_23 l G s Q x1 x2 x3 _ _ x6 ⟨fun c => absurd c (by omega), fun _ => ⟨by omega, ?_⟩⟩
      have inner : ∀ (q e : Nat) (x3 x7 : Int) (s : Sto), i + 1 + e + q = p.1 v + 2 → x7 = (i + 1 + e : Nat) → mF 69 70 A2 σ s → rA s x3 (scJ D v (p.1 v) (p.2.1 v) r i (scI D v (p.1 v) (p.2.1 v) r none i) e) → MWi l G mX8_findBest 36 [(0, vR 56), (1, vI x1), (2, vI x2), (3, vI x3), (4, vI (rl D v (p.1 v) (p.2.1 v))), (5, vI (p.1 v : Nat)), (6, vI x6), (7, vI x7)] [] s Q := by
        intro q
        induction q with
        | zero =>
          intro e x3 x7 s hq h7 hf hA
          refine vcX8_findBest_36 l G s Q x1 x2 x3 _ _ x6 x7 ⟨by omega, fun _ => ⟨by omega, ih (i + 1) _ _ _ (by omega) (by omega) hf ?_⟩, fun c => absurd (by omega) c⟩
          show rA s x3 (scJ D v (p.1 v) (p.2.1 v) r i (scI D v (p.1 v) (p.2.1 v) r none i) (p.1 v + 1 - i))
          rw [show p.1 v + 1 - i = e by omega]; exact hA
        | succ q ih2 =>
          intro e x3 x7 s hq h7 hf hA
          have hij : i < i + 1 + e := by omega
          have hj : i + 1 + e < p.1 v + 2 := by omega
          have hwi := RW_ins hrw hr (WP_open hw ho hv) hij hj
          have rlb2 := rl_b hD hv hwi
          have eadd := rl_ins D (v := v) (t := p.2.1 v) (r := r) hij hj
          refine vcX8_findBest_36 l G s Q x1 x2 x3 _ _ x6 x7 ⟨by omega, fun c => absurd c (by omega), fun _ => sm_takeWith (mR_F hR hf (by omega)) hv hr hij hj room h2 h1 h6 h7 (fun s1 f1 hT => ?_)⟩
          have f1' : mF 69 70 A2 s s1 := mF_w f1 (by omega) (by omega) A_12
          have hf1 := mF_t hf f1'
          have hM1 := mMD_F hM hf1 (by omega) A2_3
          have hA1 := rA_F hA f1
          refine sm_len hD hM1 hv hwi hT h2 ?_
          have eadd2 : rl D v (p.1 v + 2) (insT (p.2.1 v) r i (i + 1 + e)) - rl D v (p.1 v) (p.2.1 v) = adL D v (p.1 v) (p.2.1 v) r i (i + 1 + e) := by omega
          have b := adL_b hD (n := p.1 v) hv hrw (r := r) (i := i) (j := i + 1 + e) hr
          have hS : ∀ acc', acc' = scJ D v (p.1 v) (p.2.1 v) r i (scI D v (p.1 v) (p.2.1 v) r none i) e → scJ D v (p.1 v) (p.2.1 v) r i (scI D v (p.1 v) (p.2.1 v) r none i) (e + 1) = cmb acc' (cnd D v (p.1 v) (p.2.1 v) r i (i + 1 + e)) := fun acc' h => by rw [h]; rfl
          refine ⟨by omega, fun c0 => ?_, fun c0 => ?_⟩
          · refine sm_feas hD hv hwi hM1 hT h2 (fun s2 f2 hF y hy z hz => ⟨by omega, ?_⟩) (fun s2 f2 hF y hy z hz => ⟨by omega, ?_⟩)
            · rw [if_neg (by decide)] at hy hz
              subst hy; subst hz
              have hf2 := mF_t hf1 (mF_w f2 (by omega) (by omega) A_02)
              refine ih2 (e + 1) 1 _ _ (by omega) (by omega) (mF_s6 (mF_s6 (mF_s6 hf2 (by unfold A2; omega)) (by unfold A2; omega)) (by unfold A2; omega)) ?_
              cases ea : scJ D v (p.1 v) (p.2.1 v) r i (scI D v (p.1 v) (p.2.1 v) r none i) e with
              | some a => rw [ea] at hA; have := hA.1; omega
              | none =>
                rw [hS _ ea.symm, show cnd D v (p.1 v) (p.2.1 v) r i (i + 1 + e) = some (adL D v (p.1 v) (p.2.1 v) r i (i + 1 + e), v, i, i + 1 + e) by unfold cnd; rw [if_pos (feB_t hF)]]
                refine ⟨rfl, ?_, ?_, ?_⟩
                · rw [stS_ni (by decide), stS_ni (by decide), stS_eq]; exact h6
                · rw [stS_ni (by decide), stS_eq]; exact h7
                · rw [stS_eq]; exact eadd2
            · rw [if_pos rfl] at hy hz
              subst hy; subst hz
              have hf2 := mF_t hf1 (mF_w f2 (by omega) (by omega) A_02)
              refine ih2 (e + 1) _ _ _ (by omega) (by omega) hf2 ?_
              rw [hS _ rfl, show cnd D v (p.1 v) (p.2.1 v) r i (i + 1 + e) = none by unfold cnd; rw [if_neg (by rw [feB_f hF]; decide)]]
              exact rA_F hA1 (mF_w f2 (Nat.le_refl _) (Nat.le_refl _) A_01)
          · cases ea : scJ D v (p.1 v) (p.2.1 v) r i (scI D v (p.1 v) (p.2.1 v) r none i) e with
            | none => rw [ea] at hA; exact absurd hA c0
            | some a =>
              rw [ea] at hA1
              rw [hA1.2.2.2]
              refine ⟨fun c1 => ⟨by omega, ?_⟩, fun c1 => ?_⟩
              · refine ih2 (e + 1) _ _ _ (by omega) (by omega) hf1 ?_
                rw [hS _ ea.symm]
                have : cmb (some a) (cnd D v (p.1 v) (p.2.1 v) r i (i + 1 + e)) = some a := by
                  unfold cnd
                  split
                  · simp only [cmb]
                    rw [if_neg]
                    simp only [bet, decide_eq_true_eq]
                    omega
                  · rfl
                rw [this]; exact hA1
              · refine sm_feas hD hv hwi hM1 hT h2 (fun s2 f2 hF y hy z hz => ⟨by omega, ?_⟩) (fun s2 f2 hF y hy z hz => ⟨by omega, ?_⟩)
                · rw [if_neg (by decide)] at hy hz
                  subst hy; subst hz
                  have hf2 := mF_t hf1 (mF_w f2 (by omega) (by omega) A_02)
                  refine ih2 (e + 1) 1 _ _ (by omega) (by omega) (mF_s6 (mF_s6 (mF_s6 hf2 (by unfold A2; omega)) (by unfold A2; omega)) (by unfold A2; omega)) ?_
                  rw [hS _ ea.symm, show cnd D v (p.1 v) (p.2.1 v) r i (i + 1 + e) = some (adL D v (p.1 v) (p.2.1 v) r i (i + 1 + e), v, i, i + 1 + e) by unfold cnd; rw [if_pos (feB_t hF)]]
                  have : cmb (some a) (some (adL D v (p.1 v) (p.2.1 v) r i (i + 1 + e), v, i, i + 1 + e)) = some (adL D v (p.1 v) (p.2.1 v) r i (i + 1 + e), v, i, i + 1 + e) := by
                    simp only [cmb]
                    rw [if_pos]
                    simp only [bet, decide_eq_true_eq]
                    omega
                  rw [this]
                  refine ⟨rfl, ?_, ?_, ?_⟩
                  · rw [stS_ni (by decide), stS_ni (by decide), stS_eq]; exact h6
                  · rw [stS_ni (by decide), stS_eq]; exact h7
                  · rw [stS_eq]; exact eadd2
                · rw [if_pos rfl] at hy hz
                  subst hy; subst hz
                  have hf2 := mF_t hf1 (mF_w f2 (by omega) (by omega) A_02)
                  refine ih2 (e + 1) _ _ _ (by omega) (by omega) hf2 ?_
                  rw [hS _ ea.symm, show cnd D v (p.1 v) (p.2.1 v) r i (i + 1 + e) = none by unfold cnd; rw [if_neg (by rw [feB_f hF]; decide)]]
                  exact rA_F hA1 (mF_w f2 (Nat.le_refl _) (Nat.le_refl _) A_01)
      exact inner (p.1 v + 1 - i) 0 _ _ s (by omega) (by omega) hf hA
  refine clX8_findBest l G σ Q x1 x2 (sm_take hR hv n24 h2 (fun s f hT => ?_))
  refine sm_len hD (mMD_F hM f (by omega) A1_3) hv hrw hT h2 ?_
  rw [hT.1]
  exact outer (p.1 v + 1) 0 0 0 s (by omega) rfl (mF_w f (by omega) (by omega) A_12) rfl
theorem sm_pBest (hD : DOK D) {σ : Sto} (hM : mMD D σ) {p : PL} (hw : WP D p) (hR : mR (σ 68) 0 p) {v r : Nat} (hv : v < 4) (hv2 : (v : Int) < D 10 0) (hr : r < 12) (ho : p.2.2 r = -1) {x1 x2 : Int} (h1 : x1 = r) (h2 : x2 = v) {Q : Int → Sto → Prop}
    (h0 : ∀ σ', mF 69 70 A2 σ σ' → sc D v (p.1 v) (p.2.1 v) r none = none → Q 0 σ') (hS : ∀ σ' a, mF 68 70 A2 σ σ' → sc D v (p.1 v) (p.2.1 v) r none = some a → mR (σ' 68) 0 (pput p r a.2.1 a.2.2.1 a.2.2.2) → σ' 56 21 = a.1 → Q 1 σ') : CLi l G mX8_putBest [vR 56, vI x1, vI x2] σ Q := by
  refine clX8_putBest l G σ Q x1 x2 (sm_fBest hD hM hw hR hv hr ho h1 h2 (fun y s f hA => ?_))
  cases ea : sc D v (p.1 v) (p.2.1 v) r none with
  | none =>
    rw [ea] at hA
    have hA : y = 0 := hA
    subst hA
    exact ⟨fun _ => ⟨Or.inl rfl, h0 s f ea⟩, fun c => absurd rfl c⟩
  | some a =>
    rw [ea] at hA
    obtain ⟨rfl, e19, e20, e21⟩ := hA
    have ev := sc_v ea
    obtain ⟨c, w, i, j⟩ := a
    have ev : w = v := ev
    subst ev
    obtain ⟨-, -, hij, hj, -, -⟩ := AOK_sc (D := D) (p := p) (r := r) hv hv2 (acc := none) (fun _ _ _ _ h => by cases h) c w i j ea
    have room : p.1 w + 2 ≤ 24 := RW_room (hw.1 w hv) hr (WP_open hw ho hv)
    refine ⟨fun c => absurd c (by decide), fun _ => sm_takeWith (mR_F hR f (by omega)) hv hr hij hj room h2 h1 e19 e20 (fun s2 f2 hT => ?_)⟩
    have f12 := mF_t f (mF_w f2 (by omega) (by omega) A_12 : mF 69 70 A2 s s2)
    refine sm_lay (p' := pput p r w i j) (mR_F hR f12 (by omega)) (fun w hw2 => (hw.1 w hw2).1) hv hT room ⟨?_, fun k _ => ?_⟩ (fun u hu => ⟨?_, fun k => ?_⟩) h2 (fun s3 f3 hR3 => ⟨Or.inr rfl, hS s3 _ (mF_t (mF_w f12 (by omega) (by omega) (fun _ h => h)) (mF_w f3 (by omega) (by omega) A_02)) ea hR3 ?_⟩)
    · show (if w = w then p.1 w + 2 else _) = _
      rw [if_pos rfl]
    · show (if w = w then insT (p.2.1 w) r i j else _) k = _
      rw [if_pos rfl]
    · show (if u = w then p.1 w + 2 else p.1 u) = _
      rw [if_neg hu]
    · show (if u = w then insT (p.2.1 w) r i j else p.2.1 u) k = _
      rw [if_neg hu]
    · rw [f3.2 21 trivial, f2.2 21 (by unfold A1; omega)]; exact e21
theorem sm_pAny (hD : DOK D) {σ : Sto} (hM : mMD D σ) {p : PL} (hw : WP D p) (hR : mR (σ 68) 0 p) {r : Nat} {ex : Int} (hr : r < 12) (ho : p.2.2 r = -1) {x1 : Int} (h1 : x1 = r) {Q : Int → Sto → Prop}
    (h0 : ∀ σ', mF 69 70 A2 σ σ' → alb D p r ex (nvN D) = none → Q (-1) σ') (hS : ∀ σ' a, mF 68 70 A2 σ σ' → alb D p r ex (nvN D) = some a → mR (σ' 68) 0 (pput p r a.2.1 a.2.2.1 a.2.2.2) → Q (a.2.1 : Nat) σ') : CLi l G mX8_putAnywhere [vR 56, vI x1, vI ex] σ Q := by
  have nb := nv_b hD
  have key : ∀ (m k : Nat) (x3 x4 x5 : Int) (s : Sto), k + m = nvN D → x5 = k → mF 69 70 A2 σ s → (match alb D p r ex k with | none => x3 = -1 | some a => x3 = (a.2.1 : Nat) ∧ x4 = a.1) → MWi l G mX8_putAnywhere 8 [(0, vR 56), (1, vI x1), (2, vI ex), (3, vI x3), (4, vI x4), (5, vI x5)] [] s Q := by
    intro m
    induction m with
    | zero =>
      intro k x3 x4 x5 s hm h5 hf hA
      have hMs := mMD_F hM hf (by omega) A2_3
      have e1 := hMs.1.2.1
      obtain rfl : k = nvN D := by omega
      refine vcX8_putAnywhere_8 l G s Q x1 ex x3 x4 x5 ⟨fun _ => ?_, fun c => absurd (by omega) c⟩
      cases ea : alb D p r ex (nvN D) with
      | none =>
        rw [ea] at hA
        have hA : x3 = -1 := hA
        subst hA
        exact ⟨fun _ => h0 s hf ea, fun c => absurd (by decide) c⟩
      | some a =>
        rw [ea] at hA
        obtain ⟨e3, -⟩ := hA
        obtain ⟨b1, b2⟩ := alb_sc _ ea
        refine ⟨fun c => absurd c (by omega), fun _ => sm_pBest hD hMs hw (mR_F hR hf (by omega)) (by omega) (by omega) hr ho h1 e3 (fun s2 f2 hN => absurd hN (by rw [b2]; exact fun q => by cases q)) (fun s2 a2 f2 hN hR2 e21 => ?_)⟩
        rw [b2] at hN
        cases hN
        rw [e3]
        exact hS s2 a (mF_t (mF_w hf (by omega) (by omega) (fun _ h => h)) f2) ea hR2
    | succ m ih =>
      intro k x3 x4 x5 s hm h5 hf hA
      have hMs := mMD_F hM hf (by omega) A2_3
      have e1 := hMs.1.2.1
      refine vcX8_putAnywhere_8 l G s Q x1 ex x3 x4 x5 ⟨fun c => absurd c (by omega), fun _ => ⟨fun c => ⟨by omega, ih (k + 1) _ _ _ _ (by omega) (by omega) hf ?_⟩, fun c => ?_⟩⟩
      · have : alb D p r ex (k + 1) = alb D p r ex k := by
          show (if (k : Int) = ex then _ else _) = _
          rw [if_pos (by omega)]
        rw [this]; exact hA
      · refine sm_fBest hD hMs hw (mR_F hR hf (by omega)) (by omega) hr ho h1 h5 (fun y s2 f2 hB y12 h12 y13 h13 => ⟨by omega, ih (k + 1) _ _ _ _ (by omega) (by omega) (mF_t hf f2) ?_⟩)
        have e : alb D p r ex (k + 1) = cmb (alb D p r ex k) (sc D k (p.1 k) (p.2.1 k) r none) := by
          show (if (k : Int) = ex then _ else _) = _
          rw [if_neg (by omega), sc_c]
        rw [e]
        cases eb : sc D k (p.1 k) (p.2.1 k) r none with
        | none =>
          rw [eb] at hB
          have hB : y = 0 := hB
          rw [if_pos hB] at h12 h13
          rw [h12, h13]; exact hA
        | some b =>
          rw [eb] at hB
          obtain ⟨hy, -, -, e21⟩ := hB
          have bv := sc_v eb
          rw [if_neg (by omega), e21] at h12 h13
          cases ea : alb D p r ex k with
          | none =>
            rw [ea] at hA
            have hA : x3 = -1 := hA
            rw [if_pos (by omega)] at h12 h13
            show y12 = (b.2.1 : Nat) ∧ y13 = b.1
            exact ⟨by omega, h13⟩
          | some a =>
            rw [ea] at hA
            obtain ⟨a1, a2⟩ := hA
            rw [if_neg (by omega)] at h12 h13
            simp only [cmb, bet, decide_eq_true_eq]
            by_cases c2 : b.1 < a.1
            · rw [if_neg (by omega)] at h12 h13
              rw [if_pos c2]
              exact ⟨by omega, h13⟩
            · rw [if_pos (by omega)] at h12 h13
              rw [if_neg c2]
              exact ⟨by omega, by omega⟩
  exact clX8_putAnywhere l G σ Q x1 ex (key (nvN D) 0 (-1) 0 0 σ (by omega) rfl mF_r rfl)
end MODELE
