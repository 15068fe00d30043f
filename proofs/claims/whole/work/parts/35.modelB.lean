def A0 (_ : Nat) : Prop := True
theorem mT_F {lo hi : Nat} {σ σ' : Sto} {n : Nat} {t : Nat → Nat} (h : mT σ n t) (f : mF lo hi A0 σ σ') (hl : 70 ≤ lo) : mT σ' n t :=
  ⟨by rw [f.2 15 trivial]; exact h.1, fun k hk => by rw [mF_at f (by decide) (by omega)]; exact h.2 k hk⟩
section MODELB
variable {l : Launch} {G : GT} {D : Sto} {v n : Nat} {t : Nat → Nat}
theorem early_pass (hD : DOK D) (hv : v < 4) (hw : RW n t) {σ0 : Sto} (hM0 : mMD D σ0) (hT0 : mT σ0 n t) (hb0 : ∀ i, i < n → 0 ≤ σ0 70 i ∧ σ0 70 i ≤ 6000) {x1 x3 : Int} {Q : Int → Sto → Prop}
    (hQ : ∀ x s, mF 70 70 A0 σ0 s → PA n (EdE D t) x (σ0 70) (s 70) → (∀ i, i + 1 < n → σ0 70 i + (D 0 0 + ds D (t i) (t (i + 1))) ≤ s 70 (i + 1)) → (∀ i j, i < n → j < n → t i % 2 = 0 → t j = t i + 1 → σ0 70 j + (- D 6 (t i / 2) - D 0 0) ≤ s 70 i) → (∀ i, i < n → s 70 i ≤ D 4 (t i)) → MWi l G mX8_layEarly 95 [(0, vR 56), (1, vI x1), (2, vI x), (3, vI x3)] [] s Q)
    (h0 : ∀ x s k, mF 70 70 A0 σ0 s → PA n (EdE D t) x (σ0 70) (s 70) → k < n → D 4 (t k) < s 70 k → Q 0 s) :
    ∀ (m k : Nat) (x2 x4 : Int) (s : Sto), k + m = n → x4 = k → mF 70 70 A0 σ0 s → PA n (EdE D t) x2 (σ0 70) (s 70) → (∀ i, i + 1 < k → σ0 70 i + (D 0 0 + ds D (t i) (t (i + 1))) ≤ s 70 (i + 1)) → (∀ i j, i < k → j < n → t i % 2 = 0 → t j = t i + 1 → σ0 70 j + (- D 6 (t i / 2) - D 0 0) ≤ s 70 i) → (∀ i, i < k → s 70 i ≤ D 4 (t i)) → (∀ i, k ≤ i → s 70 i = σ0 70 i) →
      MWi l G mX8_layEarly 119 [(0, vR 56), (1, vI x1), (2, vI x2), (3, vI x3), (4, vI x4)] [] s Q := by
  intro m
  induction m with
  | zero =>
    intro k x2 x4 s hm h4 hf hP hc hp htop hun
    have hT := mT_F hT0 hf (by omega)
    obtain rfl : k = n := by omega
    exact vcX8_layEarly_119 l G s Q x1 x2 x3 x4 ⟨fun _ => hQ x2 s hf hP hc hp htop, fun q => absurd (by rw [hT.1]; omega) q⟩
  | succ m ih =>
    intro k x2 x4 s hm h4 hf hP hc hp htop hun
    have hkn : k < n := by omega
    have n24 := hw.1
    have hT := mT_F hT0 hf (by omega)
    have hM := mMD_F hM0 hf (by omega) ⟨trivial, trivial, trivial⟩
    obtain ⟨h15, h69⟩ := id hT
    have e4 : x4.toNat = k := by omega
    have tk := hw.2.1 k hkn
    have sv := hD.1
    have b4 := hD.2.2.1 (t k) tk
    have b6 := hD.2.2.2.1 (t k / 2) (by omega)
    have eb : ∀ i, i < n → 0 ≤ s 70 i ∧ s 70 i ≤ 6000 := fun i hi => by
      have a := hP.2.1 i hi
      have b := hb0 i hi
      refine ⟨by omega, ?_⟩
      by_cases c : i < k
      · have := htop i c
        have := hD.2.2.1 (t i) (hw.2.1 i hi)
        omega
      · rw [hun i (by omega)]; omega
    have e65 : s 65 (t k) = D 4 (t k) := (hM.2.2.1 (t k) tk).2.2.2
    have e67 : s 67 (t k / 2) = D 6 (t k / 2) := (hM.2.2.2 (t k / 2) (by omega)).2
    have fin : ∀ (want : Int), (want ≤ s 70 k ∨ ∃ j w, j < n ∧ EdE D t j k w ∧ want = s 70 j + w) → (∀ i, i + 1 = k → s 70 i + (D 0 0 + ds D (t i) (t (i + 1))) ≤ want) → (∀ j, j < n → t k % 2 = 0 → t j = t k + 1 → s 70 j + (- D 6 (t k / 2) - D 0 0) ≤ want) → ∀ y : Int, y = (if want ≤ s 70 k then x2 else 1) → ∀ s' : Sto, s' = (if want ≤ s 70 k then s else stS s 70 k want) →
        (0 ≤ s' 69 k ∧ s' 69 k < 24) ∧ (s' 70 k ≤ s' 65 (s' 69 k).toNat → (-2147483648 ≤ x4 + 1 ∧ x4 + 1 ≤ 2147483647) ∧ MWi l G mX8_layEarly 119 [(0, vR 56), (1, vI x1), (2, vI y), (3, vI x3), (4, vI (x4 + 1))] [] s' Q) ∧ (¬ (s' 70 k ≤ s' 65 (s' 69 k).toNat) → Q 0 s') := by
      intro want hwn hch hpk y hy s' hs'
      by_cases c : want ≤ s 70 k
      · rw [if_pos c] at hy hs'
        subst hy; subst hs'
        rw [h69 k hkn, Int.toNat_natCast, e65]
        refine ⟨by omega, fun ct => ⟨by omega, ih (k + 1) _ _ _ (by omega) (by omega) hf hP (fun i hi => ?_) (fun i j hi hj c1 c2 => ?_) (fun i hi => ?_) (fun i hi => hun i (by omega))⟩, fun ct => h0 _ _ k hf hP hkn (by omega)⟩
        · by_cases d : i + 1 = k
          · have a := hch i d
            have b := hP.2.1 i (by omega)
            rw [d] at a ⊢
            omega
          · exact hc i (by omega)
        · by_cases d : i = k
          · subst d
            have a := hpk j hj c1 c2
            have b := hP.2.1 j hj
            omega
          · exact hp i j (by omega) hj c1 c2
        · by_cases d : i = k
          · subst d; exact ct
          · exact htop i (by omega)
      · rw [if_neg c] at hy hs'
        subst hy; subst hs'
        have hfn : mF 70 70 A0 σ0 (stS s 70 k want) := mF_st hf (by decide) (by omega)
        have hPn : PA n (EdE D t) 1 (σ0 70) (stS s 70 k want 70) := by
          rcases hwn with q | ⟨j, w, hj, he, q⟩
          · exact absurd q c
          · exact PA_up hP hj hkn he (by omega) (fun i => by by_cases ci : i = k <;> simp [stS, ci, q])
        rw [stS_eq, stS_ne (show 69 ≠ 70 by decide), h69 k hkn, Int.toNat_natCast, stS_ne (show 65 ≠ 70 by decide), e65]
        refine ⟨by omega, fun ct => ⟨by omega, ih (k + 1) _ _ _ (by omega) (by omega) hfn hPn (fun i hi => ?_) (fun i j hi hj c1 c2 => ?_) (fun i hi => ?_) (fun i hi => by rw [stS_ni (by omega)]; exact hun i (by omega))⟩, fun ct => h0 _ _ k hfn hPn hkn (by rw [stS_eq]; omega)⟩
        · by_cases d : i + 1 = k
          · have a := hch i d
            have b := hP.2.1 i (by omega)
            rw [d, stS_eq]
            rw [d] at a
            omega
          · rw [stS_ni d]; exact hc i (by omega)
        · by_cases d : i = k
          · subst d
            have a := hpk j hj c1 c2
            have b := hP.2.1 j hj
            rw [stS_eq]
            omega
          · rw [stS_ni d]; exact hp i j (by omega) hj c1 c2
        · by_cases d : i = k
          · subst d; rw [stS_eq]; exact ct
          · rw [stS_ni d]; exact htop i (by omega)
    refine vcX8_layEarly_119 l G s Q x1 x2 x3 x4 ?_
    rw [e4, h69 k hkn]
    refine ⟨fun q => absurd q (by omega), fun _ => ⟨fun k0 => ?_, fun k0 => ?_⟩⟩
    · have ev : t k % 2 = 0 := Classical.byContradiction fun q => by
        obtain ⟨i, hi, -⟩ := hw.2.2.2.2 k hkn (by omega)
        omega
      have hk0 : k = 0 := by omega
      obtain ⟨j, hj1, hj2, hj3⟩ := hw.2.2.2.1 k hkn ev
      have ej := eb j hj2
      refine ⟨by omega, by omega, fun _ => ⟨by omega, sm_plOf hw.1 hT hw.2.2.1 hj2 (by omega) ?_⟩, fun q => absurd (by omega) q⟩
      rw [h69 k hkn, Int.toNat_natCast, show ((t k : Int) / 2).toNat = t k / 2 by omega, e67, hM.1.1]
      refine ⟨by omega, by omega, by omega, by omega, by omega, fun y45 h45 => fin y45 ?_ ?_ ?_⟩
      · rw [h45, show s 70 0 = s 70 k by rw [hk0]]
        split
        · exact Or.inl (Int.le_refl _)
        · exact Or.inr ⟨j, - D 6 (t k / 2) - D 0 0, hj2, Or.inr ⟨ev, hj3, rfl⟩, by omega⟩
      · intro i hi; omega
      · intro j2 hj2' _ c2
        have : j2 = j := hw.2.2.1 j2 j hj2' hj2 (by omega)
        subst this
        rw [h45]
        split <;> omega
    · have tk1 := hw.2.1 (k - 1) (by omega)
      have ek := eb (k - 1) (by omega)
      have d0 := ds_0 D (t (k - 1)) (t k)
      have d1 := ds_le hD (a := t (k - 1)) (b := t k) (by omega) (by omega)
      have edc : EdE D t (k - 1) k (D 0 0 + ds D (t (k - 1)) (t k)) := Or.inl ⟨by omega, rfl⟩
      rw [show (x4 - 1).toNat = k - 1 by omega, h69 (k - 1) (by omega), hM.1.1]
      refine ⟨by omega, by omega, by omega, by omega, sm_betw hD hM tk1 tk rfl rfl ?_⟩
      rw [h69 k hkn]
      refine ⟨by omega, by omega, fun ev => ?_, fun od => ?_⟩
      · have ev : t k % 2 = 0 := by omega
        obtain ⟨j, hj1, hj2, hj3⟩ := hw.2.2.2.1 k hkn ev
        have ej := eb j hj2
        refine ⟨by omega, sm_plOf hw.1 hT hw.2.2.1 hj2 (by omega) ?_⟩
        rw [h69 k hkn, Int.toNat_natCast, show ((t k : Int) / 2).toNat = t k / 2 by omega, e67, hM.1.1]
        refine ⟨by omega, by omega, by omega, by omega, by omega, fun y89 h89 => fin y89 ?_ ?_ ?_⟩
        · rw [h89]
          split
          · exact Or.inr ⟨k - 1, _, by omega, edc, by omega⟩
          · exact Or.inr ⟨j, - D 6 (t k / 2) - D 0 0, hj2, Or.inr ⟨ev, hj3, rfl⟩, by omega⟩
        · intro i hi
          have : i = k - 1 := by omega
          subst this
          rw [hi, h89]
          split <;> omega
        · intro j2 hj2' _ c2
          have : j2 = j := hw.2.2.1 j2 j hj2' hj2 (by omega)
          subst this
          rw [h89]
          split <;> omega
      · refine fin _ (Or.inr ⟨k - 1, _, by omega, edc, by omega⟩) ?_ ?_
        · intro i hi
          have : i = k - 1 := by omega
          subst this
          rw [hi]; omega
        · intro j2 _ q; omega
theorem hiE_4 (D : Sto) (v n : Nat) (t : Nat → Nat) (k : Nat) : hiE D v n t k ≤ D 4 (t k) := by
  unfold hiE
  split
  · split <;> omega
  · exact Int.le_refl _
theorem early_fin (hD : DOK D) (hv : v < 4) (hw : RW n t) {σ : Sto} (hM : mMD D σ) (hT : mT σ n t) {x1 : Int} (hx1 : x1 = v) (hb : ∀ i, i < n → loE D v t i ≤ σ 70 i ∧ σ 70 i ≤ 6000) (hfx : (∀ i, i < n → σ 70 i ≤ D 4 (t i)) ∧ ∀ j k w, j < n → k < n → EdE D t j k w → σ 70 j + w ≤ σ 70 k) (hE : ∀ E, bfL n (loE D v t) (EdE D t) E → (∀ i, i < n → E i ≤ hiE D v n t i) → ∀ i, i < n → σ 70 i ≤ E i) {Q : Int → Sto → Prop} (h1 : isE D v n t (σ 70) → Q 1 σ) (h0 : (¬ ∃ e, SC D v n t e) → Q 0 σ) :
    ((σ 56 15) = 0 → Q 1 σ) ∧ (¬ ((σ 56 15) = 0) → (-2147483648 ≤ (σ 56 15) - 1 ∧ (σ 56 15) - 1 ≤ 2147483647) ∧ (0 ≤ ((σ 56 15) - 1) ∧ ((σ 56 15) - 1) < 26) ∧ (-2147483648 ≤ (σ 70 ((σ 56 15) - 1).toNat) + (σ 56 0) ∧ (σ 70 ((σ 56 15) - 1).toNat) + (σ 56 0) ≤ 2147483647) ∧ CLi l G mX8_fromDepot [vR 56, vI x1, vI (σ 69 ((σ 56 15) - 1).toNat)] σ (fun r19 s20 => (-2147483648 ≤ ((σ 70 ((σ 56 15) - 1).toNat) + (σ 56 0)) + r19 ∧ ((σ 70 ((σ 56 15) - 1).toNat) + (σ 56 0)) + r19 ≤ 2147483647) ∧ (0 ≤ x1 ∧ x1 < 4) ∧ ∀ y24 : Int, y24 = (if (s20 61 x1.toNat) < (((σ 70 ((σ 56 15) - 1).toNat) + (σ 56 0)) + r19) then 0 else 1) → Q y24 s20)) := by
  have n24 := hw.1
  have sv := hD.1
  have hI : SC D v n t (σ 70) → Q 1 σ := fun hS => h1 ⟨hS, fun e' he' k hk => by
    obtain ⟨E, e1, e2⟩ := isE_ex he'
    exact Int.le_trans (hE E e1 (SC_E.mp e2.1).2 k hk) (e2.2 e' he' k hk)⟩
  refine ⟨fun c => hI (SC_E.mpr ⟨⟨fun k hk => (hb k hk).1, hfx.2⟩, fun k hk => absurd hk (by have := hT.1; omega)⟩), fun c => ?_⟩
  have h15 := hT.1
  have hn : 0 < n := by omega
  have tn := hw.2.1 (n - 1) (by omega)
  have d0 := ds_0 D (24 + v) (t (n - 1))
  have d1 := ds_le hD (a := 24 + v) (b := t (n - 1)) (by omega) (by omega)
  have en : (σ 56 15 - 1).toNat = n - 1 := by omega
  have bn := hb (n - 1) (by omega)
  have ln := loE_b hD hv hw (n - 1) (by omega)
  rw [en, hT.2 (n - 1) (by omega), hM.1.1]
  refine ⟨by omega, by omega, by omega, sm_from hD hM hv tn hx1 rfl ⟨by omega, by omega, fun y hy => ?_⟩⟩
  rw [show x1.toNat = v by omega, (hM.2.1 v hv).2.2.2.2] at hy
  by_cases c2 : D 9 v < σ 70 (n - 1) + D 0 0 + ds D (24 + v) (t (n - 1))
  · rw [if_pos c2] at hy
    rw [hy]
    refine h0 (fun ⟨s, hs⟩ => ?_)
    obtain ⟨E, e1, e2⟩ := isE_ex hs
    have a := hE E e1 (SC_E.mp e2.1).2 (n - 1) (by omega)
    have b := e2.1.2.2.2.2 hn
    rw [ds_s] at b
    omega
  · rw [if_neg c2] at hy
    rw [hy]
    refine hI (SC_E.mpr ⟨⟨fun k hk => (hb k hk).1, hfx.2⟩, fun k hk => ?_⟩)
    have a := hfx.1 k hk
    unfold hiE
    split
    · next q =>
      have : k = n - 1 := by omega
      subst this
      rw [ds_s D (t (n - 1)) (24 + v)]
      split <;> omega
    · exact a
theorem early_lp (hD : DOK D) (hv : v < 4) (hw : RW n t) {σ0 : Sto} (hM0 : mMD D σ0) (hT0 : mT σ0 n t) {x1 : Int} (hx1 : x1 = v) {Q : Int → Sto → Prop} (h1 : ∀ σ', mF 70 70 A0 σ0 σ' → isE D v n t (σ' 70) → Q 1 σ') (h0 : ∀ σ', mF 70 70 A0 σ0 σ' → (¬ ∃ e, SC D v n t e) → Q 0 σ') :
    ∀ (m p : Nat) (x2 x3 : Int) (σ : Sto), p + m = n + 2 → x3 = p → mF 70 70 A0 σ0 σ → (∀ i, i < n → loE D v t i ≤ σ 70 i ∧ σ 70 i ≤ 6000) → (x2 = 0 → (∀ i, i < n → σ 70 i ≤ D 4 (t i)) ∧ ∀ j k w, j < n → k < n → EdE D t j k w → σ 70 j + w ≤ σ 70 k) → (n = 0 → x2 = 0 ∨ p = 0) → (∀ E, bfL n (loE D v t) (EdE D t) E → (∀ i, i < n → E i ≤ hiE D v n t i) → (∀ i, i < n → σ 70 i ≤ E i) ∧ (0 < n → x2 ≠ 0 → p + 1 ≤ bfc E (σ 70) n)) →
      MWi l G mX8_layEarly 95 [(0, vR 56), (1, vI x1), (2, vI x2), (3, vI x3)] [] σ Q := by
  intro m
  induction m with
  | zero =>
    intro p x2 x3 σ hp hx hf hb hfx hz hE
    have hT := mT_F hT0 hf (by omega)
    have hM := mMD_F hM0 hf (by omega) ⟨trivial, trivial, trivial⟩
    have n24 := hw.1
    have h15 := hT.1
    refine vcX8_layEarly_95 l G σ Q x1 x2 x3 ⟨fun c => early_fin hD hv hw hM hT hx1 hb (hfx c) (fun E a b => (hE E a b).1) (h1 σ hf) (h0 σ hf), fun c => ⟨by omega, fun q => absurd q (by omega), fun _ => h0 σ hf (fun ⟨s, hs⟩ => ?_)⟩⟩
    by_cases hn : n = 0
    · rcases hz hn with q | q <;> omega
    · obtain ⟨E, e1, e2⟩ := isE_ex hs
      have := (hE E e1 (SC_E.mp e2.1).2).2 (by omega) c
      have := bfc_le E (σ 70) n
      omega
  | succ m ih =>
    intro p x2 x3 σ hp hx hf hb hfx hz hE
    have hT := mT_F hT0 hf (by omega)
    have hM := mMD_F hM0 hf (by omega) ⟨trivial, trivial, trivial⟩
    have n24 := hw.1
    have h15 := hT.1
    refine vcX8_layEarly_95 l G σ Q x1 x2 x3 ⟨fun c => early_fin hD hv hw hM hT hx1 hb (hfx c) (fun E a b => (hE E a b).1) (h1 σ hf) (h0 σ hf), fun c => ⟨by omega, fun _ => ⟨by omega, ?_⟩, fun q => absurd (by omega) q⟩⟩
    refine early_pass hD hv hw hM hT (fun i hi => by have := hb i hi; have := loE_b hD hv hw i hi; omega) (fun x s g P rc rp tops => ?_) (fun x s k g P hk hlt => h0 s (mF_t hf g) (fun ⟨s', hs⟩ => ?_)) n 0 0 0 σ (by omega) rfl mF_r PA_r (fun i hi => absurd hi (by omega)) (fun i j hi => absurd hi (Nat.not_lt_zero _)) (fun i hi => absurd hi (Nat.not_lt_zero _)) (fun _ _ => rfl)
    · have good : ∀ E, bfL n (loE D v t) (EdE D t) E → (∀ i, i < n → E i ≤ hiE D v n t i) → ∀ i, i < n → s 70 i ≤ E i := fun E a b => P.2.2.2.2 E a.1.2 (hE E a b).1
      have rel : ∀ j k w, j < n → k < n → EdE D t j k w → σ 70 j + w ≤ s 70 k := by
        intro j k w hj hk hw2
        rcases hw2 with ⟨rfl, rfl⟩ | ⟨c1, c2, rfl⟩
        · exact rc j hk
        · exact rp k j hk hj c1 c2
      refine ih (p + 1) x _ s (by omega) (by omega) (mF_t hf g) (fun i hi => ⟨Int.le_trans (hb i hi).1 (P.2.1 i hi), ?_⟩) (fun q => ⟨tops, fun j k w hj hk he => ?_⟩) (fun q => Or.inl ?_) (fun E a b => ⟨good E a b, fun hn hx0 => ?_⟩)
      · have := tops i hi
        have := hD.2.2.1 (t i) (hw.2.1 i hi)
        omega
      · rw [P.2.2.1 q j hj]; exact rel j k w hj hk he
      · rcases P.1 with h | h
        · exact h
        · obtain ⟨i, hi, -⟩ := P.2.2.2.1 h
          omega
      · obtain ⟨i0, hi0, hl0⟩ := P.2.2.2.1 (by rcases P.1 with h | h; exact absurd h hx0; exact h)
        have a2 := (hE E a b).2 hn c
        have hlt : bfc E (σ 70) n < n := by
          apply Classical.byContradiction
          intro q
          have q1 := bfc_all n (by omega : n ≤ bfc E (σ 70) n) i0 hi0
          have q2 := good E a b i0 hi0
          omega
        have := bf_step a (fun k hk => (hb k hk).1) P.2.1 (good E a b) rel hlt
        omega
    · obtain ⟨E, e1, e2⟩ := isE_ex hs
      have hh := (SC_E.mp e2.1).2
      have a := P.2.2.2.2 E e1.1.2 (hE E e1 hh).1 k hk
      have b := hh k hk
      have c := hiE_4 D v n t k
      omega
theorem sm_early (hD : DOK D) (hv : v < 4) (hw : RW n t) {σ : Sto} (hM : mMD D σ) (hT : mT σ n t) {x1 : Int} (hx1 : x1 = v) {Q : Int → Sto → Prop} (h1 : ∀ σ', mF 70 70 A0 σ σ' → isE D v n t (σ' 70) → Q 1 σ') (h0 : ∀ σ', mF 70 70 A0 σ σ' → (¬ ∃ e, SC D v n t e) → Q 0 σ') : CLi l G mX8_layEarly [vR 56, vI x1] σ Q := by
  have n24 := hw.1
  have go : ∀ s, mF 70 70 A0 σ s → (∀ i, i < n → s 70 i = loE D v t i) → MWi l G mX8_layEarly 95 [(0, vR 56), (1, vI x1), (2, vI 1), (3, vI 0)] [] s Q := by
    intro s hf e70
    refine early_lp hD hv hw hM hT hx1 h1 h0 (n + 2) 0 1 0 s (by omega) rfl hf (fun i hi => by rw [e70 i hi]; have := loE_b hD hv hw i hi; omega) (fun q => absurd q (by decide)) (fun _ => Or.inr rfl) (fun E a b => ⟨fun i hi => by rw [e70 i hi]; exact a.1.1 i hi, fun hn _ => ?_⟩)
    have := bf_init a hn
    rw [bfc_eq n e70]
    omega
  have key : ∀ (m k : Nat) (x2 : Int) (s : Sto), k + m = n → x2 = k → mF 70 70 A0 σ s → (∀ i, i < k → s 70 i = D 3 (t i)) → MWi l G mX8_layEarly 2 [(0, vR 56), (1, vI x1), (2, vI x2)] [] s Q := by
    intro m
    induction m with
    | zero =>
      intro k x2 s hm h2 hf hk
      obtain rfl : k = n := by omega
      have hT2 := mT_F hT hf (by omega)
      have hM2 := mMD_F hM hf (by omega) ⟨trivial, trivial, trivial⟩
      have h15 := hT2.1
      refine vcX8_layEarly_2 l G s Q x1 x2 ⟨fun _ => ⟨fun c => go s hf (fun i hi => absurd hi (by omega)), fun c => ?_⟩, fun q => absurd (by omega) q⟩
      have hn : 0 < k := by omega
      have t0 := hw.2.1 0 hn
      have d0 := ds_0 D (24 + v) (t 0)
      have d1 := ds_le hD (a := 24 + v) (b := t 0) (by omega) (by omega)
      have b8 := hD.2.2.2.2.1 v hv
      have e60 : s 60 x1.toNat = D 8 v := by rw [show x1.toNat = v by omega]; exact (hM2.2.1 v hv).2.2.2.1
      rw [e60]
      refine ⟨by omega, sm_from hD hM2 hv t0 hx1 (hT2.2 0 hn) ⟨by omega, fun c2 => go s hf (fun i hi => ?_), fun c2 => sm_from hD hM2 hv t0 hx1 (hT2.2 0 hn) ?_⟩⟩
      · rw [hk i hi]
        unfold loE
        split
        · next q => subst q; rw [hk 0 hn] at c2; rw [if_pos c2]
        · rfl
      · rw [e60]
        refine ⟨by omega, go _ (mF_st hf (by decide) (by omega)) (fun i hi => ?_)⟩
        unfold loE
        split
        · next q => subst q; rw [hk 0 hn] at c2; rw [if_neg c2, stS_eq]
        · next q => rw [stS_ni q, hk i hi]
    | succ m ih =>
      intro k x2 s hm h2 hf hk
      have hT2 := mT_F hT hf (by omega)
      have hM2 := mMD_F hM hf (by omega) ⟨trivial, trivial, trivial⟩
      have h15 := hT2.1
      have tk := hw.2.1 k (by omega)
      refine vcX8_layEarly_2 l G s Q x1 x2 ⟨fun q => absurd q (by omega), fun _ => ?_⟩
      rw [show x2.toNat = k by omega, hT2.2 k (by omega), Int.toNat_natCast, (hM2.2.2.1 (t k) tk).2.2.1]
      refine ⟨by omega, by omega, by omega, ih (k + 1) _ _ (by omega) (by omega) (mF_st hf (by decide) (by omega)) (fun i hi => ?_)⟩
      by_cases c : i = k
      · subst c; rw [stS_eq]
      · rw [stS_ni c]; exact hk i (by omega)
  exact clX8_layEarly l G σ Q x1 (key n 0 0 σ (by omega) rfl mF_r (fun i hi => absurd hi (Nat.not_lt_zero _)))
theorem sm_feas (hD : DOK D) (hv : v < 4) (hw : RW n t) {σ : Sto} (hM : mMD D σ) (hT : mT σ n t) {x1 : Int} (hx1 : x1 = v) {Q : Int → Sto → Prop} (h1 : ∀ σ', mF 70 70 A0 σ σ' → FE D v n t → Q 1 σ') (h0 : ∀ σ', mF 70 70 A0 σ σ' → ¬ FE D v n t → Q 0 σ') : CLi l G mX8_isFeasible [vR 56, vI x1] σ Q := by
  refine clX8_isFeasible l G σ Q x1 (sm_load hD hM hw hT ?_)
  rw [show x1.toNat = v by omega, (hM.2.1 v hv).2.2.1]
  refine ⟨by omega, fun c => h0 σ mF_r (fun q => by have := q.1; omega), fun c => sm_early hD hv hw hM hT hx1 (fun s f hE y hy => ?_) (fun s f hN y hy => ?_)⟩
  · rw [hy, if_neg (by decide)]; exact h1 s f ⟨by omega, _, hE.1⟩
  · rw [hy, if_pos rfl]; exact h0 s f (fun q => hN q.2)
end MODELB
