section MODELC
variable {l : Launch} {G : GT} {D : Sto} {v n : Nat} {t : Nat → Nat}
theorem late_pass (hD : DOK D) (hw : RW n t) {s0 : Nat → Int} (hs0 : SC D v n t s0) {σ0 : Sto} (hM0 : mMD D σ0) (hT0 : mT σ0 n t) (hb0 : ∀ i, i < n → s0 i ≤ σ0 71 i ∧ σ0 71 i ≤ 5000) {Q : Sto → Prop}
    (hQ : ∀ x s, mF 71 71 A0 σ0 s → PA n (EdL D t) x (fun i => - σ0 71 i) (fun i => - s 71 i) → (∀ i, i + 1 < n → s 71 i + (D 0 0 + ds D (t i) (t (i + 1))) ≤ σ0 71 (i + 1)) → (∀ i j, i < n → j < n → t i % 2 = 0 → t j = t i + 1 → s 71 j + (- D 6 (t i / 2) - D 0 0) ≤ σ0 71 i) → MWv l G mX8_layLate 109 [(0, vR 56), (3, vI x)] [] s Q) :
    ∀ (k : Nat) (x3 x4 : Int) (s : Sto), k ≤ n → x4 = (k : Int) - 1 → mF 71 71 A0 σ0 s → PA n (EdL D t) x3 (fun i => - σ0 71 i) (fun i => - s 71 i) → (∀ i, k ≤ i → i + 1 < n → s 71 i + (D 0 0 + ds D (t i) (t (i + 1))) ≤ σ0 71 (i + 1)) → (∀ i j, k ≤ j → i < n → j < n → t i % 2 = 0 → t j = t i + 1 → s 71 j + (- D 6 (t i / 2) - D 0 0) ≤ σ0 71 i) →
      MWv l G mX8_layLate 123 [(0, vR 56), (3, vI x3), (4, vI x4)] [] s Q := by
  intro k
  induction k with
  | zero =>
    intro x3 x4 s hk h4 hf hP hc hp
    exact vcX8_layLate_123 l G s Q x3 x4 ⟨fun _ => hQ x3 s hf hP (fun i hi => hc i (Nat.zero_le _) hi) (fun i j hi hj c1 c2 => hp i j (Nat.zero_le _) hi hj c1 c2), fun q => absurd (by omega) q⟩
  | succ k ih =>
    intro x3 x4 s hk h4 hf hP hc hp
    have hkn : k < n := by omega
    have n24 := hw.1
    have hT := mT_F hT0 hf (by omega)
    have hM := mMD_F hM0 hf (by omega) ⟨trivial, trivial, trivial⟩
    obtain ⟨h15, h69⟩ := id hT
    have e4 : x4.toNat = k := by omega
    have tk := hw.2.1 k hkn
    have sv := hD.1
    have b6 := hD.2.2.2.1 (t k / 2) (by omega)
    have low : ∀ i, i < n → 0 ≤ s 71 i ∧ s 71 i ≤ 5000 ∧ s 71 i ≤ σ0 71 i := fun i hi => by
      have a : - s 71 i ≤ - s0 i := hP.2.2.2.2 (fun i => - s0 i) (SC_L.mp hs0).1.2 (fun i hi => by have := (hb0 i hi).1; show - σ0 71 i ≤ - s0 i; omega) i hi
      have b : - σ0 71 i ≤ - s 71 i := hP.2.1 i hi
      have := hb0 i hi
      have := SC_0 hD hw hs0 i hi
      omega
    have e67 : s 67 (t k / 2) = D 6 (t k / 2) := (hM.2.2.2 (t k / 2) (by omega)).2
    have lk := low k hkn
    have fin : ∀ (want : Int), (s 71 k ≤ want ∨ ∃ j w, j < n ∧ EdL D t j k w ∧ - want = - s 71 j + w) → (k + 1 < n → want + (D 0 0 + ds D (t k) (t (k + 1))) ≤ s 71 (k + 1)) → (∀ i, i < n → t i % 2 = 0 → t k = t i + 1 → want + (- D 6 (t i / 2) - D 0 0) ≤ s 71 i) → ∀ y : Int, y = (if s 71 k ≤ want then x3 else 1) → ∀ s' : Sto, s' = (if s 71 k ≤ want then s else stS s 71 k want) →
        (-2147483648 ≤ x4 + (-1) ∧ x4 + (-1) ≤ 2147483647) ∧ MWv l G mX8_layLate 123 [(0, vR 56), (3, vI y), (4, vI (x4 + (-1)))] [] s' Q := by
      intro want hwn hch hpk y hy s' hs'
      by_cases c : s 71 k ≤ want
      · rw [if_pos c] at hy hs'
        subst hy; subst hs'
        refine ⟨by omega, ih _ _ _ (by omega) (by omega) hf hP (fun i hi hin => ?_) (fun i j hjk hi hj c1 c2 => ?_)⟩
        · by_cases d : i = k
          · subst d
            have a := hch hin
            have b := low (i + 1) hin
            omega
          · exact hc i (by omega) hin
        · by_cases d : j = k
          · subst d
            have a := hpk i hi c1 c2
            have b := low i hi
            omega
          · exact hp i j (by omega) hi hj c1 c2
      · rw [if_neg c] at hy hs'
        subst hy; subst hs'
        have hPn : PA n (EdL D t) 1 (fun i => - σ0 71 i) (fun i => - stS s 71 k want 71 i) := by
          rcases hwn with q | ⟨j, w, hj, he, q⟩
          · exact absurd q c
          · exact PA_up hP hj hkn he (by show - s 71 k < - s 71 j + w; omega) (fun i => by by_cases ci : i = k <;> simp [stS, ci, q])
        refine ⟨by omega, ih _ _ _ (by omega) (by omega) (mF_st hf (by decide) (by omega)) hPn (fun i hi hin => ?_) (fun i j hjk hi hj c1 c2 => ?_)⟩
        · by_cases d : i = k
          · subst d
            have a := hch hin
            have b := low (i + 1) hin
            rw [stS_eq]
            omega
          · rw [stS_ni d]; exact hc i (by omega) hin
        · by_cases d : j = k
          · subst d
            have a := hpk i hi c1 c2
            have b := low i hi
            rw [stS_eq]
            omega
          · rw [stS_ni d]; exact hp i j (by omega) hi hj c1 c2
    refine vcX8_layLate_123 l G s Q x3 x4 ?_
    rw [e4, h69 k hkn]
    refine ⟨fun q => absurd q (by omega), fun _ => ⟨by omega, fun kn => ?_, fun kn => ?_⟩⟩
    · have hk1 : k + 1 = n := by omega
      refine ⟨by omega, by omega, fun od => ?_, fun ev => ?_⟩
      · have od : t k % 2 = 1 := by omega
        obtain ⟨j, hj1, hj2⟩ := hw.2.2.2.2 k hkn od
        have lj := low j (by omega)
        refine ⟨by omega, sm_plOf hw.1 hT hw.2.2.1 (i := j) (by omega) (by omega) ?_⟩
        rw [h69 k hkn, Int.toNat_natCast, show ((t k : Int) / 2).toNat = t k / 2 by omega, e67, hM.1.1]
        have h2e : t k / 2 = t j / 2 := by omega
        refine ⟨by omega, by omega, by omega, by omega, by omega, fun y50 h50 => fin y50 ?_ (fun q => absurd q (by omega)) ?_⟩
        · rw [h50]
          split
          · exact Or.inl (Int.le_refl _)
          · exact Or.inr ⟨j, - D 6 (t j / 2) - D 0 0, by omega, Or.inr ⟨by omega, by omega, rfl⟩, by rw [h2e]; omega⟩
        · intro i hi _ c2
          have : i = j := hw.2.2.1 i j hi (by omega) (by omega)
          subst this
          rw [h50, h2e]
          split <;> omega
      · exfalso
        obtain ⟨j, hj1, hj2, -⟩ := hw.2.2.2.1 k hkn (by omega)
        omega
    · have hk1 : k + 1 < n := by omega
      have tk1 := hw.2.1 (k + 1) hk1
      have lk1 := low (k + 1) hk1
      have d0 := ds_0 D (t k) (t (k + 1))
      have d1 := ds_le hD (a := t k) (b := t (k + 1)) (by omega) (by omega)
      have edc : EdL D t (k + 1) k (D 0 0 + ds D (t k) (t (k + 1))) := Or.inl ⟨rfl, rfl⟩
      rw [show (x4 + 1).toNat = k + 1 by omega, h69 (k + 1) hk1, hM.1.1]
      refine ⟨by omega, by omega, by omega, by omega, sm_betw hD hM tk tk1 rfl rfl ?_⟩
      rw [h69 k hkn]
      refine ⟨by omega, by omega, fun od => ?_, fun ev => ?_⟩
      · have od : t k % 2 = 1 := by omega
        obtain ⟨j, hj1, hj2⟩ := hw.2.2.2.2 k hkn od
        have lj := low j (by omega)
        have h2e : t k / 2 = t j / 2 := by omega
        refine ⟨by omega, sm_plOf hw.1 hT hw.2.2.1 (i := j) (by omega) (by omega) ?_⟩
        rw [h69 k hkn, Int.toNat_natCast, show ((t k : Int) / 2).toNat = t k / 2 by omega, e67, hM.1.1]
        refine ⟨by omega, by omega, by omega, by omega, by omega, fun y90 h90 => fin y90 ?_ ?_ ?_⟩
        · rw [h90]
          split
          · exact Or.inr ⟨k + 1, _, hk1, edc, by omega⟩
          · exact Or.inr ⟨j, - D 6 (t j / 2) - D 0 0, by omega, Or.inr ⟨by omega, by omega, rfl⟩, by rw [h2e]; omega⟩
        · intro _
          rw [h90]
          split <;> omega
        · intro i hi _ c2
          have : i = j := hw.2.2.1 i j hi (by omega) (by omega)
          subst this
          rw [h90, h2e]
          split <;> omega
      · refine fin _ (Or.inr ⟨k + 1, _, hk1, edc, by omega⟩) (fun _ => by omega) ?_
        intro i hi q c2; omega
theorem mlate_lp (hD : DOK D) (hv : v < 4) (hw : RW n t) {s0 : Nat → Int} (hs0 : SC D v n t s0) {σ0 : Sto} (hM0 : mMD D σ0) (hT0 : mT σ0 n t) {E : Nat → Int} (hE : bfL n (fun k => - hiE D v n t k) (EdL D t) E) {Q : Sto → Prop} (h1 : ∀ σ', mF 71 71 A0 σ0 σ' → isL D v n t (σ' 71) → Q σ') :
    ∀ (m p : Nat) (x3 : Int) (σ : Sto), p + m = n + 1 → mF 71 71 A0 σ0 σ → (∀ i, i < n → s0 i ≤ σ 71 i ∧ σ 71 i ≤ hiE D v n t i) → (x3 = 0 → ∀ j k w, j < n → k < n → EdL D t j k w → - σ 71 j + w ≤ - σ 71 k) → (n = 0 → x3 = 0 ∨ p = 0) → (∀ i, i < n → - σ 71 i ≤ E i) → (0 < n → x3 ≠ 0 → p + 1 ≤ bfc E (fun i => - σ 71 i) n) →
      MWv l G mX8_layLate 109 [(0, vR 56), (3, vI x3)] [] σ Q := by
  intro m
  induction m with
  | zero =>
    intro p x3 σ hp hf hb hfx hz hE1 hE2
    refine vcX8_layLate_109 l G σ Q x3 ⟨fun c => ?_, fun c => ?_⟩
    · have hS : SC D v n t (σ 71) := SC_L.mpr ⟨⟨fun k hk => by have := (hb k hk).2; show - hiE D v n t k ≤ - σ 71 k; omega, fun j k w hj hk hw2 => hfx c j k w hj hk hw2⟩, fun k hk => by have := (SC_L.mp hs0).2 k hk; have := (hb k hk).1; omega⟩
      refine h1 σ hf ⟨hS, fun e' he' k hk => ?_⟩
      have a := hE1 k hk
      have b : E k ≤ - e' k := hE.2 _ (SC_L.mp he').1 k hk
      omega
    · exfalso
      by_cases hn : n = 0
      · rcases hz hn with q | q <;> omega
      · have := hE2 (by omega) c
        have := bfc_le E (fun i => - σ 71 i) n
        omega
  | succ m ih =>
    intro p x3 σ hp hf hb hfx hz hE1 hE2
    have hT := mT_F hT0 hf (by omega)
    have hM := mMD_F hM0 hf (by omega) ⟨trivial, trivial, trivial⟩
    have n24 := hw.1
    have h15 := hT.1
    have hSs := (SC_L.mp hs0).1.2
    refine vcX8_layLate_109 l G σ Q x3 ⟨fun c => ?_, fun c => ⟨by omega, ?_⟩⟩
    · have hS : SC D v n t (σ 71) := SC_L.mpr ⟨⟨fun k hk => by have := (hb k hk).2; show - hiE D v n t k ≤ - σ 71 k; omega, fun j k w hj hk hw2 => hfx c j k w hj hk hw2⟩, fun k hk => by have := (SC_L.mp hs0).2 k hk; have := (hb k hk).1; omega⟩
      refine h1 σ hf ⟨hS, fun e' he' k hk => ?_⟩
      have a := hE1 k hk
      have b : E k ≤ - e' k := hE.2 _ (SC_L.mp he').1 k hk
      omega
    refine late_pass hD hw hs0 hM hT (fun i hi => by have := hb i hi; have := hiE_b hD hv hw i hi; omega) (fun x s g P rc rp => ?_) n 0 _ σ (Nat.le_refl _) (by omega) mF_r PA_r (fun i h1 h2 => absurd h2 (by omega)) (fun i j h1 _ h2 => absurd h2 (by omega))
    have low2 : ∀ i, i < n → s0 i ≤ s 71 i ∧ s 71 i ≤ hiE D v n t i := fun i hi => by
      have a : - s 71 i ≤ - s0 i := P.2.2.2.2 (fun i => - s0 i) hSs (fun i hi => by have := (hb i hi).1; show - σ 71 i ≤ - s0 i; omega) i hi
      have b : - σ 71 i ≤ - s 71 i := P.2.1 i hi
      have := hb i hi
      omega
    have rel : ∀ j k w, j < n → k < n → EdL D t j k w → - σ 71 j + w ≤ - s 71 k := by
      intro j k w hj hk hw2
      rcases hw2 with ⟨rfl, rfl⟩ | ⟨c1, c2, rfl⟩
      · have a := rc k hj
        omega
      · have a := rp j k hj hk c1 c2
        omega
    have good : ∀ i, i < n → - s 71 i ≤ E i := P.2.2.2.2 E hE.1.2 hE1
    refine ih (p + 1) x s (by omega) (mF_t hf g) low2 (fun q j k w hj hk he => ?_) (fun q => Or.inl ?_) good (fun hn hx0 => ?_)
    · have a : - s 71 j = - σ 71 j := P.2.2.1 q j hj
      rw [a]; exact rel j k w hj hk he
    · rcases P.1 with h | h
      · exact h
      · obtain ⟨i, hi, -⟩ := P.2.2.2.1 h
        omega
    · obtain ⟨i0, hi0, hl0⟩ := P.2.2.2.1 (by rcases P.1 with h | h; exact absurd h hx0; exact h)
      have hl1 : - σ 71 i0 < - s 71 i0 := hl0
      have a2 := hE2 hn c
      have hlt : bfc E (fun i => - σ 71 i) n < n := by
        apply Classical.byContradiction
        intro q
        have q1 : - σ 71 i0 = E i0 := bfc_all n (by omega : n ≤ bfc E (fun i => - σ 71 i) n) i0 hi0
        have q2 := good i0 hi0
        omega
      have := bf_step (e := fun i => - σ 71 i) (e' := fun i => - s 71 i) hE (fun k hk => by have := (hb k hk).2; show - hiE D v n t k ≤ - σ 71 k; omega) P.2.1 good rel hlt
      omega
theorem sm_late (hD : DOK D) (hv : v < 4) (hw : RW n t) (hfe : ∃ s, SC D v n t s) {σ : Sto} (hM : mMD D σ) (hT : mT σ n t) {x1 : Int} (hx1 : x1 = v) {Q : Sto → Prop} (h1 : ∀ σ', mF 71 71 A0 σ σ' → isL D v n t (σ' 71) → Q σ') : CLv l G mX8_layLate [vR 56, vI x1] σ Q := by
  have n24 := hw.1
  obtain ⟨s0, hs0⟩ := hfe
  obtain ⟨E, hE⟩ := bf_least (SC_L.mp hs0).1
  have hh := SC_E.mp hs0
  have go : ∀ s, mF 71 71 A0 σ s → (∀ i, i < n → s 71 i = hiE D v n t i) → MWv l G mX8_layLate 109 [(0, vR 56), (3, vI 1)] [] s Q := by
    intro s hf e71
    refine mlate_lp hD hv hw hs0 hM hT hE h1 (n + 1) 0 1 s (by omega) hf (fun i hi => by rw [e71 i hi]; exact ⟨hh.2 i hi, Int.le_refl _⟩) (fun q => absurd q (by decide)) (fun _ => Or.inr rfl) (fun i hi => by rw [e71 i hi]; exact hE.1.1 i hi) (fun hn _ => ?_)
    have := bf_init hE hn
    have e : bfc E (fun i => - s 71 i) n = bfc E (fun k => - hiE D v n t k) n := bfc_eq n (fun i hi => by show - s 71 i = _; rw [e71 i hi])
    omega
  have key : ∀ (m k : Nat) (x2 : Int) (s : Sto), k + m = n → x2 = k → mF 71 71 A0 σ s → (∀ i, i < k → s 71 i = D 4 (t i)) → MWv l G mX8_layLate 2 [(0, vR 56), (1, vI x1), (2, vI x2)] [] s Q := by
    intro m
    induction m with
    | zero =>
      intro k x2 s hm h2 hf hk
      obtain rfl : k = n := by omega
      have hT2 := mT_F hT hf (by omega)
      have hM2 := mMD_F hM hf (by omega) ⟨trivial, trivial, trivial⟩
      have h15 := hT2.1
      refine vcX8_layLate_2 l G s Q x1 x2 ⟨fun _ => ⟨fun c => ⟨fun q => absurd (by omega) q, fun s8 h8 => ?_⟩, fun c => ?_⟩, fun q => absurd (by omega) q⟩
      · rw [if_pos (by omega)] at h8
        subst h8
        exact go _ hf (fun i hi => absurd hi (by omega))
      have hn : 0 < k := by omega
      have tn := hw.2.1 (k - 1) (by omega)
      have sv := hD.1
      have d0 := ds_0 D (24 + v) (t (k - 1))
      have d1 := ds_le hD (a := 24 + v) (b := t (k - 1)) (by omega) (by omega)
      have b8 := hD.2.2.2.2.1 v hv
      have e61 : s 61 x1.toNat = D 9 v := by rw [show x1.toNat = v by omega]; exact (hM2.2.1 v hv).2.2.2.2
      have en : (s 56 15 - 1).toNat = k - 1 := by omega
      rw [e61, en, hT2.2 (k - 1) (by omega), hM2.1.1]
      refine ⟨by omega, by omega, by omega, by omega, sm_from hD hM2 hv tn hx1 rfl ?_⟩
      rw [en, hk (k - 1) (by omega)]
      refine ⟨by omega, fun _ => ⟨by omega, by omega, trivial⟩, fun s25 h25 => ?_⟩
      rw [if_neg (by omega)] at h25
      have eds := ds_s D (t (k - 1)) (24 + v)
      by_cases c3 : D 4 (t (k - 1)) ≤ D 9 v - D 0 0 - ds D (24 + v) (t (k - 1))
      · rw [if_pos c3] at h25
        subst h25
        refine go _ hf (fun i hi => ?_)
        rw [hk i hi]
        unfold hiE
        split
        · next q =>
          have : i = k - 1 := by omega
          subst this
          rw [if_pos (by omega)]
        · rfl
      · rw [if_neg c3] at h25
        subst h25
        refine go _ (mF_st hf (by decide) (by omega)) (fun i hi => ?_)
        unfold hiE
        split
        · next q =>
          have : i = k - 1 := by omega
          subst this
          rw [if_neg (by omega), stS_eq]
          omega
        · rw [stS_ni (by omega), hk i hi]
    | succ m ih =>
      intro k x2 s hm h2 hf hk
      have hT2 := mT_F hT hf (by omega)
      have hM2 := mMD_F hM hf (by omega) ⟨trivial, trivial, trivial⟩
      have h15 := hT2.1
      have tk := hw.2.1 k (by omega)
      refine vcX8_layLate_2 l G s Q x1 x2 ⟨fun q => absurd q (by omega), fun _ => ?_⟩
      rw [show x2.toNat = k by omega, hT2.2 k (by omega), Int.toNat_natCast, (hM2.2.2.1 (t k) tk).2.2.2]
      refine ⟨by omega, by omega, by omega, ih (k + 1) _ _ (by omega) (by omega) (mF_st hf (by decide) (by omega)) (fun i hi => ?_)⟩
      by_cases c : i = k
      · subst c; rw [stS_eq]
      · rw [stS_ni c]; exact hk i (by omega)
  exact clX8_layLate l G σ Q x1 (key n 0 0 σ (by omega) rfl mF_r (fun i hi => absurd hi (Nat.not_lt_zero _)))
end MODELC
