def EdE (D : Sto) (t : Nat → Nat) (j k : Nat) (w : Int) : Prop := (k = j + 1 ∧ w = D 0 0 + ds D (t j) (t k)) ∨ (t k % 2 = 0 ∧ t j = t k + 1 ∧ w = - D 6 (t k / 2) - D 0 0)
def EdL (D : Sto) (t : Nat → Nat) (j k : Nat) (w : Int) : Prop := (j = k + 1 ∧ w = D 0 0 + ds D (t k) (t j)) ∨ (t j % 2 = 0 ∧ t k = t j + 1 ∧ w = - D 6 (t j / 2) - D 0 0)
theorem SC_E {D : Sto} {v n : Nat} {t : Nat → Nat} {e : Nat → Int} : SC D v n t e ↔ bfS n (loE D v t) (EdE D t) e ∧ ∀ k, k < n → e k ≤ hiE D v n t k := by
  constructor
  · rintro ⟨h1, h2, h3, h4, h5⟩
    refine ⟨⟨fun k hk => ?_, fun j k w hj hk hw => ?_⟩, fun k hk => ?_⟩
    · have a := h3 k hk
      unfold loE
      split
      · next c => subst c; have := h1 hk; split <;> omega
      · exact a.1
    · rcases hw with ⟨rfl, rfl⟩ | ⟨c1, c2, rfl⟩
      · have := h2 j hk; omega
      · have := h4 k j hk hj c1 c2; omega
    · have a := h3 k hk
      unfold hiE
      split
      · next c =>
        have := h5 (by omega)
        rw [show n - 1 = k by omega] at this
        split <;> omega
      · exact a.2
  · rintro ⟨⟨h1, h2⟩, h3⟩
    have lo : ∀ k, k < n → D 3 (t k) ≤ e k := fun k hk => by
      have a := h1 k hk
      unfold loE at a
      split at a
      · next c => subst c; split at a <;> omega
      · exact a
    have hi : ∀ k, k < n → e k ≤ D 4 (t k) := fun k hk => by
      have a := h3 k hk
      unfold hiE at a
      split at a
      · split at a <;> omega
      · exact a
    refine ⟨fun h => ?_, fun k hk => ?_, fun k hk => ⟨lo k hk, hi k hk⟩, fun i j hi hj c1 c2 => ?_, fun h => ?_⟩
    · have a := h1 0 h
      unfold loE at a
      rw [if_pos rfl] at a
      split at a <;> omega
    · have := h2 k (k + 1) _ (by omega) hk (Or.inl ⟨rfl, rfl⟩); omega
    · have := h2 j i _ hj hi (Or.inr ⟨c1, c2, rfl⟩); omega
    · have a := h3 (n - 1) (by omega)
      unfold hiE at a
      rw [if_pos (by omega)] at a
      split at a <;> omega
theorem SC_L {D : Sto} {v n : Nat} {t : Nat → Nat} {e : Nat → Int} : SC D v n t e ↔ bfS n (fun k => - hiE D v n t k) (EdL D t) (fun k => - e k) ∧ ∀ k, k < n → loE D v t k ≤ e k := by
  rw [SC_E]
  constructor
  · rintro ⟨⟨h1, h2⟩, h3⟩
    refine ⟨⟨fun k hk => ?_, fun j k w hj hk hw => ?_⟩, h1⟩
    · have := h3 k hk
      show - hiE D v n t k ≤ - e k
      omega
    · show - e j + w ≤ - e k
      rcases hw with ⟨rfl, rfl⟩ | ⟨c1, c2, rfl⟩
      · have := h2 k (k + 1) _ hk hj (Or.inl ⟨rfl, rfl⟩); omega
      · have := h2 k j _ hk hj (Or.inr ⟨c1, c2, rfl⟩); omega
  · rintro ⟨⟨h1, h2⟩, h3⟩
    refine ⟨⟨h3, fun j k w hj hk hw => ?_⟩, fun k hk => ?_⟩
    · rcases hw with ⟨rfl, rfl⟩ | ⟨c1, c2, rfl⟩
      · have : - e (j + 1) + (D 0 0 + ds D (t j) (t (j + 1))) ≤ - e j := h2 (j + 1) j _ hk hj (Or.inl ⟨rfl, rfl⟩)
        omega
      · have : - e k + (- D 6 (t k / 2) - D 0 0) ≤ - e j := h2 k j _ hk hj (Or.inr ⟨c1, c2, rfl⟩)
        omega
    · have : - hiE D v n t k ≤ - e k := h1 k hk
      omega
theorem isE_of {D : Sto} {v n : Nat} {t : Nat → Nat} {E s : Nat → Int} (hE : bfL n (loE D v t) (EdE D t) E) (hs : SC D v n t s) : isE D v n t E := by
  have h := SC_E.mp hs
  exact ⟨SC_E.mpr ⟨hE.1, fun k hk => Int.le_trans (hE.2 s h.1 k hk) (h.2 k hk)⟩, fun e' he' => hE.2 e' (SC_E.mp he').1⟩
theorem isE_ex {D : Sto} {v n : Nat} {t : Nat → Nat} {s : Nat → Int} (hs : SC D v n t s) : ∃ E, bfL n (loE D v t) (EdE D t) E ∧ isE D v n t E := by
  obtain ⟨E, hE⟩ := bf_least (SC_E.mp hs).1
  exact ⟨E, hE, isE_of hE hs⟩
theorem isL_of {D : Sto} {v n : Nat} {t : Nat → Nat} {E s : Nat → Int} (hE : bfL n (fun k => - hiE D v n t k) (EdL D t) E) (hs : SC D v n t s) : isL D v n t (fun k => - E k) := by
  have h := SC_L.mp hs
  refine ⟨SC_L.mpr ⟨?_, fun k hk => ?_⟩, fun e' he' k hk => ?_⟩
  · have : (fun k => - - E k) = E := funext fun k => Int.neg_neg _
    rw [this]; exact hE.1
  · have a : E k ≤ - s k := hE.2 _ h.1 k hk
    have b := h.2 k hk
    show loE D v t k ≤ - E k
    omega
  · have a : E k ≤ - e' k := hE.2 _ (SC_L.mp he').1 k hk
    show e' k ≤ - E k
    omega
theorem loE_b {D : Sto} (hD : DOK D) {v n : Nat} (hv : v < 4) {t : Nat → Nat} (hw : RW n t) (k : Nat) (hk : k < n) : 0 ≤ loE D v t k ∧ loE D v t k ≤ 5198 := by
  have a := hD.2.2.1 (t k) (hw.2.1 k hk)
  unfold loE
  split
  · next c =>
    subst c
    have b := hD.2.2.2.2.1 v hv
    have d := ds_le hD (a := 24 + v) (b := t 0) (by omega) (by have := hw.2.1 0 hk; omega)
    have d0 := ds_0 D (24 + v) (t 0)
    split <;> omega
  · omega
theorem hiE_b {D : Sto} (hD : DOK D) {v n : Nat} (hv : v < 4) {t : Nat → Nat} (hw : RW n t) (k : Nat) (hk : k < n) : -208 ≤ hiE D v n t k ∧ hiE D v n t k ≤ 5000 := by
  have a := hD.2.2.1 (t k) (hw.2.1 k hk)
  have b := hD.2.2.2.2.1 v hv
  have d := ds_le hD (a := t k) (b := 24 + v) (by have := hw.2.1 k hk; omega) (by omega)
  have d0 := ds_0 D (t k) (24 + v)
  have s := hD.1
  unfold hiE
  split
  · split <;> omega
  · omega
theorem gpf_b {D : Sto} (hD : DOK D) {v n : Nat} (hv : v < 4) {t : Nat → Nat} (hw : RW n t) (k : Nat) (hk : k < n) : 0 ≤ gpf D v t k ∧ gpf D v t k ≤ 208 := by
  have s := hD.1
  unfold gpf
  split
  · have d := ds_le hD (a := 24 + v) (b := t 0) (by omega) (by have := hw.2.1 0 (by omega); omega)
    have d0 := ds_0 D (24 + v) (t 0)
    omega
  · have d := ds_le hD (a := t (k - 1)) (b := t k) (by have := hw.2.1 (k - 1) (by omega); omega) (by have := hw.2.1 k hk; omega)
    have d0 := ds_0 D (t (k - 1)) (t k)
    omega
theorem gpf_s (D : Sto) (v : Nat) (t : Nat → Nat) (k : Nat) : gpf D v t (k + 1) = D 0 0 + ds D (t k) (t (k + 1)) := by
  unfold gpf
  rw [if_neg (by omega), Nat.add_sub_cancel]
  omega
def PA (n : Nat) (Ed : Nat → Nat → Int → Prop) (x : Int) (a b : Nat → Int) : Prop := (x = 0 ∨ x = 1) ∧ (∀ i, i < n → a i ≤ b i) ∧ (x = 0 → ∀ i, i < n → b i = a i) ∧ (x = 1 → ∃ i, i < n ∧ a i < b i) ∧ ∀ E : Nat → Int, (∀ j k w, j < n → k < n → Ed j k w → E j + w ≤ E k) → (∀ i, i < n → a i ≤ E i) → ∀ i, i < n → b i ≤ E i
theorem PA_r {n : Nat} {Ed : Nat → Nat → Int → Prop} {a : Nat → Int} : PA n Ed 0 a a := ⟨Or.inl rfl, fun _ _ => Int.le_refl _, fun _ _ _ => rfl, fun h => absurd h (by decide), fun _ _ h => h⟩
theorem PA_up {n : Nat} {Ed : Nat → Nat → Int → Prop} {x : Int} {a b b' : Nat → Int} {j k : Nat} {w : Int} (h : PA n Ed x a b) (hj : j < n) (hk : k < n) (he : Ed j k w) (hlt : b k < b j + w) (hb : ∀ i, b' i = if i = k then b j + w else b i) : PA n Ed 1 a b' := by
  obtain ⟨h1, h2, h3, h4, h5⟩ := h
  refine ⟨Or.inr rfl, fun i hi => ?_, fun q => absurd q (by decide), fun _ => ⟨k, hk, ?_⟩, fun E hE hA i hi => ?_⟩
  · rw [hb]
    split
    · next c => subst c; have := h2 i hi; omega
    · exact h2 i hi
  · rw [hb, if_pos rfl]; have := h2 k hk; omega
  · rw [hb]
    split
    · next c => subst c; have := h5 E hE hA j hj; have := hE j i w hj hi he; omega
    · exact h5 E hE hA i hi
theorem PA_t {n : Nat} {Ed : Nat → Nat → Int → Prop} {x y : Int} {a b c : Nat → Int} (h : PA n Ed x a b) (h' : PA n Ed y b c) : (∀ i, i < n → a i ≤ c i) ∧ (x = 0 → y = 0 → ∀ i, i < n → c i = a i) ∧ (¬ (x = 0 ∧ y = 0) → ∃ i, i < n ∧ a i < c i) ∧ ∀ E : Nat → Int, (∀ j k w, j < n → k < n → Ed j k w → E j + w ≤ E k) → (∀ i, i < n → a i ≤ E i) → ∀ i, i < n → c i ≤ E i := by
  refine ⟨fun i hi => Int.le_trans (h.2.1 i hi) (h'.2.1 i hi), fun q q' i hi => (h'.2.2.1 q' i hi).trans (h.2.2.1 q i hi), fun q => ?_, fun E hE hA => h'.2.2.2.2 E hE (h.2.2.2.2 E hE hA)⟩
  rcases h.1 with rfl | rfl
  · rcases h'.1 with rfl | rfl
    · exact absurd ⟨rfl, rfl⟩ q
    · obtain ⟨i, hi, hl⟩ := h'.2.2.2.1 rfl
      exact ⟨i, hi, by have := h.2.1 i hi; omega⟩
  · obtain ⟨i, hi, hl⟩ := h.2.2.2.1 rfl
    exact ⟨i, hi, by have := h'.2.1 i hi; omega⟩
theorem TB_ag {D : Sto} {v n : Nat} {t : Nat → Nat} {σ σ' : Sto} (h : TB D v n t σ) (hg : ag 41 43 σ σ') : TB D v n t σ' := by
  obtain ⟨h1, ⟨a1, a2, a3, a4, a5, a6, a7⟩, h2, h3, h4⟩ := h
  have e : ∀ k, (k < 41 ∨ 43 ≤ k) → ∀ i, σ' k i = σ k i := fun k hk i => ag_at hg hk i
  refine ⟨?_, ⟨?_, ?_, ?_, ?_, ?_, ?_, ?_⟩, ?_, ?_, ?_⟩
  · rw [e 40 (by omega)]; exact h1
  · rw [e 40 (by omega)]; exact a1
  · rw [e 40 (by omega)]; exact a2
  · intro i hi; rw [e 43 (by omega)]; exact a3 i hi
  · intro i hi; rw [e 44 (by omega)]; exact a4 i hi
  · intro i hi; rw [e 47 (by omega)]; exact a5 i hi
  · intro i hi; rw [e 48 (by omega)]; exact a6 i hi
  · intro i hi; rw [e 49 (by omega)]; exact a7 i hi
  · intro h; rw [e 44 (by omega)]; exact h2 h
  · intro i hi; rw [e 45 (by omega)]; exact h3 i hi
  · intro i hi; rw [e 46 (by omega)]; exact h4 i hi
section FITS
variable {l : Launch} {G : GT} {D : Sto} {v n r : Nat} {t : Nat → Nat}
theorem dStops_lp (hD : DOK D) (hv : v < 4) (hw : RW n t) {σ0 : Sto} (hT0 : TB D v n t σ0) (hb0 : ∀ i, i < n → 0 ≤ σ0 41 i) {Q : Int → Sto → Prop}
    (hQ : ∀ x σ', ag 41 42 σ0 σ' → PA n (EdE D t) x (σ0 41) (σ' 41) → (∀ i, i + 1 < n → σ0 41 i + (D 0 0 + ds D (t i) (t (i + 1))) ≤ σ' 41 (i + 1)) → (∀ i, i < n → σ' 41 i ≤ 12000) → Q x σ') :
    ∀ (m k : Nat) (x1 x2 : Int) (σ : Sto), k + m = n ∨ (n = 0 ∧ k = 1 ∧ m = 0) → x2 = k → 1 ≤ k → ag 41 42 σ0 σ → PA n (EdE D t) x1 (σ0 41) (σ 41) → (∀ i, i + 1 < k → i + 1 < n → σ0 41 i + (D 0 0 + ds D (t i) (t (i + 1))) ≤ σ 41 (i + 1)) → (∀ i, i < n → σ 41 i ≤ 6000 + 208 * (i : Int)) →
      MWi l G mX6_delayStops 4 [(0, vR 40), (1, vI x1), (2, vI x2)] [] σ Q := by
  intro m
  induction m with
  | zero =>
    intro k x1 x2 σ hk h2 h1 hg hP hrel hub
    have hT := TB_ag hT0 (ag_w hg (by omega) (by omega))
    have n24 := hw.1
    refine vcX6_delayStops_4 l G σ Q x1 x2 ⟨fun _ => ⟨hP.1, hQ x1 σ hg hP (fun i hi => hrel i (by omega) hi) (fun i hi => ?_)⟩, fun h => absurd (by rw [hT.1]; omega) h⟩
    have := hub i hi
    omega
  | succ m ih =>
    intro k x1 x2 σ hk h2 h1 hg hP hrel hub
    have hkn : k < n := by omega
    have n24 := hw.1
    have hT := TB_ag hT0 (ag_w hg (by omega) (by omega))
    refine vcX6_delayStops_4 l G σ Q x1 x2 ⟨fun h => absurd h (by rw [hT.1]; omega), fun _ => ?_⟩
    have e1 : (x2 - 1).toNat = k - 1 := by omega
    have e2 : x2.toNat = k := by omega
    have eg : σ 44 k = gpf D v t k := hT.2.1.2.2.2.1 k hkn
    have gb := gpf_b hD hv hw k hkn
    have gs := gpf_s D v t (k - 1)
    rw [show k - 1 + 1 = k by omega] at gs
    have b1 := hub (k - 1) (by omega)
    have b2 := hP.2.1 (k - 1) (by omega)
    have b3 := hb0 (k - 1) (by omega)
    have b4 := hP.2.1 k hkn
    have b5 := hb0 k hkn
    rw [e1, e2, eg]
    have ck : ((k - 1 : Nat) : Int) = (k : Int) - 1 := by omega
    rw [ck] at b1
    refine ⟨by omega, by omega, by omega, by omega, by omega, fun y hy s hs => ⟨by omega, ?_⟩⟩
    by_cases c : σ 41 (k - 1) + gpf D v t k ≤ σ 41 k
    · rw [if_pos c] at hy hs
      subst hy; subst hs
      refine ih (k + 1) _ _ _ (by omega) (by omega) (by omega) hg hP (fun i hi hin => ?_) hub
      by_cases ci : i + 1 = k
      · have hi2 : i = k - 1 := by omega
        subst hi2
        rw [show k - 1 + 1 = k by omega]
        omega
      · exact hrel i (by omega) hin
    · rw [if_neg c] at hy hs
      subst hy; subst hs
      refine ih (k + 1) _ _ _ (by omega) (by omega) (by omega) (ag_st hg (by omega)) (PA_up hP (j := k - 1) (k := k) (w := gpf D v t k) (by omega) hkn (Or.inl ⟨by omega, by rw [gs]⟩) (by omega) (fun i => by by_cases ci : i = k <;> simp [stS, ci])) (fun i hi hin => ?_) (fun i hi => ?_)
      · by_cases ci : i + 1 = k
        · have hi2 : i = k - 1 := by omega
          subst hi2
          rw [show k - 1 + 1 = k by omega, stS_eq]
          omega
        · rw [stS_ni (by omega)]; exact hrel i (by omega) hin
      · by_cases ci : i = k
        · subst ci; rw [stS_eq]; omega
        · rw [stS_ni ci]; exact hub i hi
theorem sp_dStops (hD : DOK D) (hv : v < 4) (hw : RW n t) {σ : Sto} (hT : TB D v n t σ) (hb0 : ∀ i, i < n → 0 ≤ σ 41 i ∧ σ 41 i ≤ 6000) {Q : Int → Sto → Prop}
    (hQ : ∀ x σ', ag 41 42 σ σ' → PA n (EdE D t) x (σ 41) (σ' 41) → (∀ i, i + 1 < n → σ 41 i + (D 0 0 + ds D (t i) (t (i + 1))) ≤ σ' 41 (i + 1)) → (∀ i, i < n → σ' 41 i ≤ 12000) → Q x σ') : CLi l G mX6_delayStops [vR 40] σ Q :=
  clX6_delayStops l G σ Q (dStops_lp hD hv hw hT (fun i hi => (hb0 i hi).1) hQ (n - 1) 1 0 1 σ (by omega) rfl (by omega) ag_r PA_r (fun i h1 h2 => absurd h1 (by omega)) (fun i hi => by have := hb0 i hi; omega))
theorem dPick_lp (hD : DOK D) (hw : RW n t) {σ0 : Sto} (hT0 : TB D v n t σ0) (hb0 : ∀ i, i < n → 0 ≤ σ0 41 i) {Q : Int → Sto → Prop}
    (hQ : ∀ x σ', ag 41 42 σ0 σ' → PA n (EdE D t) x (σ0 41) (σ' 41) → (∀ i j, i < n → j < n → t i % 2 = 0 → t j = t i + 1 → σ' 41 j + (- D 6 (t i / 2) - D 0 0) ≤ σ' 41 i) → (∀ i, i < n → σ' 41 i ≤ 12000) → Q x σ') :
    ∀ (k : Nat) (x1 x2 : Int) (σ : Sto), x2 = k ∨ (k = 0 ∧ x2 = -1) → k < n ∨ k = 0 → ag 41 42 σ0 σ → PA n (EdE D t) x1 (σ0 41) (σ 41) → (∀ i j, i < n → j < n → k < j → t i % 2 = 0 → t j = t i + 1 → σ 41 j + (- D 6 (t i / 2) - D 0 0) ≤ σ 41 i) → (∀ i, i < n → σ 41 i ≤ 12000) →
      MWi l G mX6_delayPickups 9 [(0, vR 40), (1, vI x1), (2, vI x2)] [] σ Q := by
  intro k
  induction k with
  | zero =>
    intro x1 x2 σ h2 hk hg hP hrel hub
    refine vcX6_delayPickups_9 l G σ Q x1 x2 ⟨fun _ => ⟨hP.1, hQ x1 σ hg hP (fun i j hi hj c1 c2 => ?_) hub⟩, fun h => absurd (by omega) h⟩
    refine hrel i j hi hj ?_ c1 c2
    obtain ⟨j2, a1, a2, a3⟩ := hw.2.2.2.1 i hi c1
    have := hw.2.2.1 j j2 hj a2 (by omega)
    omega
  | succ k ih =>
    intro x1 x2 σ h2 hk hg hP hrel hub
    have hkn : k + 1 < n := by omega
    have n24 := hw.1
    have hT := TB_ag hT0 (ag_w hg (by omega) (by omega))
    refine vcX6_delayPickups_9 l G σ Q x1 x2 ⟨fun h => absurd h (by omega), fun _ => ?_⟩
    have e2 : x2.toNat = k + 1 := by omega
    obtain ⟨p, p1, p2, p3⟩ := hT.2.1.2.2.2.2.2.1 (k + 1) hkn
    have ew := hT.2.1.2.2.2.2.2.2 (k + 1) hkn
    have tk := hw.2.1 (k + 1) hkn
    have b5 := hD.2.2.2.1 (t (k + 1) / 2) (by omega)
    have sv := hD.1
    have ep : ((p : Nat) : Int).toNat = p := by omega
    have c1 := hub (k + 1) hkn
    have c2 := hP.2.1 (k + 1) hkn
    have c3 := hb0 (k + 1) hkn
    rw [e2, ew, p3, ep]
    refine ⟨by omega, by omega, by omega, fun y hy s hs => ⟨by omega, ?_⟩⟩
    by_cases c : σ 41 (k + 1) - (D 0 0 + D 6 (t (k + 1) / 2)) ≤ σ 41 p
    · rw [if_pos c] at hy hs
      subst hy; subst hs
      refine ih _ _ _ (by omega) (by omega) hg hP (fun i j hi hj hkj d1 d2 => ?_) hub
      by_cases cj : j = k + 1
      · subst cj
        have hip : i = p := hw.2.2.1 i p hi (by omega) (by omega)
        subst hip
        have : t (k + 1) / 2 = t i / 2 := by omega
        rw [this] at c
        omega
      · exact hrel i j hi hj (by omega) d1 d2
    · rw [if_neg c] at hy hs
      subst hy; subst hs
      have hpk : p ≠ k + 1 := fun q => by rw [q] at c; omega
      have hod : t (k + 1) % 2 = 1 := Classical.byContradiction fun q => hpk (hw.2.2.1 p (k + 1) (by omega) hkn (by omega))
      have h2e : t (k + 1) / 2 = t p / 2 := by omega
      refine ih _ _ _ (by omega) (by omega) (ag_st hg (by omega)) (PA_up hP (j := k + 1) (k := p) (w := - D 6 (t p / 2) - D 0 0) hkn (by omega) (Or.inr ⟨by omega, by omega, rfl⟩) (by rw [h2e] at c; omega) (fun i => by by_cases ci : i = p <;> simp [stS, ci]; rw [h2e]; omega)) (fun i j hi hj hkj d1 d2 => ?_) (fun i hi => ?_)
      · have hjp : j ≠ p := by omega
        rw [stS_ni hjp]
        by_cases cj : j = k + 1
        · subst cj
          have hip : i = p := hw.2.2.1 i p hi (by omega) (by omega)
          subst hip
          rw [stS_eq, h2e]
          omega
        · have := hrel i j hi hj (by omega) d1 d2
          by_cases ci : i = p
          · subst ci; rw [stS_eq]; omega
          · rw [stS_ni ci]; exact this
      · by_cases ci : i = p
        · subst ci; rw [stS_eq]; omega
        · rw [stS_ni ci]; exact hub i hi
theorem sp_dPick (hD : DOK D) (hw : RW n t) {σ : Sto} (hT : TB D v n t σ) (hb0 : ∀ i, i < n → 0 ≤ σ 41 i ∧ σ 41 i ≤ 12000) {Q : Int → Sto → Prop}
    (hQ : ∀ x σ', ag 41 42 σ σ' → PA n (EdE D t) x (σ 41) (σ' 41) → (∀ i j, i < n → j < n → t i % 2 = 0 → t j = t i + 1 → σ' 41 j + (- D 6 (t i / 2) - D 0 0) ≤ σ' 41 i) → (∀ i, i < n → σ' 41 i ≤ 12000) → Q x σ') : CLi l G mX6_delayPickups [vR 40] σ Q := by
  have n24 := hw.1
  refine clX6_delayPickups l G σ Q ⟨by rw [hT.1]; omega, ?_⟩
  rw [hT.1]
  exact dPick_lp hD hw hT (fun i hi => (hb0 i hi).1) hQ (n - 1) 0 _ σ (by omega) (by omega) ag_r PA_r (fun i j hi hj h1 => absurd h1 (by omega)) (fun i hi => (hb0 i hi).2)
theorem sp_late (hw : RW n t) {σ : Sto} (hT : TB D v n t σ) {Q : Int → Sto → Prop} (h0 : (∀ i, i < n → σ 41 i ≤ hiE D v n t i) → Q 0 σ) (h1 : (∃ i, i < n ∧ hiE D v n t i < σ 41 i) → Q 1 σ) : CLi l G mX6_isTooLate [vR 40] σ Q := by
  have n24 := hw.1
  have key : ∀ (m k : Nat) (x1 : Int), k + m = n → x1 = k → (∀ i, i < k → σ 41 i ≤ hiE D v n t i) → MWi l G mX6_isTooLate 2 [(0, vR 40), (1, vI x1)] [] σ Q := by
    intro m
    induction m with
    | zero =>
      intro k x1 hk hx hA
      obtain rfl : k = n := by omega
      exact vcX6_isTooLate_2 l G σ Q x1 ⟨fun _ => h0 hA, fun h => absurd (by rw [hT.1]; omega) h⟩
    | succ m ih =>
      intro k x1 hk hx hA
      have e : x1.toNat = k := by omega
      refine vcX6_isTooLate_2 l G σ Q x1 ⟨fun h => absurd h (by rw [hT.1]; omega), fun _ => ?_⟩
      rw [e, hT.2.2.2.2 k (by omega)]
      refine ⟨by omega, fun c => ⟨by omega, ih (k + 1) _ (by omega) (by omega) (fun i hi => ?_)⟩, fun c => h1 ⟨k, by omega, by omega⟩⟩
      by_cases ci : i = k
      · subst ci; exact c
      · exact hA i (by omega)
  exact clX6_isTooLate l G σ Q (key n 0 0 (by omega) rfl (fun i hi => absurd hi (Nat.not_lt_zero _)))
theorem fits_lp (hD : DOK D) (hv : v < 4) (hw : RW n t) {σ0 : Sto} (hT0 : TB D v n t σ0) {Q : Int → Sto → Prop} (h1 : ∀ σ', ag 41 42 σ0 σ' → isE D v n t (σ' 41) → Q 1 σ') (h0 : ∀ σ', ag 41 42 σ0 σ' → (¬ ∃ e, SC D v n t e) → Q 0 σ') :
    ∀ (m p : Nat) (x2 : Int) (σ : Sto), p + m = n + 1 → x2 = p → ag 41 42 σ0 σ → (∀ i, i < n → loE D v t i ≤ σ 41 i ∧ σ 41 i ≤ 6000) → (n = 0 → p = 0) → (0 < n → ∀ E, bfL n (loE D v t) (EdE D t) E → (∀ i, i < n → E i ≤ hiE D v n t i) → (∀ i, i < n → σ 41 i ≤ E i) ∧ p + 1 ≤ bfc E (σ 41) n) →
      MWi l G mX6_fits 43 [(0, vR 40), (2, vI x2)] [] σ Q := by
  intro m
  induction m with
  | zero =>
    intro p x2 σ hp hx hg hb hz hE
    have hT := TB_ag hT0 (ag_w hg (by omega) (by omega))
    refine vcX6_fits_43 l G σ Q x2 ⟨fun _ => h0 σ hg (fun ⟨s, hs⟩ => ?_), fun h => absurd (by rw [hT.1]; omega) h⟩
    by_cases hn : n = 0
    · have := hz hn; omega
    · obtain ⟨E, e1, e2⟩ := isE_ex hs
      have := (hE (by omega) E e1 (SC_E.mp e2.1).2).2
      have := bfc_le E (σ 41) n
      omega
  | succ m ih =>
    intro p x2 σ hp hx hg hb hz hE
    have n24 := hw.1
    have hT := TB_ag hT0 (ag_w hg (by omega) (by omega))
    refine vcX6_fits_43 l G σ Q x2 ⟨fun h => absurd h (by rw [hT.1]; omega), fun _ => ?_⟩
    refine sp_dStops hD hv hw hT (fun i hi => by have := hb i hi; have := loE_b hD hv hw i hi; omega) (fun x s1 g1 P1 r1 u1 => ?_)
    have hT1 := TB_ag hT (ag_w g1 (by omega) (by omega))
    have lo1 : ∀ i, i < n → 0 ≤ s1 41 i := fun i hi => by have := hb i hi; have := loE_b hD hv hw i hi; have := P1.2.1 i hi; omega
    refine sp_dPick hD hw hT1 (fun i hi => ⟨lo1 i hi, u1 i hi⟩) (fun y s2 g2 P2 r2 u2 => ?_)
    have hT2 := TB_ag hT1 (ag_w g2 (by omega) (by omega))
    obtain ⟨t1, t2, t3, t4⟩ := PA_t P1 P2
    have hg2 := ag_t hg (ag_t g1 g2)
    have lo2 : ∀ i, i < n → loE D v t i ≤ s2 41 i := fun i hi => Int.le_trans (hb i hi).1 (t1 i hi)
    have rel : ∀ j k w, j < n → k < n → EdE D t j k w → σ 41 j + w ≤ s2 41 k := by
      intro j k w hj hk hw2
      rcases hw2 with ⟨rfl, rfl⟩ | ⟨c1, c2, rfl⟩
      · have := r1 j hk
        have := P2.2.1 (j + 1) hk
        omega
      · have := r2 k j hk hj c1 c2
        have := t1 j hj
        omega
    have good : ∀ E, bfL n (loE D v t) (EdE D t) E → (∀ i, i < n → E i ≤ hiE D v n t i) → 0 < n → ∀ i, i < n → s2 41 i ≤ E i := fun E h1 h2 h3 => t4 E h1.1.2 (hE h3 E h1 h2).1
    refine sp_late hw hT2 (fun hl => ⟨fun _ => ?_, fun q => absurd rfl q⟩) (fun ⟨i, hi, hlt⟩ => ⟨fun q => absurd q (by decide), fun _ => h0 s2 hg2 (fun ⟨s, hs⟩ => ?_)⟩)
    · have cont : ¬ (x = 0 ∧ y = 0) → (-2147483648 ≤ x2 + 1 ∧ x2 + 1 ≤ 2147483647) ∧ MWi l G mX6_fits 43 [(0, vR 40), (2, vI (x2 + 1))] [] s2 Q := by
        intro hne
        obtain ⟨i0, hi0, hl0⟩ := t3 hne
        refine ⟨by omega, ih (p + 1) _ _ (by omega) (by omega) hg2 (fun i hi => ⟨lo2 i hi, by have := hl i hi; have := hiE_b hD hv hw i hi; omega⟩) (fun q => absurd hi0 (by omega)) (fun hn E e1 e2 => ⟨good E e1 e2 hn, ?_⟩)⟩
        obtain ⟨a1, a2⟩ := hE hn E e1 e2
        have hlt : bfc E (σ 41) n < n := by
          apply Classical.byContradiction
          intro q
          have q1 := bfc_all n (by omega : n ≤ bfc E (σ 41) n) i0 hi0
          have q2 := good E e1 e2 hn i0 hi0
          omega
        have := bf_step e1 (fun k hk => (hb k hk).1) t1 (good E e1 e2 hn) rel hlt
        omega
      refine ⟨fun hx0 => ⟨fun hy0 => ?_, fun hy0 => cont (fun q => hy0 q.2)⟩, fun hx0 => cont (fun q => hx0 q.1)⟩
      have fix := t2 hx0 hy0
      have hS : SC D v n t (s2 41) := SC_E.mpr ⟨⟨lo2, fun j k w hj hk hw2 => by have := rel j k w hj hk hw2; have := fix j hj; omega⟩, hl⟩
      refine h1 s2 hg2 ⟨hS, fun e' he' k hk => ?_⟩
      obtain ⟨E, e1, e2⟩ := isE_ex he'
      have a := good E e1 (SC_E.mp e2.1).2 (by omega) k hk
      exact Int.le_trans a (e2.2 e' he' k hk)
    · obtain ⟨E, e1, e2⟩ := isE_ex hs
      have a := good E e1 (SC_E.mp e2.1).2 (by omega) i hi
      have b := (SC_E.mp e2.1).2 i hi
      omega
theorem sp_fits (hD : DOK D) (hv : v < 4) (hr : rok r) (hw : RW n t) {σ : Sto} (hp : rP D σ) (hR : rR σ r v n t) {Q : Int → Sto → Prop}
    (h1 : ∀ σ', ag 40 50 σ σ' → TB D v n t σ' → FE D v n t → isE D v n t (σ' 41) → Q 1 σ') (h0 : ∀ σ', ag 40 50 σ σ' → ¬ FE D v n t → Q 0 σ') : CLi l G mX6_fits [vR 40, vR r] σ Q := by
  refine clX6_fits l G σ Q r hr.1 (sp_lookAt hD hv hr hw hp hR (fun s g hT => ?_))
  have hP := rP_ag hp g (by omega)
  have hR2 := rR_ag hR g (by have := hr.2; omega)
  have a0 : (s r 0).toNat = v := by rw [hR2.1]; omega
  have ec : s 2 v = D 7 v := (hP.2.1 v hv).1
  rw [a0, ec, hT.2.1.2.1, hR2.1]
  refine ⟨by omega, fun c => ?_, fun c => h0 s g (fun q => c q.1)⟩
  have hT2 : TB D v n t (cpS s 45 41 24) := TB_ag hT (ag_cp ag_r (by omega))
  have n24 := hw.1
  have e41 : ∀ i, i < n → cpS s 45 41 24 41 i = loE D v t i := fun i hi => by rw [cpS_in (by omega)]; exact hT.2.2.2.1 i hi
  refine fits_lp hD hv hw hT2 (fun s' g' hE => h1 s' (ag_t g (ag_w (ag_t (ag_cp ag_r (by omega)) g') (by omega) (by omega))) (TB_ag hT2 (ag_w g' (by omega) (by omega))) ⟨c, _, hE.1⟩ hE) (fun s' g' hN => h0 s' (ag_t g (ag_w (ag_t (ag_cp ag_r (by omega)) g') (by omega) (by omega))) (fun q => hN q.2)) (n + 1) 0 0 _ (by omega) rfl ag_r (fun i hi => ?_) (fun _ => rfl) (fun hn E e1 e2 => ⟨fun i hi => ?_, ?_⟩)
  · rw [e41 i hi]
    have := loE_b hD hv hw i hi
    omega
  · rw [e41 i hi]; exact e1.1.1 i hi
  · have := bf_init e1 hn
    rw [bfc_eq n e41]
    omega
end FITS
