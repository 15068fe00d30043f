section LATEST
variable {l : Launch} {G : GT} {D : Sto} {v n r : Nat} {t : Nat → Nat}
theorem SC_0 (hD : DOK D) (hw : RW n t) {s : Nat → Int} (hs : SC D v n t s) (i : Nat) (hi : i < n) : 0 ≤ s i ∧ s i ≤ 5000 := by
  have := hs.2.2.1 i hi
  have := hD.2.2.1 (t i) (hw.2.1 i hi)
  omega
theorem aStops_lp (hD : DOK D) (hv : v < 4) (hw : RW n t) {s : Nat → Int} (hs : SC D v n t s) {σ0 : Sto} (hT0 : TB D v n t σ0) (hb0 : ∀ i, i < n → s i ≤ σ0 42 i ∧ σ0 42 i ≤ 5000) {Q : Int → Sto → Prop}
    (hQ : ∀ x σ', ag 42 43 σ0 σ' → PA n (EdL D t) x (fun i => - σ0 42 i) (fun i => - σ' 42 i) → (∀ i, i + 1 < n → σ' 42 i + (D 0 0 + ds D (t i) (t (i + 1))) ≤ σ' 42 (i + 1)) → Q x σ') :
    ∀ (k : Nat) (x1 x2 : Int) (σ : Sto), x2 = (k : Int) - 1 ∨ (n = 0 ∧ k = 0 ∧ x2 = -2) → k + 1 ≤ n ∨ (n = 0 ∧ k = 0) → ag 42 43 σ0 σ → PA n (EdL D t) x1 (fun i => - σ0 42 i) (fun i => - σ 42 i) → (∀ i, k ≤ i → i + 1 < n → σ 42 i + (D 0 0 + ds D (t i) (t (i + 1))) ≤ σ 42 (i + 1)) →
      MWi l G mX6_advanceStops 9 [(0, vR 40), (1, vI x1), (2, vI x2)] [] σ Q := by
  intro k
  induction k with
  | zero =>
    intro x1 x2 σ h2 hk hg hP hrel
    exact vcX6_advanceStops_9 l G σ Q x1 x2 ⟨fun _ => ⟨hP.1, hQ x1 σ hg hP (fun i hi => hrel i (Nat.zero_le _) hi)⟩, fun h => absurd (by omega) h⟩
  | succ k ih =>
    intro x1 x2 σ h2 hk hg hP hrel
    have hkn : k + 1 < n := by omega
    have n24 := hw.1
    have hT := TB_ag hT0 (ag_w hg (by omega) (by omega))
    have e2 : x2.toNat = k := by omega
    have e3 : (x2 + 1).toNat = k + 1 := by omega
    have eg : σ 44 (k + 1) = D 0 0 + ds D (t k) (t (k + 1)) := by rw [hT.2.1.2.2.2.1 (k + 1) hkn, gpf_s]
    have gb := gpf_b hD hv hw (k + 1) hkn
    rw [gpf_s] at gb
    have low : ∀ i, i < n → s i ≤ σ 42 i ∧ σ 42 i ≤ 5000 := fun i hi => by
      have a : - σ 42 i ≤ - s i := hP.2.2.2.2 (fun i => - s i) (SC_L.mp hs).1.2 (fun i hi => by have := (hb0 i hi).1; show - σ0 42 i ≤ - s i; omega) i hi
      have b : - σ0 42 i ≤ - σ 42 i := hP.2.1 i hi
      have := hb0 i hi
      omega
    have b1 := low (k + 1) hkn
    have b2 := SC_0 hD hw hs (k + 1) hkn
    refine vcX6_advanceStops_9 l G σ Q x1 x2 ⟨fun h => absurd h (by omega), fun _ => ?_⟩
    rw [e2, e3, eg]
    refine ⟨by omega, by omega, by omega, by omega, by omega, fun y hy z hz => ⟨by omega, ?_⟩⟩
    by_cases c : σ 42 k ≤ σ 42 (k + 1) - (D 0 0 + ds D (t k) (t (k + 1)))
    · rw [if_pos c] at hy hz
      subst hy; subst hz
      refine ih _ _ _ (by omega) (by omega) hg hP (fun i hi hin => ?_)
      by_cases ci : i = k
      · subst ci; omega
      · exact hrel i (by omega) hin
    · rw [if_neg c] at hy hz
      subst hy; subst hz
      refine ih _ _ _ (by omega) (by omega) (ag_st hg (by omega)) (PA_up hP (j := k + 1) (k := k) (w := D 0 0 + ds D (t k) (t (k + 1))) hkn (by omega) (Or.inl ⟨rfl, rfl⟩) (by show - σ 42 k < - σ 42 (k + 1) + _; omega) (fun i => by by_cases ci : i = k <;> simp [stS, ci]; omega)) (fun i hi hin => ?_)
      by_cases ci : i = k
      · subst ci
        rw [stS_eq, stS_ni (by omega)]
        omega
      · rw [stS_ni ci, stS_ni (by omega)]; exact hrel i (by omega) hin
theorem sp_aStops (hD : DOK D) (hv : v < 4) (hw : RW n t) {s : Nat → Int} (hs : SC D v n t s) {σ : Sto} (hT : TB D v n t σ) (hb0 : ∀ i, i < n → s i ≤ σ 42 i ∧ σ 42 i ≤ 5000) {Q : Int → Sto → Prop}
    (hQ : ∀ x σ', ag 42 43 σ σ' → PA n (EdL D t) x (fun i => - σ 42 i) (fun i => - σ' 42 i) → (∀ i, i + 1 < n → σ' 42 i + (D 0 0 + ds D (t i) (t (i + 1))) ≤ σ' 42 (i + 1)) → Q x σ') : CLi l G mX6_advanceStops [vR 40] σ Q := by
  have n24 := hw.1
  refine clX6_advanceStops l G σ Q ⟨by rw [hT.1]; omega, ?_⟩
  rw [hT.1]
  exact aStops_lp hD hv hw hs hT hb0 hQ (n - 1) 0 _ σ (by omega) (by omega) ag_r PA_r (fun i hi hin => absurd hin (by omega))
theorem aDrops_lp (hD : DOK D) (hw : RW n t) {s : Nat → Int} (hs : SC D v n t s) {σ0 : Sto} (hT0 : TB D v n t σ0) (hb0 : ∀ i, i < n → s i ≤ σ0 42 i ∧ σ0 42 i ≤ 5000) {Q : Int → Sto → Prop}
    (hQ : ∀ x σ', ag 42 43 σ0 σ' → PA n (EdL D t) x (fun i => - σ0 42 i) (fun i => - σ' 42 i) → (∀ i j, i < n → j < n → t i % 2 = 0 → t j = t i + 1 → σ' 42 j + (- D 6 (t i / 2) - D 0 0) ≤ σ' 42 i) → Q x σ') :
    ∀ (m k : Nat) (x1 x2 : Int) (σ : Sto), k + m = n ∨ (n = 0 ∧ k = 1 ∧ m = 0) → x2 = k → 1 ≤ k → ag 42 43 σ0 σ → PA n (EdL D t) x1 (fun i => - σ0 42 i) (fun i => - σ 42 i) → (∀ i j, i < n → j < n → j < k → t i % 2 = 0 → t j = t i + 1 → σ 42 j + (- D 6 (t i / 2) - D 0 0) ≤ σ 42 i) →
      MWi l G mX6_advanceDrops 4 [(0, vR 40), (1, vI x1), (2, vI x2)] [] σ Q := by
  intro m
  induction m with
  | zero =>
    intro k x1 x2 σ hk h2 h1 hg hP hrel
    have hT := TB_ag hT0 (ag_w hg (by omega) (by omega))
    exact vcX6_advanceDrops_4 l G σ Q x1 x2 ⟨fun _ => ⟨hP.1, hQ x1 σ hg hP (fun i j hi hj c1 c2 => hrel i j hi hj (by omega) c1 c2)⟩, fun h => absurd (by rw [hT.1]; omega) h⟩
  | succ m ih =>
    intro k x1 x2 σ hk h2 h1 hg hP hrel
    have hkn : k < n := by omega
    have n24 := hw.1
    have hT := TB_ag hT0 (ag_w hg (by omega) (by omega))
    have e2 : x2.toNat = k := by omega
    obtain ⟨p, p1, p2, p3⟩ := hT.2.1.2.2.2.2.2.1 k hkn
    have ew := hT.2.1.2.2.2.2.2.2 k hkn
    have tk := hw.2.1 k hkn
    have b5 := hD.2.2.2.1 (t k / 2) (by omega)
    have sv := hD.1
    have ep : ((p : Nat) : Int).toNat = p := by omega
    have low : ∀ i, i < n → s i ≤ σ 42 i ∧ σ 42 i ≤ 5000 := fun i hi => by
      have a : - σ 42 i ≤ - s i := hP.2.2.2.2 (fun i => - s i) (SC_L.mp hs).1.2 (fun i hi => by have := (hb0 i hi).1; show - σ0 42 i ≤ - s i; omega) i hi
      have b : - σ0 42 i ≤ - σ 42 i := hP.2.1 i hi
      have := hb0 i hi
      omega
    have b1 := low p (by omega)
    have b2 := SC_0 hD hw hs p (by omega)
    refine vcX6_advanceDrops_4 l G σ Q x1 x2 ⟨fun h => absurd h (by rw [hT.1]; omega), fun _ => ?_⟩
    rw [e2, ew, p3, ep]
    refine ⟨by omega, by omega, by omega, fun y hy z hz => ⟨by omega, ?_⟩⟩
    by_cases c : σ 42 k ≤ σ 42 p + (D 0 0 + D 6 (t k / 2))
    · rw [if_pos c] at hy hz
      subst hy; subst hz
      refine ih (k + 1) _ _ _ (by omega) (by omega) (by omega) hg hP (fun i j hi hj hjk d1 d2 => ?_)
      by_cases cj : j = k
      · subst cj
        have hip : i = p := hw.2.2.1 i p hi (by omega) (by omega)
        subst hip
        have : t j / 2 = t i / 2 := by omega
        rw [this] at c
        omega
      · exact hrel i j hi hj (by omega) d1 d2
    · rw [if_neg c] at hy hz
      subst hy; subst hz
      have hpk : p ≠ k := fun q => by rw [q] at c; omega
      have hod : t k % 2 = 1 := Classical.byContradiction fun q => hpk (hw.2.2.1 p k (by omega) hkn (by omega))
      have h2e : t k / 2 = t p / 2 := by omega
      refine ih (k + 1) _ _ _ (by omega) (by omega) (by omega) (ag_st hg (by omega)) (PA_up hP (j := p) (k := k) (w := - D 6 (t p / 2) - D 0 0) (by omega) hkn (Or.inr ⟨by omega, by omega, rfl⟩) (by show - σ 42 k < - σ 42 p + _; rw [h2e] at c; omega) (fun i => by by_cases ci : i = k <;> simp [stS, ci]; rw [h2e]; omega)) (fun i j hi hj hjk d1 d2 => ?_)
      have hik : i ≠ k := fun q => by rw [q] at d1; omega
      rw [stS_ni hik]
      by_cases cj : j = k
      · subst cj
        have hip : i = p := hw.2.2.1 i p hi (by omega) (by omega)
        subst hip
        rw [stS_eq, h2e]
        omega
      · rw [stS_ni cj]; exact hrel i j hi hj (by omega) d1 d2
theorem sp_aDrops (hD : DOK D) (hw : RW n t) {s : Nat → Int} (hs : SC D v n t s) {σ : Sto} (hT : TB D v n t σ) (hb0 : ∀ i, i < n → s i ≤ σ 42 i ∧ σ 42 i ≤ 5000) {Q : Int → Sto → Prop}
    (hQ : ∀ x σ', ag 42 43 σ σ' → PA n (EdL D t) x (fun i => - σ 42 i) (fun i => - σ' 42 i) → (∀ i j, i < n → j < n → t i % 2 = 0 → t j = t i + 1 → σ' 42 j + (- D 6 (t i / 2) - D 0 0) ≤ σ' 42 i) → Q x σ') : CLi l G mX6_advanceDrops [vR 40] σ Q :=
  clX6_advanceDrops l G σ Q (aDrops_lp hD hw hs hT hb0 hQ (n - 1) 1 0 1 σ (by omega) rfl (by omega) ag_r PA_r (fun i j hi hj h1 d1 d2 => by
    obtain ⟨j2, a1, a2, a3⟩ := hw.2.2.2.1 i hi d1
    have := hw.2.2.1 j j2 hj a2 (by omega)
    omega))
theorem late_lp (hD : DOK D) (hv : v < 4) (hw : RW n t) {s : Nat → Int} (hs : SC D v n t s) {σ0 : Sto} (hT0 : TB D v n t σ0) {E : Nat → Int} (hE : bfL n (fun k => - hiE D v n t k) (EdL D t) E) {Q : Sto → Prop} (h1 : ∀ σ', ag 42 43 σ0 σ' → isL D v n t (σ' 42) → Q σ') :
    ∀ (m p : Nat) (x2 : Int) (σ : Sto), p + m = n + 1 → x2 = p → ag 42 43 σ0 σ → (∀ i, i < n → s i ≤ σ 42 i ∧ σ 42 i ≤ hiE D v n t i) → (n = 0 → p = 0) → (∀ i, i < n → - σ 42 i ≤ E i) → (0 < n → p + 1 ≤ bfc E (fun i => - σ 42 i) n) →
      MWv l G mX6_makeLatest 22 [(0, vR 40), (2, vI x2)] [] σ Q := by
  intro m
  induction m with
  | zero =>
    intro p x2 σ hp hx hg hb hz hE1 hE2
    exfalso
    by_cases hn : n = 0
    · have := hz hn; omega
    · have := hE2 (by omega)
      have := bfc_le E (fun i => - σ 42 i) n
      omega
  | succ m ih =>
    intro p x2 σ hp hx hg hb hz hE1 hE2
    have n24 := hw.1
    have hT := TB_ag hT0 (ag_w hg (by omega) (by omega))
    have hSs := (SC_L.mp hs).1.2
    refine vcX6_makeLatest_22 l G σ Q x2 ⟨fun h => absurd h (by rw [hT.1]; omega), fun _ => ?_⟩
    refine sp_aStops hD hv hw hs hT (fun i hi => by have := hb i hi; have := hiE_b hD hv hw i hi; omega) (fun x s1 g1 P1 r1 => ?_)
    have hT1 := TB_ag hT (ag_w g1 (by omega) (by omega))
    have low1 : ∀ i, i < n → s i ≤ s1 42 i ∧ s1 42 i ≤ hiE D v n t i := fun i hi => by
      have a : - s1 42 i ≤ - s i := P1.2.2.2.2 (fun i => - s i) hSs (fun i hi => by have := (hb i hi).1; show - σ 42 i ≤ - s i; omega) i hi
      have b : - σ 42 i ≤ - s1 42 i := P1.2.1 i hi
      have := hb i hi
      omega
    refine sp_aDrops hD hw hs hT1 (fun i hi => by have := low1 i hi; have := hiE_b hD hv hw i hi; omega) (fun y s2 g2 P2 r2 => ?_)
    have hT2 := TB_ag hT1 (ag_w g2 (by omega) (by omega))
    obtain ⟨t1, t2, t3, t4⟩ := PA_t P1 P2
    have hg2 := ag_t hg (ag_t g1 g2)
    have low2 : ∀ i, i < n → s i ≤ s2 42 i ∧ s2 42 i ≤ hiE D v n t i := fun i hi => by
      have a : - s2 42 i ≤ - s i := P2.2.2.2.2 (fun i => - s i) hSs (fun i hi => by have := (low1 i hi).1; show - s1 42 i ≤ - s i; omega) i hi
      have b : - s1 42 i ≤ - s2 42 i := P2.2.1 i hi
      have := low1 i hi
      omega
    have rel : ∀ j k w, j < n → k < n → EdL D t j k w → - σ 42 j + w ≤ - s2 42 k := by
      intro j k w hj hk hw2
      rcases hw2 with ⟨rfl, rfl⟩ | ⟨c1, c2, rfl⟩
      · have a := r1 k hj
        have b : - s1 42 k ≤ - s2 42 k := P2.2.1 k hk
        have c : - σ 42 (k + 1) ≤ - s1 42 (k + 1) := P1.2.1 (k + 1) hj
        omega
      · have a := r2 j k hj hk c1 c2
        have b : - σ 42 j ≤ - s2 42 j := t1 j hj
        omega
    have good : ∀ i, i < n → - s2 42 i ≤ E i := t4 E hE.1.2 hE1
    have cont : ¬ (x = 0 ∧ y = 0) → (-2147483648 ≤ x2 + 1 ∧ x2 + 1 ≤ 2147483647) ∧ MWv l G mX6_makeLatest 22 [(0, vR 40), (2, vI (x2 + 1))] [] s2 Q := by
      intro hne
      obtain ⟨i0, hi0, hl0⟩ := t3 hne
      have hl1 : - σ 42 i0 < - s2 42 i0 := hl0
      refine ⟨by omega, ih (p + 1) _ _ (by omega) (by omega) hg2 low2 (fun q => absurd hi0 (by omega)) good (fun hn => ?_)⟩
      have a2 := hE2 hn
      have hlt : bfc E (fun i => - σ 42 i) n < n := by
        apply Classical.byContradiction
        intro q
        have q1 : - σ 42 i0 = E i0 := bfc_all n (by omega : n ≤ bfc E (fun i => - σ 42 i) n) i0 hi0
        have q2 := good i0 hi0
        omega
      have := bf_step (e := fun i => - σ 42 i) (e' := fun i => - s2 42 i) hE (fun k hk => by have := (hb k hk).2; show - hiE D v n t k ≤ - σ 42 k; omega) t1 good rel hlt
      omega
    refine ⟨fun hx0 => ⟨fun hy0 => ?_, fun hy0 => cont (fun q => hy0 q.2)⟩, fun hx0 => cont (fun q => hx0 q.1)⟩
    have fix : ∀ i, i < n → - s2 42 i = - σ 42 i := t2 hx0 hy0
    have hS : SC D v n t (s2 42) := SC_L.mpr ⟨⟨fun k hk => by have := (low2 k hk).2; show - hiE D v n t k ≤ - s2 42 k; omega, fun j k w hj hk hw2 => by have := rel j k w hj hk hw2; have := fix j hj; show - s2 42 j + w ≤ - s2 42 k; omega⟩, fun k hk => by have := (SC_L.mp hs).2 k hk; have := (low2 k hk).1; omega⟩
    refine h1 s2 hg2 ⟨hS, fun e' he' k hk => ?_⟩
    have a := good k hk
    have b : E k ≤ - e' k := hE.2 _ (SC_L.mp he').1 k hk
    omega
theorem sp_late2 (hD : DOK D) (hv : v < 4) (hr : rok r) (hw : RW n t) (hf : ∃ s, SC D v n t s) {σ : Sto} (hp : rP D σ) (hR : rR σ r v n t) {Q : Sto → Prop}
    (h1 : ∀ σ', ag 40 50 σ σ' → TB D v n t σ' → isL D v n t (σ' 42) → Q σ') : CLv l G mX6_makeLatest [vR 40, vR r] σ Q := by
  obtain ⟨s, hs⟩ := hf
  refine clX6_makeLatest l G σ Q r hr.1 (sp_lookAt hD hv hr hw hp hR (fun s1 g hT => ?_))
  have hT2 : TB D v n t (cpS s1 46 42 24) := TB_ag hT (ag_cp ag_r (by omega))
  have n24 := hw.1
  have e42 : ∀ i, i < n → cpS s1 46 42 24 42 i = hiE D v n t i := fun i hi => by rw [cpS_in (by omega)]; exact hT.2.2.2.2 i hi
  obtain ⟨E, hE⟩ := bf_least (SC_L.mp hs).1
  have hh := SC_E.mp hs
  refine late_lp hD hv hw hs hT2 hE (fun s' g' hL => h1 s' (ag_t g (ag_w (ag_t (ag_cp ag_r (by omega)) g') (by omega) (by omega))) (TB_ag hT2 (ag_w g' (by omega) (by omega))) hL) (n + 1) 0 0 _ (by omega) rfl ag_r (fun i hi => ?_) (fun _ => rfl) (fun i hi => ?_) (fun hn => ?_)
  · rw [e42 i hi]; exact ⟨hh.2 i hi, Int.le_refl _⟩
  · rw [e42 i hi]; exact hE.1.1 i hi
  · have := bf_init hE hn
    have e : bfc E (fun i => - cpS s1 46 42 24 42 i) n = bfc E (fun k => - hiE D v n t k) n := bfc_eq n (fun i hi => by show - cpS s1 46 42 24 42 i = _; rw [e42 i hi])
    omega
def cms (D : Sto) (v : Nat) (t : Nat → Nat) (e : Nat → Int) (k : Nat) : Int := if k = 0 then D 8 v + ds D (24 + v) (t 0) else e (k - 1) + D 0 0 + ds D (t (k - 1)) (t k)
theorem sp_wait (hD : DOK D) (hv : v < 4) (hw : RW n t) {σ : Sto} (hT : TB D v n t σ) {e : Nat → Int} (hs : SC D v n t e) (he : ∀ i, i < n → σ 41 i = e i) {k : Nat} (hk : k < n) {x1 : Int} (hx : x1 = k) {Q : Int → Sto → Prop} (hQ : Q (e k - cms D v t e k) σ) : CLi l G mX6_waitBefore [vR 40, vI x1] σ Q := by
  have n24 := hw.1
  have e1 : x1.toNat = k := by omega
  have e2 : (x1 - 1).toNat = k - 1 := by omega
  have b1 := SC_0 hD hw hs k hk
  have b2 := SC_0 hD hw hs (k - 1) (by omega)
  have gb := gpf_b hD hv hw k hk
  have eg := hT.2.1.2.2.2.1 k hk
  have ef := hT.2.1.1
  have dv := hD.2.2.2.2.1 v hv
  refine clX6_waitBefore l G σ Q x1 ?_
  rw [e1, e2, eg, he k hk, ef]
  refine ⟨by omega, by omega, by omega, fun _ => ⟨by omega, by omega, trivial⟩, fun y hy => ?_⟩
  have hc : e k - gpf D v t k - y = e k - cms D v t e k := by
    unfold cms gpf at *
    by_cases c : k = 0
    · rw [if_pos (by omega)] at hy
      rw [if_pos c, if_pos c]; omega
    · rw [if_neg (by omega), he (k - 1) (by omega)] at hy
      rw [if_neg c, if_neg c]; omega
  refine ⟨?_, by rw [hc]; exact hQ⟩
  by_cases c : k = 0
  · rw [if_pos (by omega)] at hy; omega
  · rw [if_neg (by omega), he (k - 1) (by omega)] at hy; omega
theorem sp_ride (hD : DOK D) (hw : RW n t) {σ : Sto} (hp : rP D σ) (hT : TB D v n t σ) {row : Nat} (hrow : shp row = .inl 24) {e : Nat → Int} (hs : SC D v n t e) (he : ∀ i, i < n → σ row i = e i) {i j q : Nat} (hi : i < n) (hj : j < n) (h1 : t i = 2 * q) (h2 : t j = 2 * q + 1) {x2 : Int} (hx : x2 = q) {Q : Int → Sto → Prop} (hQ : Q (e j - e i - D 0 0) σ) : CLi l G mX6_minutesAboard [vR 40, vR row, vI x2] σ Q := by
  have n24 := hw.1
  have t1 := hw.2.1 j hj
  have e1 : (2 * x2).toNat = t i := by omega
  have e2 : (2 * x2 + 1).toNat = t j := by omega
  have f1 := hT.2.1.2.2.2.2.1 i hi
  have f2 := hT.2.1.2.2.2.2.1 j hj
  have c1 : ((i : Nat) : Int).toNat = i := by omega
  have c2 : ((j : Nat) : Int).toNat = j := by omega
  have b1 := SC_0 hD hw hs i hi
  have b2 := SC_0 hD hw hs j hj
  have sv := hD.1
  refine clX6_minutesAboard l G σ Q row x2 hrow ?_
  rw [e1, e2, f1, f2, c1, c2, he i hi, he j hj, hp.1.2.2]
  exact ⟨by omega, by omega, by omega, by omega, by omega, by omega, by omega, by omega, hQ⟩
end LATEST
