def ag (lo hi : Nat) (σ σ' : Sto) : Prop := ∀ k, (k < lo ∨ hi ≤ k) → σ' k = σ k
theorem ag_r {lo hi : Nat} {σ : Sto} : ag lo hi σ σ := fun _ _ => rfl
theorem ag_t {lo hi : Nat} {σ σ' σ'' : Sto} (h : ag lo hi σ σ') (h' : ag lo hi σ' σ'') : ag lo hi σ σ'' := fun k hk => (h' k hk).trans (h k hk)
theorem ag_st {lo hi : Nat} {σ σ' : Sto} {k j : Nat} {x : Int} (h : ag lo hi σ σ') (hk : lo ≤ k ∧ k < hi) : ag lo hi σ (stS σ' k j x) := fun c hc => by
  rw [← h c hc]; funext i; exact stS_ne (by omega)
theorem ag_cp {lo hi : Nat} {σ σ' : Sto} {a b n : Nat} (h : ag lo hi σ σ') (hk : lo ≤ b ∧ b < hi) : ag lo hi σ (cpS σ' a b n) := fun c hc => by
  rw [← h c hc]; funext i; exact cpS_ne (by omega)
theorem ag_w {lo hi lo' hi' : Nat} {σ σ' : Sto} (h : ag lo hi σ σ') (h1 : lo' ≤ lo) (h2 : hi ≤ hi') : ag lo' hi' σ σ' := fun k hk => h k (by omega)
theorem ag_at {lo hi : Nat} {σ σ' : Sto} (h : ag lo hi σ σ') {k : Nat} (hk : k < lo ∨ hi ≤ k) (i : Nat) : σ' k i = σ k i := congrFun (h k hk) i
def rP (D σ : Sto) : Prop := (σ 1 0 = D 10 0 ∧ σ 1 1 = D 10 1 ∧ σ 1 2 = D 0 0) ∧ (∀ v, v < 4 → σ 2 v = D 7 v ∧ σ 3 v = D 8 v ∧ σ 4 v = D 9 v) ∧ (∀ r, r < 12 → σ 5 r = D 6 r ∧ σ 6 (2 * r) = D 5 r ∧ σ 6 (2 * r + 1) = - D 5 r) ∧ (∀ s, s < 24 → σ 7 s = D 3 s ∧ σ 8 s = D 4 s) ∧ (∀ a, a < 28 → σ 9 a = D 1 a ∧ σ 10 a = D 2 a) ∧ (∀ a, a < 28 → ∀ b, b < 28 → σ (12 + a) b = ds D a b)
theorem rP_ag {lo hi : Nat} {D σ σ' : Sto} (h : rP D σ) (hg : ag lo hi σ σ') (hl : 40 ≤ lo) : rP D σ' := by
  have e : ∀ k, k < 40 → ∀ i, σ' k i = σ k i := fun k hk i => ag_at hg (by omega) i
  obtain ⟨⟨a1, a2, a3⟩, b, c, d, f, g⟩ := h
  refine ⟨⟨?_, ?_, ?_⟩, fun v hv => ?_, fun r hr => ?_, fun s hs => ?_, fun a ha => ?_, fun a ha b hb => ?_⟩
  · rw [e 1 (by omega)]; exact a1
  · rw [e 1 (by omega)]; exact a2
  · rw [e 1 (by omega)]; exact a3
  · rw [e 2 (by omega), e 3 (by omega), e 4 (by omega)]; exact b v hv
  · rw [e 5 (by omega), e 6 (by omega), e 6 (by omega)]; exact c r hr
  · rw [e 7 (by omega), e 8 (by omega)]; exact d s hs
  · rw [e 9 (by omega), e 10 (by omega)]; exact f a ha
  · rw [e (12 + a) (by omega)]; exact g a ha b hb
theorem rP_6 {D σ : Sto} (h : rP D σ) {s : Nat} (hs : s < 24) : σ 6 s = if s % 2 = 0 then D 5 (s / 2) else - D 5 (s / 2) := by
  have h2 := h.2.2.1 (s / 2) (by omega)
  split
  · rw [show s = 2 * (s / 2) by omega, h2.2.1]; congr 1; omega
  · rw [show σ 6 s = σ 6 (2 * (s / 2) + 1) by congr 1; omega, h2.2.2]
def rok (r : Nat) : Prop := isRt r ∧ (r = 51 ∨ 77 ≤ r)
def rR (σ : Sto) (r v n : Nat) (t : Nat → Nat) : Prop := σ r 0 = v ∧ σ r 1 = 24 + v ∧ σ r 2 = n ∧ ∀ k, k < n → σ (r + 4) k = t k
theorem rR_ag {lo hi : Nat} {σ σ' : Sto} {r v n : Nat} {t : Nat → Nat} (h : rR σ r v n t) (hg : ag lo hi σ σ') (hr : (r < lo ∨ hi ≤ r) ∧ (r + 4 < lo ∨ hi ≤ r + 4)) : rR σ' r v n t := by
  refine ⟨?_, ?_, ?_, fun k hk => ?_⟩
  · rw [ag_at hg hr.1]; exact h.1
  · rw [ag_at hg hr.1]; exact h.2.1
  · rw [ag_at hg hr.1]; exact h.2.2.1
  · rw [ag_at hg hr.2]; exact h.2.2.2 k hk
def gpf (D : Sto) (v : Nat) (t : Nat → Nat) (i : Nat) : Int := if i = 0 then ds D (24 + v) (t 0) else ds D (t (i - 1)) (t i) + D 0 0
def loE (D : Sto) (v : Nat) (t : Nat → Nat) (k : Nat) : Int := if k = 0 then (if D 8 v + ds D (24 + v) (t 0) ≤ D 3 (t 0) then D 3 (t 0) else D 8 v + ds D (24 + v) (t 0)) else D 3 (t k)
def hiE (D : Sto) (v n : Nat) (t : Nat → Nat) (k : Nat) : Int := if k + 1 = n then (if D 4 (t k) ≤ D 9 v - (ds D (t k) (24 + v) + D 0 0) then D 4 (t k) else D 9 v - (ds D (t k) (24 + v) + D 0 0)) else D 4 (t k)
def TI (D : Sto) (v : Nat) (t : Nat → Nat) (k : Nat) (σ : Sto) : Prop := σ 40 12 = D 8 v ∧ σ 40 4 = ldm D t k ∧ (∀ i, i < k → σ 43 i = ld D t (i + 1)) ∧ (∀ i, i < k → σ 44 i = gpf D v t i) ∧ (∀ i, i < k → σ 47 (t i) = i) ∧ (∀ i, i < k → ∃ p, p ≤ i ∧ t p = t i - t i % 2 ∧ σ 48 i = (p : Nat)) ∧ (∀ i, i < k → σ 49 i = D 0 0 + D 6 (t i / 2))
def TB (D : Sto) (v n : Nat) (t : Nat → Nat) (σ : Sto) : Prop := σ 40 11 = n ∧ TI D v t n σ ∧ (0 < n → σ 44 n = ds D (t (n - 1)) (24 + v) + D 0 0) ∧ (∀ i, i < n → σ 45 i = loE D v t i) ∧ (∀ i, i < n → σ 46 i = hiE D v n t i)
theorem ld_b {D : Sto} (h : DOK D) {t : Nat → Nat} : ∀ k, (∀ i, i < k → t i < 24) → -(8 * (k : Int)) ≤ ld D t k ∧ ld D t k ≤ 8 * (k : Int)
  | 0, _ => by simp [ld]
  | k + 1, ht => by
    have h1 := ld_b h k (fun i hi => ht i (by omega))
    have h2 := h.2.2.2.1 (t k / 2) (by have := ht k (by omega); omega)
    simp only [ld]
    split <;> omega
def cEnt (v : Nat) (t : Nat → Nat) (k : Nat) : Nat := if k = 0 then 24 + v else t (k - 1)
section TIMES
variable {l : Launch} {G : GT} {D : Sto} {v n r : Nat} {t : Nat → Nat}
theorem lookAt_lp (hD : DOK D) (hv : v < 4) (hr : rok r) (hw : RW n t) {σ0 : Sto} (hp : rP D σ0) (hR : rR σ0 r v n t) {Q : Sto → Prop} (hQ : ∀ σ', ag 40 50 σ0 σ' → TB D v n t σ' → Q σ') :
    ∀ (m k : Nat) (x2 x3 x4 : Int) (σ : Sto), k + m = n → x4 = k → x2 = cEnt v t k → x3 = ld D t k → ag 40 50 σ0 σ → σ 40 11 = n → TI D v t k σ → (∀ i, i < k → σ 45 i = D 3 (t i)) → (∀ i, i < k → σ 46 i = D 4 (t i)) →
      MWv l G mX6_lookAt 39 [(0, vR 40), (1, vR r), (2, vI x2), (3, vI x3), (4, vI x4)] [] σ Q := by
  intro m
  induction m with
  | zero =>
    intro k x2 x3 x4 σ hk h4 h2 h3 hg hn hT h45 h46
    obtain rfl : k = n := by omega
    have hP := rP_ag hp hg (by omega)
    have hR2 := rR_ag hR hg (by have := hr.2; omega)
    obtain ⟨q1, q2, q3, q4⟩ := hR2
    refine vcX6_lookAt_39 l G σ Q r x2 x3 x4 hr.1 ⟨fun _ => ⟨fun h => ?_, fun h => ?_⟩, fun h => absurd (by omega) h⟩
    · obtain rfl : k = 0 := by omega
      exact hQ σ hg ⟨hn, hT, fun h => absurd h (by omega), fun i hi => absurd hi (by omega), fun i hi => absurd hi (by omega)⟩
    · have hk0 : 0 < k := by omega
      have t1 := hw.2.1 (k - 1) (by omega)
      have t0 := hw.2.1 0 hk0
      obtain ⟨T1, T2, T3, T4, T5, T6, T7⟩ := id hT
      have g0 : σ 44 0 = ds D (24 + v) (t 0) := by rw [T4 0 hk0]; simp [gpf]
      have d1 := ds_le hD (a := 24 + v) (b := t 0) (by omega) (by omega)
      have d2 := ds_le hD (a := t (k - 1)) (b := 24 + v) (by omega) (by omega)
      have d3 := ds_0 D (24 + v) (t 0)
      have d4 := ds_0 D (t (k - 1)) (24 + v)
      have ev := hD.2.2.2.2.1 v hv
      have e2 : x2.toNat = t (k - 1) := by rw [h2]; unfold cEnt; rw [if_neg (by omega)]; simp
      have b2 : x2 = (t (k - 1) : Nat) := by rw [h2]; unfold cEnt; rw [if_neg (by omega)]
      have ev4 : σ 4 v = D 9 v := (hP.2.1 v hv).2.2
      have es : σ 1 2 = D 0 0 := hP.1.2.2
      have etr : σ (12 + t (k - 1)) (24 + v) = ds D (t (k - 1)) (24 + v) := hP.2.2.2.2.2 _ (by omega) _ (by omega)
      have a1 : (σ r 1).toNat = 24 + v := by rw [q2]; omega
      have a0 : (σ r 0).toNat = v := by rw [q1]; omega
      have an : ((k : Int)).toNat = k := by omega
      have an1 : ((k : Int) - 1).toNat = k - 1 := by omega
      have sv := hD.1
      have w0 := hD.2.2.1 (t 0) t0
      have w1 := hD.2.2.1 (t (k - 1)) t1
      have n24 := hw.1
      rw [hn, e2, a1, a0, etr, es, ev4, an, an1, T1, g0, h45 0 hk0, h46 (k - 1) (by omega)]
      refine ⟨by omega, fun y hy => ⟨by omega, by omega, by omega, by omega, by omega, by omega, by omega, by omega, fun z hz => ?_⟩⟩
      refine hQ _ (ag_st (ag_st (ag_st hg (by omega)) (by omega)) (by omega)) ⟨?_, ⟨?_, ?_, ?_, ?_, ?_, ?_, ?_⟩, fun _ => ?_, fun i hi => ?_, fun i hi => ?_⟩
      · simpa [stS] using hn
      · simpa [stS] using T1
      · simpa [stS] using T2
      · intro i hi; simpa [stS] using T3 i hi
      · intro i hi
        have : ¬ i = k := by omega
        simpa [stS, this] using T4 i hi
      · intro i hi; simpa [stS] using T5 i hi
      · intro i hi; simpa [stS] using T6 i hi
      · intro i hi; simpa [stS] using T7 i hi
      · simp [stS]
      · by_cases hi0 : i = 0
        · subst hi0
          simp only [loE, if_true]
          simp [stS, hy]
        · simp only [loE, if_neg hi0]
          simpa [stS, hi0] using h45 i hi
      · by_cases hi0 : i = k - 1
        · subst hi0
          simp only [hiE, if_pos (show k - 1 + 1 = k by omega)]
          simp [stS, hz]
        · simp only [hiE, if_neg (show ¬ i + 1 = k by omega)]
          simpa [stS, hi0] using h46 i hi
  | succ m ih =>
    intro k x2 x3 x4 σ hk h4 h2 h3 hg hn hT h45 h46
    have hP := rP_ag hp hg (by omega)
    have hR2 := rR_ag hR hg (by have := hr.2; omega)
    obtain ⟨q1, q2, q3, q4⟩ := hR2
    refine vcX6_lookAt_39 l G σ Q r x2 x3 x4 hr.1 ⟨fun h => absurd h (by omega), fun _ => ?_⟩
    have hkn : k < n := by omega
    have tk := hw.2.1 k hkn
    have e4 : x4.toNat = k := by omega
    have et : σ (r + 4) k = (t k : Nat) := q4 k hkn
    have ett : ((t k : Nat) : Int).toNat = t k := by omega
    have et2 : (((t k : Nat) : Int) / 2).toNat = t k / 2 := by omega
    have etm : (((t k : Nat) : Int) - ((t k : Nat) : Int) % 2).toNat = t k - t k % 2 := by omega
    have ce : cEnt v t k < 28 := by
      unfold cEnt
      split
      · omega
      · have := hw.2.1 (k - 1) (by omega); omega
    have e2 : x2.toNat = cEnt v t k := by omega
    have etr : σ (12 + cEnt v t k) (t k) = ds D (cEnt v t k) (t k) := hP.2.2.2.2.2 _ ce _ (by omega)
    have d1 := ds_le hD ce (show t k < 28 by omega)
    have d0 := ds_0 D (cEnt v t k) (t k)
    have es : σ 1 2 = D 0 0 := hP.1.2.2
    have sv := hD.1
    have l1 := ld_b hD (k + 1) (fun i hi => hw.2.1 i (by omega))
    have e6 := rP_6 hP tk
    have e5 : σ 5 (t k / 2) = D 6 (t k / 2) := (hP.2.2.1 _ (by omega)).1
    have b5 := hD.2.2.2.1 (t k / 2) (by omega)
    have e7 := hP.2.2.2.1 _ tk
    have el : x3 + σ 6 (t k) = ld D t (k + 1) := by rw [h3, e6]; rfl
    have n24 := hw.1
    obtain ⟨T1, T2, T3, T4, T5, T6, T7⟩ := id hT
    simp only [e4, et, ett, et2, etm, e2, etr, es, e5, e7.1, e7.2, el, T2]
    refine ⟨by omega, by omega, by omega, fun y27 hy27 => ⟨by omega, by omega, fun y34 hy34 => ⟨?_, by omega, by omega, by omega, by omega, by omega, by omega, by omega, ?_⟩⟩⟩
    · split at hy34 <;> omega
    · have hy27' : y27 = ldm D t (k + 1) := by
        rw [hy27]
        simp only [ldm]
        by_cases c : ldm D t k < ld D t (k + 1)
        · rw [if_neg (by omega), if_pos c]
        · rw [if_pos (by omega), if_neg c]
      have hgp : ds D (cEnt v t k) (t k) + y34 = gpf D v t k := by
        rw [hy34]
        unfold cEnt gpf
        by_cases c : k = 0
        · subst c; simp [h4]
        · rw [if_neg c, if_neg c, if_neg (by omega)]
      rw [hgp, hy27']
      have ne : ∀ i, i < k → t i ≠ t k := fun i hi q => by have := hw.2.2.1 i k (by omega) hkn q; omega
      refine ih (k + 1) _ _ _ _ (by omega) (by omega) (by unfold cEnt; simp) rfl (ag_st (ag_st (ag_st (ag_st (ag_st (ag_st (ag_st (ag_st hg (by omega)) (by omega)) (by omega)) (by omega)) (by omega)) (by omega)) (by omega)) (by omega)) ?_ ⟨?_, ?_, ?_, ?_, ?_, ?_, ?_⟩ ?_ ?_
      · simpa [stS] using hn
      · simpa [stS] using T1
      · simp [stS]
      · intro i hi
        by_cases c : i = k
        · subst c; simp [stS]
        · simpa [stS, c] using T3 i (by omega)
      · intro i hi
        by_cases c : i = k
        · subst c; simp [stS]
        · simpa [stS, c] using T4 i (by omega)
      · intro i hi
        by_cases c : i = k
        · subst c; simp [stS, h4]
        · simpa [stS, ne i (by omega)] using T5 i (by omega)
      · intro i hi
        by_cases c : i = k
        · subst c
          by_cases hev : t i % 2 = 0
          · refine ⟨i, Nat.le_refl _, by omega, ?_⟩
            simp [stS, hev, h4]
          · obtain ⟨p, hp1, hp2⟩ := hw.2.2.2.2 i hkn (by omega)
            refine ⟨p, by omega, by omega, ?_⟩
            have e9 : t i - t i % 2 = t p := by omega
            have e10 : ¬ t p = t i := by omega
            simp [stS, e9, e10]
            exact T5 p hp1
        · obtain ⟨p, p1, p2, p3⟩ := T6 i (by omega)
          exact ⟨p, p1, p2, by simpa [stS, c] using p3⟩
      · intro i hi
        by_cases c : i = k
        · subst c; simp [stS]
        · simpa [stS, c] using T7 i (by omega)
      · intro i hi
        by_cases c : i = k
        · subst c; simp [stS]
        · simpa [stS, c] using h45 i (by omega)
      · intro i hi
        by_cases c : i = k
        · subst c; simp [stS]
        · simpa [stS, c] using h46 i (by omega)
theorem sp_lookAt (hD : DOK D) (hv : v < 4) (hr : rok r) (hw : RW n t) {σ : Sto} (hp : rP D σ) (hR : rR σ r v n t) {Q : Sto → Prop} (hQ : ∀ σ', ag 40 50 σ σ' → TB D v n t σ' → Q σ') : CLv l G mX6_lookAt [vR 40, vR r] σ Q := by
  obtain ⟨q1, q2, q3, q4⟩ := id hR
  have a0 : (σ r 0).toNat = v := by rw [q1]; omega
  refine clX6_lookAt l G σ Q r hr.1 ⟨by omega, ?_⟩
  refine lookAt_lp hD hv hr hw hp hR hQ n 0 _ _ _ _ (by omega) rfl (by rw [q2]; simp [cEnt]) rfl (ag_st (ag_st (ag_st ag_r (by omega)) (by omega)) (by omega)) (by simp [stS, q3]) ⟨?_, ?_, ?_, ?_, ?_, ?_, ?_⟩ ?_ ?_
  · rw [a0]; simpa [stS] using (hp.2.1 v hv).2.1
  · simp [stS, ldm]
  all_goals (intro i hi; exact absurd hi (Nat.not_lt_zero _))
end TIMES
