def fR (r : Nat) (σ σ' : Sto) : Prop := ∀ k, k ≠ r → k ≠ r + 4 → σ' k = σ k
theorem fR_at {r : Nat} {σ σ' : Sto} (h : fR r σ σ') {k : Nat} (h1 : k ≠ r) (h2 : k ≠ r + 4) (i : Nat) : σ' k i = σ k i := congrFun (h k h1 h2) i
theorem fR_st {r : Nat} {σ σ' : Sto} {k j : Nat} {x : Int} (h : fR r σ σ') (hk : k = r ∨ k = r + 4) : fR r σ (stS σ' k j x) := fun c h1 h2 => by
  rw [← h c h1 h2]; funext i; exact stS_ne (by omega)
theorem fR_ag {r lo hi : Nat} {σ σ' : Sto} (h : fR r σ σ') (h1 : lo ≤ r ∧ r + 4 < hi) : ag lo hi σ σ' := fun k hk => h k (by omega) (by omega)
theorem rP_fR {r : Nat} {D σ σ' : Sto} (h : rP D σ) (hg : fR r σ σ') (hr : 40 ≤ r) : rP D σ' := rP_ag (lo := 40) (hi := r + 5) h (fR_ag hg (by omega)) (Nat.le_refl _)
theorem rR_fR {q r v n : Nat} {t : Nat → Nat} {σ σ' : Sto} (h : rR σ q v n t) (hg : fR r σ σ') (hr : q ≠ r ∧ q ≠ r + 4 ∧ q + 4 ≠ r ∧ q + 4 ≠ r + 4) : rR σ' q v n t :=
  ⟨by rw [fR_at hg hr.1 hr.2.1]; exact h.1, by rw [fR_at hg hr.1 hr.2.1]; exact h.2.1, by rw [fR_at hg hr.1 hr.2.1]; exact h.2.2.1, fun k hk => by rw [fR_at hg hr.2.2.1 hr.2.2.2]; exact h.2.2.2 k hk⟩
section ROUTE
variable {l : Launch} {G : GT} {D : Sto} {v n r : Nat} {t : Nat → Nat}
theorem sp_Rbecome {q : Nat} (hr : isRt r) (hq : isRt q) {σ : Sto} (hR : rR σ q v n t) (hn : n ≤ 24) (hne : q ≠ r ∧ q ≠ r + 4 ∧ q + 4 ≠ r ∧ q + 4 ≠ r + 4) {Q : Sto → Prop} (hQ : ∀ σ', fR r σ σ' → rR σ' r v n t → Q σ') : CLv l G mX5_become [vR r, vR q] σ Q := by
  obtain ⟨h1, h2, h3, h4⟩ := hR
  refine clX5_become l G σ Q r q hr hq (hQ _ ?_ ⟨?_, ?_, ?_, fun k hk => ?_⟩)
  · intro k h1 h2
    funext i
    rw [cpS_ne h2, stS_ne h1, stS_ne h1, stS_ne h1]
  · rw [cpS_ne (by omega)]; simp [stS, h1]
  · rw [cpS_ne (by omega)]; simp [stS, h2, hne.1]
  · rw [cpS_ne (by omega)]; simp [stS, h3, hne.1]
  · rw [cpS_in (by omega), stS_ne hne.2.2.1, stS_ne hne.2.2.1, stS_ne hne.2.2.1]; exact h4 k hk
theorem sp_placeAt (hr : isRt r) {σ : Sto} (hR : rR σ r v n t) (hn : n ≤ 24) {x1 : Int} {k : Nat} (hx : x1 = (k : Int) - 1) (hk : k ≤ n + 1) {Q : Int → Sto → Prop} (hQ : Q (pd v n t k) σ) : CLi l G mX5_placeAt [vR r, vI x1] σ Q := by
  obtain ⟨h1, h2, h3, h4⟩ := hR
  refine clX5_placeAt l G σ Q r x1 hr ⟨fun a b => ⟨by omega, trivial⟩, fun y hy => ?_⟩
  have : y = (pd v n t k : Nat) := by
    rw [hy, h2, h3]
    unfold pd
    by_cases c : k = 0
    · rw [if_pos (by omega), if_pos c]; omega
    · by_cases c2 : k ≤ n
      · rw [if_neg (by omega), if_neg (by omega), if_neg c, if_pos c2, show x1.toNat = k - 1 by omega, h4 (k - 1) (by omega)]
      · rw [if_neg (by omega), if_pos (by omega), if_neg c, if_neg c2]; omega
  rw [this]
  exact hQ
theorem put_lp2 (hr : isRt r) {σ0 : Sto} {n0 : Nat} (hR0 : σ0 r 0 = v ∧ σ0 r 1 = 24 + v ∧ σ0 r 2 = n) {q i j : Nat} (hq : q < 12) (hij : i < j) (hj : j < n + 2) (hn : n + 2 ≤ 24) {Q : Sto → Prop} (hQ : ∀ σ', fR r σ0 σ' → rR σ' r v (n + 2) (insT t q i j) → Q σ') :
    ∀ (m k : Nat) (x1 x2 x3 x4 : Int) (σ : Sto), i + m = k → k < j → x1 = q → x2 = i → x3 = j → x4 = k → fR r σ0 σ → σ r 0 = v ∧ σ r 1 = 24 + v ∧ σ r 2 = n → (∀ a, a < n + 2 → j < a → σ (r + 4) a = insT t q i j a) → (∀ a, k < a → a < j → σ (r + 4) a = insT t q i j a) → (∀ a, a < n → a ≤ k → σ (r + 4) a = t a) → k ≤ n →
      MWv l G mX5_put 72 [(0, vR r), (1, vI x1), (2, vI x2), (3, vI x3), (4, vI x4)] [] σ Q := by
  intro m
  induction m with
  | zero =>
    intro k x1 x2 x3 x4 σ hk hkj h1 h2 h3 h4 hf hR ha hb hc hkn
    obtain rfl : i = k := by omega
    have e2 : x2.toNat = i := by omega
    have e3 : x3.toNat = j := by omega
    refine vcX5_put_72 l G σ Q r x1 x2 x3 x4 hr ⟨fun _ => ?_, fun h => absurd (by omega) h⟩
    rw [e2, e3, hR.2.2]
    refine ⟨by omega, by omega, by omega, by omega, by omega, hQ _ (fR_st (fR_st (fR_st hf (Or.inr rfl)) (Or.inr rfl)) (Or.inl rfl)) ⟨?_, ?_, ?_, fun a han => ?_⟩⟩
    · rw [stS_ni (by decide), stS_ne (by omega), stS_ne (by omega)]; exact hR.1
    · rw [stS_ni (by decide), stS_ne (by omega), stS_ne (by omega)]; exact hR.2.1
    · rw [stS_eq]; omega
    · rw [stS_ne (by omega)]
      by_cases c1 : a = j
      · subst c1; rw [stS_eq, insT_j hij]; omega
      · rw [stS_ni c1]
        by_cases c2 : a = i
        · subst c2; rw [stS_eq, insT_i]; omega
        · rw [stS_ni c2]
          by_cases c3 : j < a
          · exact ha a han c3
          · by_cases c4 : i < a
            · exact hb a c4 (by omega)
            · rw [hc a (by omega) (by omega), insT_o c2 c1]
              unfold oi; rw [if_pos (by omega)]
  | succ m ih =>
    intro k x1 x2 x3 x4 σ hk hkj h1 h2 h3 h4 hf hR ha hb hc hkn
    have e4 : x4.toNat = k := by omega
    have e5 : (x4 - 1).toNat = k - 1 := by omega
    refine vcX5_put_72 l G σ Q r x1 x2 x3 x4 hr ⟨fun h => absurd h (by omega), fun _ => ?_⟩
    rw [e4, e5]
    refine ⟨by omega, by omega, by omega, by omega, ih (k - 1) _ _ _ _ _ (by omega) (by omega) h1 h2 h3 (by omega) (fR_st hf (Or.inr rfl)) ⟨?_, ?_, ?_⟩ (fun a h5 h6 => ?_) (fun a h5 h6 => ?_) (fun a h5 h6 => ?_) (by omega)⟩
    · rw [stS_ne (by omega)]; exact hR.1
    · rw [stS_ne (by omega)]; exact hR.2.1
    · rw [stS_ne (by omega)]; exact hR.2.2
    · rw [stS_ni (by omega)]; exact ha a h5 h6
    · by_cases c : a = k
      · subst c
        rw [stS_eq, hc (a - 1) (by omega) (by omega), insT_o (by omega) (by omega)]
        unfold oi; rw [if_neg (by omega), if_pos (by omega)]
      · rw [stS_ni c]; exact hb a (by omega) h6
    · rw [stS_ni (by omega)]; exact hc a h5 (by omega)
theorem put_lp1 (hr : isRt r) {σ0 : Sto} {q i j : Nat} (hq : q < 12) (hij : i < j) (hj : j < n + 2) (hn : n + 2 ≤ 24) {Q : Sto → Prop} (hQ : ∀ σ', fR r σ0 σ' → rR σ' r v (n + 2) (insT t q i j) → Q σ') :
    ∀ (m k : Nat) (x1 x2 x3 x4 : Int) (σ : Sto), j + m = k → k ≤ n + 1 → x1 = q → x2 = i → x3 = j → x4 = k → fR r σ0 σ → σ r 0 = v ∧ σ r 1 = 24 + v ∧ σ r 2 = n → (∀ a, a < n + 2 → k < a → σ (r + 4) a = insT t q i j a) → (∀ a, a < n → a ≤ k → σ (r + 4) a = t a) →
      MWv l G mX5_put 39 [(0, vR r), (1, vI x1), (2, vI x2), (3, vI x3), (4, vI x4)] [] σ Q := by
  intro m
  induction m with
  | zero =>
    intro k x1 x2 x3 x4 σ hk hkn h1 h2 h3 h4 hf hR ha hb
    obtain rfl : j = k := by omega
    refine vcX5_put_39 l G σ Q r x1 x2 x3 x4 hr ⟨fun _ => ⟨by omega, put_lp2 (n0 := n) hr hR hq hij hj hn (fun σ' g h => hQ σ' (fun k h1 h2 => (g k h1 h2).trans (hf k h1 h2)) h) (j - 1 - i) (j - 1) _ _ _ _ _ (by omega) (by omega) h1 h2 h3 (by omega) (fun _ _ _ => rfl) hR ha (fun a h5 h6 => absurd h5 (by omega)) (fun a h5 h6 => hb a h5 (by omega)) (by omega)⟩, fun h => absurd (by omega) h⟩
  | succ m ih =>
    intro k x1 x2 x3 x4 σ hk hkn h1 h2 h3 h4 hf hR ha hb
    have e4 : x4.toNat = k := by omega
    have e5 : (x4 - 2).toNat = k - 2 := by omega
    refine vcX5_put_39 l G σ Q r x1 x2 x3 x4 hr ⟨fun h => absurd h (by omega), fun _ => ?_⟩
    rw [e4, e5]
    refine ⟨by omega, by omega, by omega, by omega, ih (k - 1) _ _ _ _ _ (by omega) (by omega) h1 h2 h3 (by omega) (fR_st hf (Or.inr rfl)) ⟨?_, ?_, ?_⟩ (fun a h5 h6 => ?_) (fun a h5 h6 => ?_)⟩
    · rw [stS_ne (by omega)]; exact hR.1
    · rw [stS_ne (by omega)]; exact hR.2.1
    · rw [stS_ne (by omega)]; exact hR.2.2
    · by_cases c : a = k
      · subst c
        rw [stS_eq, hb (a - 2) (by omega) (by omega), insT_o (by omega) (by omega)]
        unfold oi; rw [if_neg (by omega), if_neg (by omega)]
      · rw [stS_ni c]; exact ha a h5 (by omega)
    · rw [stS_ni (by omega)]; exact hb a h5 (by omega)
theorem sp_Rput (hr : isRt r) {σ : Sto} (hR : rR σ r v n t) {q i j : Nat} (hq : q < 12) (hij : i < j) (hj : j < n + 2) (hn : n + 2 ≤ 24) {x1 x2 x3 : Int} (h1 : x1 = q) (h2 : x2 = i) (h3 : x3 = j) {Q : Sto → Prop} (hQ : ∀ σ', fR r σ σ' → rR σ' r v (n + 2) (insT t q i j) → Q σ') : CLv l G mX5_put [vR r, vI x1, vI x2, vI x3] σ Q := by
  obtain ⟨a1, a2, a3, a4⟩ := hR
  refine clX5_put l G σ Q r x1 x2 x3 hr ?_
  rw [a3]
  exact ⟨by omega, fun h => absurd h (by omega), fun _ => ⟨fun h => absurd h (by omega), fun _ => ⟨fun h => absurd h (by omega), fun _ => ⟨by omega, fun _ => put_lp1 hr hq hij hj hn hQ (n + 1 - j) (n + 1) _ _ _ _ _ (by omega) (by omega) h1 h2 h3 (by omega) (fun _ _ _ => rfl) ⟨a1, a2, a3⟩ (fun a h5 h6 => absurd h5 (by omega)) (fun a h5 _ => a4 a h5), fun h => absurd (by omega) h⟩⟩⟩⟩
def kpt (i j k : Nat) : Nat := k - (if i < k then 1 else 0) - (if j < k then 1 else 0)
theorem take_lp (hr : isRt r) {σ0 : Sto} {q i j : Nat} (hw : RW (n + 2) t) (hij : i < j) (hj : j < n + 2) (hi2 : t i = 2 * q) (hj2 : t j = 2 * q + 1) {Q : Sto → Prop} (hQ : ∀ σ', fR r σ0 σ' → rR σ' r v n (rmT t i j) → Q σ') :
    ∀ (m k : Nat) (x1 x2 x3 : Int) (σ : Sto), k + m = n + 2 → x1 = q → x2 = kpt i j k → x3 = k → fR r σ0 σ → σ r 0 = v ∧ σ r 1 = 24 + v ∧ σ r 2 = (n + 2 : Nat) → (∀ a, a < kpt i j k → σ (r + 4) a = rmT t i j a) → (∀ a, k ≤ a → a < n + 2 → σ (r + 4) a = t a) →
      MWv l G mX5_take 4 [(0, vR r), (1, vI x1), (2, vI x2), (3, vI x3)] [] σ Q := by
  have n24 := hw.1
  intro m
  induction m with
  | zero =>
    intro k x1 x2 x3 σ hk h1 h2 h3 hf hR ha hb
    obtain rfl : k = n + 2 := by omega
    have kn : kpt i j (n + 2) = n := by unfold kpt; rw [if_pos (by omega), if_pos hj]; omega
    rw [kn] at h2 ha
    refine vcX5_take_4 l G σ Q r x1 x2 x3 hr ⟨fun _ => hQ _ (fR_st hf (Or.inl rfl)) ⟨?_, ?_, ?_, fun a h => ?_⟩, fun h => absurd (by rw [hR.2.2]; omega) h⟩
    · rw [stS_ni (by decide)]; exact hR.1
    · rw [stS_ni (by decide)]; exact hR.2.1
    · rw [stS_eq]; exact h2
    · rw [stS_ne (by omega)]; exact ha a h
  | succ m ih =>
    intro k x1 x2 x3 σ hk h1 h2 h3 hf hR ha hb
    have e3 : x3.toNat = k := by omega
    have tk := hw.2.1 k (by omega)
    have kb : kpt i j k ≤ k := by unfold kpt; omega
    have e2 : x2.toNat = kpt i j k := by omega
    refine vcX5_take_4 l G σ Q r x1 x2 x3 hr ⟨fun h => absurd h (by rw [hR.2.2]; omega), fun _ => ?_⟩
    rw [e3, e2, hb k (Nat.le_refl _) (by omega)]
    refine ⟨by omega, by omega, fun _ => ⟨by omega, by omega, trivial⟩, fun y hy s hs => ⟨by omega, ?_⟩⟩
    by_cases c : ((t k : Nat) : Int) / 2 = x1
    · rw [if_pos c] at hy hs
      subst hy; subst hs
      have hk2 : k = i ∨ k = j := by
        by_cases c2 : t k % 2 = 0
        · exact Or.inl (hw.2.2.1 k i (by omega) (by omega) (by omega))
        · exact Or.inr (hw.2.2.1 k j (by omega) hj (by omega))
      have kk : kpt i j (k + 1) = kpt i j k := by
        unfold kpt
        (repeat' split) <;> omega
      exact ih (k + 1) _ _ _ _ (by omega) h1 (by rw [kk]; exact h2) (by omega) hf hR (by rw [kk]; exact ha) (fun a h5 h6 => hb a (by omega) h6)
    · rw [if_neg c] at hy hs
      subst hy; subst hs
      have n1 : k ≠ i := fun q2 => c (by rw [q2, hi2, h1]; omega)
      have n2 : k ≠ j := fun q2 => c (by rw [q2, hj2, h1]; omega)
      have kk : kpt i j (k + 1) = kpt i j k + 1 := by
        unfold kpt
        (repeat' split) <;> omega
      have kn : ni i j (kpt i j k) = k := by
        unfold kpt ni
        (repeat' split) <;> omega
      refine ih (k + 1) _ _ _ _ (by omega) h1 (by rw [kk]; omega) (by omega) (fR_st hf (Or.inr rfl)) ⟨?_, ?_, ?_⟩ (fun a h5 => ?_) (fun a h5 h6 => ?_)
      · rw [stS_ne (by omega)]; exact hR.1
      · rw [stS_ne (by omega)]; exact hR.2.1
      · rw [stS_ne (by omega)]; exact hR.2.2
      · by_cases c3 : a = kpt i j k
        · subst c3; rw [stS_eq]; unfold rmT; rw [kn]
        · rw [stS_ni c3]; exact ha a (by omega)
      · rw [stS_ni (by omega)]; exact hb a (by omega) h6
theorem sp_Rtake (hr : isRt r) {σ : Sto} {q i j : Nat} (hw : RW (n + 2) t) (hR : rR σ r v (n + 2) t) (hij : i < j) (hj : j < n + 2) (hi2 : t i = 2 * q) (hj2 : t j = 2 * q + 1) {x1 : Int} (h1 : x1 = q) {Q : Sto → Prop} (hQ : ∀ σ', fR r σ σ' → rR σ' r v n (rmT t i j) → Q σ') : CLv l G mX5_take [vR r, vI x1] σ Q :=
  clX5_take l G σ Q r x1 hr (take_lp hr hw hij hj hi2 hj2 hQ (n + 2) 0 _ _ _ _ (by omega) h1 (by unfold kpt; simp) rfl (fun _ _ _ => rfl) ⟨hR.1, hR.2.1, hR.2.2.1⟩ (fun a h => absurd h (by unfold kpt; simp)) (fun a _ h => hR.2.2.2 a h))
theorem sp_len (hD : DOK D) (hv : v < 4) (hr : isRt r) (hw : RW n t) {σ : Sto} (hp : rP D σ) (hR : rR σ r v n t) {Q : Int → Sto → Prop} (hQ : Q (rl D v n t) σ) : CLi l G mX4_length [vR 1, vR r] σ Q := by
  obtain ⟨a1, a2, a3, a4⟩ := hR
  have n24 := hw.1
  have key : ∀ (m k : Nat) (x2 x3 x4 : Int), k + m = n → x4 = k → x3 = pd v n t k → x2 = tot D (pd v n t) k → MWi l G mX4_length 10 [(0, vR 1), (1, vR r), (2, vI x2), (3, vI x3), (4, vI x4)] [] σ Q := by
    intro m
    induction m with
    | zero =>
      intro k x2 x3 x4 hk h4 h3 h2
      obtain rfl : k = n := by omega
      have b1 := pd_b (n := k) hv hw.2.1 k
      have b2 := pd_b (n := k) hv hw.2.1 (k + 1)
      have e1 : pd v k t (k + 1) = 24 + v := by unfold pd; rw [if_neg (by omega), if_neg (by omega)]
      have e3 : x3.toNat = pd v k t k := by omega
      have e5 : (σ r 1).toNat = 24 + v := by omega
      have et : σ (12 + pd v k t k) (24 + v) = ds D (pd v k t k) (24 + v) := hp.2.2.2.2.2 _ b1 _ (by omega)
      have tb := tot_b hD (u := pd v k t) (k + 1) (fun i _ => pd_b hv hw.2.1 i)
      have er : tot D (pd v k t) k + ds D (pd v k t k) (24 + v) = rl D v k t := by unfold rl; simp only [tot]; rw [e1]
      refine vcX4_length_10 l G σ Q r x2 x3 x4 hr ⟨fun _ => ?_, fun h => absurd (by omega) h⟩
      rw [e3, e5, et, h2, er]
      have : rl D v k t = tot D (pd v k t) (k + 1) := rfl
      exact ⟨by omega, by omega, by omega, hQ⟩
    | succ m ih =>
      intro k x2 x3 x4 hk h4 h3 h2
      have b1 := pd_b (n := n) hv hw.2.1 k
      have e4 : x4.toNat = k := by omega
      have e3 : x3.toNat = pd v n t k := by omega
      have tk := hw.2.1 k (by omega)
      have e1 : pd v n t (k + 1) = t k := by unfold pd; rw [if_neg (by omega), if_pos (by omega), Nat.add_sub_cancel]
      have et : σ (12 + pd v n t k) (t k) = ds D (pd v n t k) (t k) := hp.2.2.2.2.2 _ b1 _ (by omega)
      have tb := tot_b hD (u := pd v n t) (k + 1) (fun i _ => pd_b hv hw.2.1 i)
      have er : tot D (pd v n t) k + ds D (pd v n t k) (t k) = tot D (pd v n t) (k + 1) := by simp only [tot]; rw [e1]
      refine vcX4_length_10 l G σ Q r x2 x3 x4 hr ⟨fun h => absurd h (by omega), fun _ => ?_⟩
      rw [e3, e4, a4 k (by omega), show ((t k : Nat) : Int).toNat = t k by omega, et, h2, er]
      exact ⟨by omega, by omega, by omega, by omega, by omega, ih (k + 1) _ _ _ (by omega) (by omega) (by rw [e1]) rfl⟩
  exact clX4_length l G σ Q r hr (key n 0 _ _ _ (by omega) rfl (by rw [a2]; simp [pd]) rfl)
theorem sp_added (hD : DOK D) (hv : v < 4) (hr : isRt r) (hw : RW n t) {σ : Sto} (hp : rP D σ) (hR : rR σ r v n t) {q i j : Nat} (hq : q < 12) (hij : i < j) (hj : j < n + 2) {x2 x3 x4 : Int} (h2 : x2 = q) (h3 : x3 = i) (h4 : x4 = j) {Q : Int → Sto → Prop} (hQ : Q (adL D v n t q i j) σ) : CLi l G mX4_addedLength [vR 1, vR r, vI x2, vI x3, vI x4] σ Q := by
  have n24 := hw.1
  have B : ∀ k, pd v n t k < 28 := pd_b hv hw.2.1
  have tr : ∀ a, a < 28 → ∀ b, b < 28 → σ (12 + a) b = ds D a b := hp.2.2.2.2.2
  have D0 := ds_0 D
  have D1 : ∀ a b, a < 28 → b < 28 → ds D a b ≤ 198 := fun a b ha hb => ds_le hD ha hb
  have e2 : (2 * x2).toNat = 2 * q := by omega
  have e3 : (2 * x2 + 1).toNat = 2 * q + 1 := by omega
  refine clX4_addedLength l G σ Q r x2 x3 x4 hr ⟨by omega, by omega, by omega, sp_placeAt hr hR n24 (k := i) (by omega) (by omega) (sp_placeAt hr hR n24 (k := i + 1) (by omega) (by omega) ⟨by omega, fun c => ?_, fun c => ⟨by omega, sp_placeAt hr hR n24 (k := j - 1) (by omega) (by omega) ⟨by omega, sp_placeAt hr hR n24 (k := j) (by omega) (by omega) ?_⟩⟩⟩)⟩
  · have c2 : j = i + 1 := by omega
    rw [e2, e3, Int.toNat_natCast, Int.toNat_natCast, tr _ (B i) _ (by omega), tr _ (by omega) _ (by omega), tr _ (by omega) _ (B (i + 1)), tr _ (B i) _ (B (i + 1))]
    have b1 := B i
    have b2 := B (i + 1)
    have d1 := D1 _ _ (B i) (show 2 * q < 28 by omega)
    have d2 := D1 (2 * q) (2 * q + 1) (by omega) (by omega)
    have d3 := D1 (2 * q + 1) _ (by omega) (B (i + 1))
    have d4 := D1 _ _ (B i) (B (i + 1))
    have z1 := D0 (pd v n t i) (2 * q)
    have z2 := D0 (2 * q) (2 * q + 1)
    have z3 := D0 (2 * q + 1) (pd v n t (i + 1))
    have z4 := D0 (pd v n t i) (pd v n t (i + 1))
    unfold adL at hQ
    rw [if_pos c2] at hQ
    exact ⟨by omega, by omega, by omega, by omega, by omega, by omega, by omega, hQ⟩
  · have c2 : ¬ j = i + 1 := by omega
    rw [e2, e3, Int.toNat_natCast, Int.toNat_natCast, Int.toNat_natCast, Int.toNat_natCast, tr _ (B i) _ (by omega), tr _ (by omega) _ (B (i + 1)), tr _ (B i) _ (B (i + 1)), tr _ (B (j - 1)) _ (by omega), tr _ (by omega) _ (B j), tr _ (B (j - 1)) _ (B j)]
    have b1 := B i
    have b2 := B (i + 1)
    have b3 := B (j - 1)
    have b4 := B j
    have d1 := D1 _ _ (B i) (show 2 * q < 28 by omega)
    have d2 := D1 (2 * q) _ (by omega) (B (i + 1))
    have d3 := D1 _ _ (B i) (B (i + 1))
    have d4 := D1 _ _ (B (j - 1)) (show 2 * q + 1 < 28 by omega)
    have d5 := D1 (2 * q + 1) _ (by omega) (B j)
    have d6 := D1 _ _ (B (j - 1)) (B j)
    have z1 := D0 (pd v n t i) (2 * q)
    have z2 := D0 (2 * q) (pd v n t (i + 1))
    have z3 := D0 (pd v n t i) (pd v n t (i + 1))
    have z4 := D0 (pd v n t (j - 1)) (2 * q + 1)
    have z5 := D0 (2 * q + 1) (pd v n t j)
    have z6 := D0 (pd v n t (j - 1)) (pd v n t j)
    unfold adL at hQ
    rw [if_neg c2] at hQ
    exact ⟨by omega, by omega, by omega, by omega, by omega, by omega, by omega, by omega, by omega, by omega, by omega, hQ⟩
end ROUTE
