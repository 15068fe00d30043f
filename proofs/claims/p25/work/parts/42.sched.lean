def mxI (a b : Int) : Int := if a ≤ b then b else a
def mnI (a b : Int) : Int := if b ≤ a then b else a
def gos (D : Sto) (v n : Nat) (t : Nat → Nat) (g : Nat → Int) (k : Nat) : Int := if k = n - 1 then D 9 v - D 0 0 - ds D (24 + v) (t k) else g (k + 1) - D 0 0 - ds D (t k) (t (k + 1))
theorem SC_com {D : Sto} {v n : Nat} {t : Nat → Nat} {e : Nat → Int} (h : SC D v n t e) {k : Nat} (hk : k < n) : cms D v t e k ≤ e k := by
  unfold cms
  split
  · next c => subst c; exact h.1 hk
  · have q := h.2.1 (k - 1) (by omega)
    rw [show k - 1 + 1 = k by omega] at q
    exact q
theorem SC_gos {D : Sto} {v n : Nat} {t : Nat → Nat} {e : Nat → Int} (h : SC D v n t e) {k : Nat} (hk : k < n) : e k ≤ gos D v n t e k := by
  unfold gos
  split
  · next c =>
    have q := h.2.2.2.2 (by omega)
    rw [← c, ds_s] at q
    omega
  · have q := h.2.1 k (by omega)
    omega
theorem low_SC {D : Sto} {v n : Nat} {t : Nat → Nat} {e : Nat → Int} (h : SC D v n t e) {k : Nat} (hk : k < n) (h1 : D 3 (t k) < e k) (h2 : cms D v t e k < e k) (h3 : ∀ j, j < n → t k % 2 = 0 → t j = t k + 1 → e j - D 6 (t k / 2) - D 0 0 < e k) : SC D v n t (fun i => if i = k then e k - 1 else e i) := by
  refine ⟨fun h0 => ?_, fun i hi => ?_, fun i hi => ?_, fun i j hi hj c1 c2 => ?_, fun h0 => ?_⟩
  · show _ ≤ if 0 = k then e k - 1 else e 0
    by_cases c : 0 = k
    · subst c
      rw [if_pos rfl]
      unfold cms at h2
      rw [if_pos rfl] at h2
      omega
    · rw [if_neg c]; exact h.1 h0
  · show (if i = k then e k - 1 else e i) + _ + _ ≤ if i + 1 = k then e k - 1 else e (i + 1)
    have q := h.2.1 i hi
    by_cases c : i + 1 = k
    · rw [if_pos c, if_neg (by omega)]
      unfold cms at h2
      rw [if_neg (by omega), ← c, Nat.add_sub_cancel] at h2
      rw [← c]
      omega
    · rw [if_neg c]
      by_cases c2 : i = k
      · rw [if_pos c2, ← c2]; omega
      · rw [if_neg c2]; exact q
  · show _ ≤ (if i = k then e k - 1 else e i) ∧ (if i = k then e k - 1 else e i) ≤ _
    have q := h.2.2.1 i hi
    by_cases c2 : i = k
    · subst c2; rw [if_pos rfl]; omega
    · rw [if_neg c2]; exact q
  · show (if j = k then e k - 1 else e j) - ((if i = k then e k - 1 else e i) + D 0 0) ≤ _
    have q := h.2.2.2.1 i j hi hj c1 c2
    have hij : i ≠ j := fun z => by subst z; omega
    by_cases c : i = k
    · subst c
      rw [if_pos rfl, if_neg (Ne.symm hij)]
      have := h3 j hj c1 c2
      omega
    · rw [if_neg c]
      by_cases c3 : j = k
      · rw [if_pos c3, ← c3]; omega
      · rw [if_neg c3]; exact q
  · show (if n - 1 = k then e k - 1 else e (n - 1)) + _ + _ ≤ _
    have q := h.2.2.2.2 h0
    by_cases c : n - 1 = k
    · rw [if_pos c, c]; rw [c] at q; omega
    · rw [if_neg c]; exact q
theorem up_SC {D : Sto} {v n : Nat} {t : Nat → Nat} {e : Nat → Int} (h : SC D v n t e) {k : Nat} (hk : k < n) (h1 : e k < D 4 (t k)) (h2 : e k < gos D v n t e k) (h3 : ∀ i, i < n → t i % 2 = 0 → t k = t i + 1 → e k < e i + D 0 0 + D 6 (t i / 2)) : SC D v n t (fun i => if i = k then e k + 1 else e i) := by
  refine ⟨fun h0 => ?_, fun i hi => ?_, fun i hi => ?_, fun i j hi hj c1 c2 => ?_, fun h0 => ?_⟩
  · show _ ≤ if 0 = k then e k + 1 else e 0
    have q := h.1 h0
    by_cases c : 0 = k
    · subst c; rw [if_pos rfl]; omega
    · rw [if_neg c]; exact q
  · show (if i = k then e k + 1 else e i) + _ + _ ≤ if i + 1 = k then e k + 1 else e (i + 1)
    have q := h.2.1 i hi
    by_cases c : i = k
    · subst c
      rw [if_pos rfl, if_neg (by omega)]
      unfold gos at h2
      rw [if_neg (by omega)] at h2
      omega
    · rw [if_neg c]
      by_cases c2 : i + 1 = k
      · rw [if_pos c2, ← c2]; omega
      · rw [if_neg c2]; exact q
  · show _ ≤ (if i = k then e k + 1 else e i) ∧ (if i = k then e k + 1 else e i) ≤ _
    have q := h.2.2.1 i hi
    by_cases c2 : i = k
    · subst c2; rw [if_pos rfl]; omega
    · rw [if_neg c2]; exact q
  · show (if j = k then e k + 1 else e j) - ((if i = k then e k + 1 else e i) + D 0 0) ≤ _
    have q := h.2.2.2.1 i j hi hj c1 c2
    have hij : i ≠ j := fun z => by subst z; omega
    by_cases c : j = k
    · subst c
      rw [if_pos rfl, if_neg hij]
      have := h3 i hi c1 c2
      omega
    · rw [if_neg c]
      by_cases c3 : i = k
      · rw [if_pos c3, ← c3]; omega
      · rw [if_neg c3]; exact q
  · show (if n - 1 = k then e k + 1 else e (n - 1)) + _ + _ ≤ _
    have q := h.2.2.2.2 h0
    by_cases c : n - 1 = k
    · rw [if_pos c]
      unfold gos at h2
      rw [if_pos c.symm, ds_s] at h2
      rw [c]
      omega
    · rw [if_neg c]; exact q
theorem isE_low {D : Sto} {v n : Nat} {t : Nat → Nat} {e : Nat → Int} (h : isE D v n t e) {k : Nat} (hk : k < n) (h1 : D 3 (t k) < e k) (h2 : cms D v t e k < e k) (h3 : ∀ j, j < n → t k % 2 = 0 → t j = t k + 1 → e j - D 6 (t k / 2) - D 0 0 < e k) : False := by
  have q := h.2 _ (low_SC h.1 hk h1 h2 h3) k hk
  simp only [if_true] at q
  omega
theorem isL_up {D : Sto} {v n : Nat} {t : Nat → Nat} {e : Nat → Int} (h : isL D v n t e) {k : Nat} (hk : k < n) (h1 : e k < D 4 (t k)) (h2 : e k < gos D v n t e k) (h3 : ∀ i, i < n → t i % 2 = 0 → t k = t i + 1 → e k < e i + D 0 0 + D 6 (t i / 2)) : False := by
  have q := h.2 _ (up_SC h.1 hk h1 h2 h3) k hk
  simp only [if_true] at q
  omega
theorem isE_pick {D : Sto} {v n : Nat} {t : Nat → Nat} (hw : RW n t) {e : Nat → Int} (h : isE D v n t e) {k j : Nat} (hk : k < n) (hj : j < n) (h0 : t k % 2 = 0) (hkj : t j = t k + 1) : e k = (if e j - D 6 (t k / 2) - D 0 0 ≤ mxI (D 3 (t k)) (cms D v t e k) then mxI (D 3 (t k)) (cms D v t e k) else e j - D 6 (t k / 2) - D 0 0) := by
  have a1 := (h.1.2.2.1 k hk).1
  have a2 := SC_com h.1 hk
  have a3 := h.1.2.2.2.1 k j hk hj h0 hkj
  have a4 : ¬ (D 3 (t k) < e k ∧ cms D v t e k < e k ∧ e j - D 6 (t k / 2) - D 0 0 < e k) := fun q => isE_low h hk q.1 q.2.1 (fun i hi _ c => by
    have : i = j := hw.2.2.1 i j hi hj (c.trans hkj.symm)
    rw [this]; exact q.2.2)
  unfold mxI
  split <;> split <;> omega
theorem isE_drop {D : Sto} {v n : Nat} {t : Nat → Nat} {e : Nat → Int} (h : isE D v n t e) {k : Nat} (hk : k < n) (h0 : t k % 2 = 1) : e k = mxI (D 3 (t k)) (cms D v t e k) := by
  have a1 := (h.1.2.2.1 k hk).1
  have a2 := SC_com h.1 hk
  have a4 : ¬ (D 3 (t k) < e k ∧ cms D v t e k < e k) := fun q => isE_low h hk q.1 q.2 (fun i hi z c => by omega)
  unfold mxI
  split <;> omega
theorem isL_pick {D : Sto} {v n : Nat} {t : Nat → Nat} {e : Nat → Int} (h : isL D v n t e) {k : Nat} (hk : k < n) (h0 : t k % 2 = 0) : e k = mnI (D 4 (t k)) (gos D v n t e k) := by
  have a1 := (h.1.2.2.1 k hk).2
  have a2 := SC_gos h.1 hk
  have a4 : ¬ (e k < D 4 (t k) ∧ e k < gos D v n t e k) := fun q => isL_up h hk q.1 q.2 (fun i hi z c => by omega)
  unfold mnI
  split <;> omega
theorem isL_drop {D : Sto} {v n : Nat} {t : Nat → Nat} (hw : RW n t) {e : Nat → Int} (h : isL D v n t e) {k i : Nat} (hk : k < n) (hi : i < n) (h0 : t i % 2 = 0) (hki : t k = t i + 1) : e k = (if mnI (D 4 (t k)) (gos D v n t e k) ≤ e i + D 0 0 + D 6 (t i / 2) then mnI (D 4 (t k)) (gos D v n t e k) else e i + D 0 0 + D 6 (t i / 2)) := by
  have a1 := (h.1.2.2.1 k hk).2
  have a2 := SC_gos h.1 hk
  have a3 := h.1.2.2.2.1 i k hi hk h0 hki
  have a4 : ¬ (e k < D 4 (t k) ∧ e k < gos D v n t e k ∧ e k < e i + D 0 0 + D 6 (t i / 2)) := fun q => isL_up h hk q.1 q.2.1 (fun j hj _ c => by
    have : j = i := hw.2.2.1 j i hj hi (by omega)
    rw [this]; exact q.2.2)
  unfold mnI
  split <;> split <;> omega
theorem FE_L {D : Sto} {v n : Nat} {t : Nat → Nat} (h : FE D v n t) : isE D v n t (eS D v n t) ∧ isL D v n t (lS D v n t) := by
  obtain ⟨-, s, hs⟩ := h
  obtain ⟨E, -, hE⟩ := isE_ex hs
  refine ⟨eS_is hE, ?_⟩
  have hb := (SC_L.mp hs).1
  obtain ⟨E2, hE2⟩ := bf_least hb
  exact lS_is (isL_of hE2 hs)
def sg (D : Sto) (t : Nat → Nat) : Nat → Int
  | 0 => 0
  | k + 1 => sg D t k + (if k = 0 then 0 else ds D (t (k - 1)) (t k))
theorem rl_sg (D : Sto) (v n : Nat) (t : Nat → Nat) : rl D v n t = (if n = 0 then 0 else ds D (24 + v) (t 0) + ds D (24 + v) (t (n - 1))) + sg D t n := by
  have key : ∀ m, m + 1 ≤ n → tot D (pd v n t) (m + 1) = ds D (24 + v) (t 0) + sg D t (m + 1) := by
    intro m
    induction m with
    | zero =>
      intro hm
      simp only [tot, sg]
      have e0 : pd v n t 0 = 24 + v := rfl
      have e1 : pd v n t (0 + 1) = t 0 := by unfold pd; rw [if_neg (by omega), if_pos (by omega)]
      rw [e0, e1]
      simp
    | succ m ih =>
      intro hm
      have e0 : pd v n t (m + 1) = t m := by unfold pd; rw [if_neg (by omega), if_pos (by omega), Nat.add_sub_cancel]
      have e1 : pd v n t (m + 1 + 1) = t (m + 1) := by unfold pd; rw [if_neg (by omega), if_pos (by omega), Nat.add_sub_cancel]
      have ih := ih (by omega)
      have s1 : tot D (pd v n t) (m + 1 + 1) = tot D (pd v n t) (m + 1) + ds D (pd v n t (m + 1)) (pd v n t (m + 1 + 1)) := rfl
      have s2 : sg D t (m + 1 + 1) = sg D t (m + 1) + ds D (t m) (t (m + 1)) := by
        show sg D t (m + 1) + (if m + 1 = 0 then 0 else ds D (t (m + 1 - 1)) (t (m + 1))) = _
        rw [if_neg (by omega), Nat.add_sub_cancel]
      rw [s1, s2, ih, e0, e1]
      omega
  unfold rl
  by_cases c : n = 0
  · subst c
    rw [if_pos rfl]
    simp only [tot, sg]
    have e0 : pd v 0 t 0 = 24 + v := rfl
    have e1 : pd v 0 t (0 + 1) = 24 + v := by unfold pd; rw [if_neg (by omega), if_neg (by omega)]
    rw [e0, e1, ds_r]
  · rw [if_neg c]
    obtain ⟨m, rfl⟩ : ∃ m, n = m + 1 := ⟨n - 1, by omega⟩
    have k := key m (Nat.le_refl _)
    have e0 : pd v (m + 1) t (m + 1) = t m := by unfold pd; rw [if_neg (by omega), if_pos (by omega), Nat.add_sub_cancel]
    have e1 : pd v (m + 1) t (m + 1 + 1) = 24 + v := by unfold pd; rw [if_neg (by omega), if_neg (by omega)]
    have s1 : tot D (pd v (m + 1) t) (m + 1 + 1) = tot D (pd v (m + 1) t) (m + 1) + ds D (pd v (m + 1) t (m + 1)) (pd v (m + 1) t (m + 1 + 1)) := rfl
    rw [s1, k, e0, e1, Nat.add_sub_cancel, ds_s D (t m)]
    omega
theorem sg_b {D : Sto} (hD : DOK D) {t : Nat → Nat} : ∀ k, (∀ i, i < k → t i < 24) → 0 ≤ sg D t k ∧ sg D t k ≤ 198 * (k : Int)
  | 0, _ => by simp [sg]
  | k + 1, h => by
    have a := sg_b hD k (fun i hi => h i (by omega))
    have b := h k (by omega)
    simp only [sg]
    split
    · omega
    · have c := h (k - 1) (by omega)
      have d := ds_le hD (a := t (k - 1)) (b := t k) (by omega) (by omega)
      have e := ds_0 D (t (k - 1)) (t k)
      omega
def stK (t : Nat → Nat) : Nat → Nat
  | 0 => 0
  | k + 1 => stK t k ||| 2 ^ (t k / 2)
theorem stK_t (t : Nat → Nat) (r : Nat) : ∀ k, (stK t k).testBit r = true ↔ ∃ i, i < k ∧ t i / 2 = r
  | 0 => by simp [stK]
  | k + 1 => by
    simp only [stK]
    rw [Nat.testBit_or, Bool.or_eq_true, stK_t t r k, Nat.testBit_two_pow, decide_eq_true_iff]
    constructor
    · rintro (⟨i, h1, h2⟩ | h)
      · exact ⟨i, by omega, h2⟩
      · exact ⟨k, by omega, h⟩
    · rintro ⟨i, h1, h2⟩
      by_cases c : i = k
      · subst c; exact Or.inr h2
      · exact Or.inl ⟨i, by omega, h2⟩
theorem bsv_t (p : PL) (v r : Nat) : ∀ m, (bsv p v m).testBit r = true ↔ r < m ∧ p.2.2 r = v
  | 0 => by simp [bsv]
  | m + 1 => by
    simp only [bsv]
    split
    · next c =>
      rw [Nat.testBit_or, Bool.or_eq_true, bsv_t p v r m, Nat.testBit_two_pow, decide_eq_true_iff]
      constructor
      · rintro (⟨h1, h2⟩ | h)
        · exact ⟨by omega, h2⟩
        · subst h; exact ⟨by omega, c⟩
      · rintro ⟨h1, h2⟩
        by_cases q : m = r
        · exact Or.inr q
        · exact Or.inl ⟨by omega, h2⟩
    · next c =>
      rw [bsv_t p v r m]
      constructor
      · rintro ⟨h1, h2⟩; exact ⟨by omega, h2⟩
      · rintro ⟨h1, h2⟩
        refine ⟨?_, h2⟩
        by_cases q : m = r
        · subst q; exact absurd h2 c
        · omega
theorem stK_bsv {D : Sto} {p : PL} (h : WP D p) {v : Nat} (hv : v < 4) : stK (p.2.1 v) (p.1 v) = bsv p v 12 := by
  apply Nat.eq_of_testBit_eq
  intro r
  rw [Bool.eq_iff_iff, stK_t, bsv_t]
  constructor
  · rintro ⟨i, h1, h2⟩
    have a := (h.1 v hv).2.1 i h1
    have b := h.2.1 v hv i h1
    rw [h2] at b
    exact ⟨by omega, b⟩
  · rintro ⟨h1, h2⟩
    rcases h.2.2.1 r h1 with z | ⟨w, a1, a2, a3, i, j, hij, hj, g1, g2⟩
    · omega
    · obtain rfl : w = v := by omega
      exact ⟨i, by omega, by omega⟩
theorem stK_b {t : Nat → Nat} : ∀ k, (∀ i, i < k → t i < 24) → stK t k < 2 ^ 12
  | 0, _ => by simp [stK]
  | k + 1, h => by
    simp only [stK]
    have a := h k (by omega)
    refine Nat.or_lt_two_pow (stK_b k (fun i hi => h i (by omega))) ?_
    exact Nat.pow_lt_pow_right (by omega) (by omega)
def prR (t : Nat → Nat) (x : Int64) : Nat → Int64
  | 0 => x
  | k + 1 => ((1009 * (prR t x k)) + (2 * (i2J ((t k / 2 : Nat) : Int)))) + (i2J ((t k % 2 : Nat) : Int))
def prV (p : PL) : Nat → Int64
  | 0 => 1
  | m + 1 => prR (p.2.1 m) ((1000003 * (prV p m)) + 7) (p.1 m)
def prF (D : Sto) (p : PL) : Int64 := prV p (nvN D)
