def bfS (n : Nat) (lo : Nat → Int) (Ed : Nat → Nat → Int → Prop) (s : Nat → Int) : Prop := (∀ k, k < n → lo k ≤ s k) ∧ ∀ j k w, j < n → k < n → Ed j k w → s j + w ≤ s k
def bfL (n : Nat) (lo : Nat → Int) (Ed : Nat → Nat → Int → Prop) (E : Nat → Int) : Prop := bfS n lo Ed E ∧ ∀ s, bfS n lo Ed s → ∀ k, k < n → E k ≤ s k
def bfm (lo s : Nat → Int) : Nat → Nat
  | 0 => 0
  | k + 1 => bfm lo s k + (s k - lo k).toNat
theorem bfm_le {lo s s' : Nat → Int} : ∀ n, (∀ k, k < n → s k ≤ s' k) → bfm lo s n ≤ bfm lo s' n
  | 0, _ => Nat.le_refl _
  | n + 1, h => by
    have h1 := bfm_le (lo := lo) n (fun k hk => h k (by omega))
    have h2 := h n (by omega)
    simp only [bfm]
    omega
theorem bfm_lt {lo s s' : Nat → Int} : ∀ n, (∀ k, k < n → lo k ≤ s k ∧ s k ≤ s' k) → (∃ k, k < n ∧ s k < s' k) → bfm lo s n < bfm lo s' n
  | 0, _, ⟨k, hk, _⟩ => absurd hk (Nat.not_lt_zero _)
  | n + 1, h, ⟨k, hk, hlt⟩ => by
    have h2 := h n (by omega)
    simp only [bfm]
    by_cases e : k = n
    · subst e
      have h1 := bfm_le (lo := lo) (s := s) (s' := s') k (fun i hi => (h i (by omega)).2)
      omega
    · have h1 := bfm_lt (lo := lo) (s := s) (s' := s') n (fun i hi => h i (by omega)) ⟨k, by omega, hlt⟩
      omega
theorem bf_least0 {n : Nat} {lo : Nat → Int} {Ed : Nat → Nat → Int → Prop} : ∀ (m : Nat) (s : Nat → Int), bfS n lo Ed s → bfm lo s n ≤ m → ∃ E, bfL n lo Ed E := by
  intro m
  induction m with
  | zero =>
    intro s hs hm
    refine ⟨s, hs, fun s' hs' k hk => ?_⟩
    have hz : ∀ i, i < n → s i ≤ lo i := by
      intro i hi
      by_cases h : s i ≤ lo i
      · exact h
      · have h3 := bfm_lt (lo := lo) (s := lo) (s' := s) n (fun j hj => ⟨Int.le_refl _, hs.1 j hj⟩) ⟨i, hi, by omega⟩
        omega
    have := hs'.1 k hk
    have := hz k hk
    omega
  | succ m ih =>
    intro s hs hm
    by_cases hl : ∀ s', bfS n lo Ed s' → ∀ k, k < n → s k ≤ s' k
    · exact ⟨s, hs, hl⟩
    · obtain ⟨s', hl⟩ := Classical.not_forall.mp hl
      obtain ⟨hs', hl⟩ := Classical.not_forall.mp hl
      obtain ⟨k, hl⟩ := Classical.not_forall.mp hl
      obtain ⟨hk, hl⟩ := Classical.not_forall.mp hl
      have hmin : bfS n lo Ed (fun i => if s' i ≤ s i then s' i else s i) := by
        refine ⟨fun i hi => ?_, fun i j w hi hj hE => ?_⟩
        · have := hs.1 i hi
          have := hs'.1 i hi
          show lo i ≤ if s' i ≤ s i then s' i else s i
          split <;> assumption
        · have := hs.2 i j w hi hj hE
          have := hs'.2 i j w hi hj hE
          show (if s' i ≤ s i then s' i else s i) + w ≤ if s' j ≤ s j then s' j else s j
          split <;> split <;> omega
      refine ih _ hmin ?_
      have := bfm_lt (lo := lo) (s := fun i => if s' i ≤ s i then s' i else s i) (s' := s) n (fun i hi => ⟨hmin.1 i hi, by show (if s' i ≤ s i then s' i else s i) ≤ s i; split <;> omega⟩) ⟨k, hk, by show (if s' k ≤ s k then s' k else s k) < s k; split <;> omega⟩
      omega
theorem bf_least {n : Nat} {lo : Nat → Int} {Ed : Nat → Nat → Int → Prop} {s : Nat → Int} (hs : bfS n lo Ed s) : ∃ E, bfL n lo Ed E := bf_least0 _ s hs (Nat.le_refl _)
def bfc (E e : Nat → Int) : Nat → Nat
  | 0 => 0
  | k + 1 => bfc E e k + (if e k = E k then 1 else 0)
theorem bfc_le (E e : Nat → Int) : ∀ n, bfc E e n ≤ n
  | 0 => Nat.le_refl _
  | n + 1 => by
    have := bfc_le E e n
    simp only [bfc]
    split <;> omega
theorem bfc_all {E e : Nat → Int} : ∀ n, n ≤ bfc E e n → ∀ k, k < n → e k = E k
  | 0, _, k, hk => absurd hk (Nat.not_lt_zero _)
  | n + 1, h, k, hk => by
    have h1 := bfc_le E e n
    simp only [bfc] at h
    by_cases hn : e n = E n
    · by_cases hkn : k = n
      · rw [hkn]; exact hn
      · refine bfc_all n ?_ k (by omega)
        rw [if_pos hn] at h
        omega
    · rw [if_neg hn] at h
      omega
theorem bfc_mono {E e e' : Nat → Int} : ∀ n, (∀ k, k < n → e k = E k → e' k = E k) → bfc E e n ≤ bfc E e' n
  | 0, _ => Nat.le_refl _
  | n + 1, h => by
    have h1 := bfc_mono (E := E) (e := e) (e' := e') n (fun k hk => h k (by omega))
    have h2 := h n (by omega)
    simp only [bfc]
    by_cases a : e n = E n
    · rw [if_pos a, if_pos (h2 a)]; omega
    · rw [if_neg a]; omega
theorem bfc_lt {E e e' : Nat → Int} : ∀ n, (∀ k, k < n → e k = E k → e' k = E k) → (∃ k, k < n ∧ e k ≠ E k ∧ e' k = E k) → bfc E e n < bfc E e' n
  | 0, _, ⟨k, hk, _⟩ => absurd hk (Nat.not_lt_zero _)
  | n + 1, h, ⟨k, hk, h3, h4⟩ => by
    have h2 := h n (by omega)
    simp only [bfc]
    by_cases hkn : k = n
    · subst hkn
      have h1 := bfc_mono (E := E) (e := e) (e' := e') k (fun i hi => h i (by omega))
      rw [if_neg h3, if_pos h4]
      omega
    · have h1 := bfc_lt (E := E) (e := e) (e' := e') n (fun i hi => h i (by omega)) ⟨k, by omega, h3, h4⟩
      by_cases a : e n = E n
      · rw [if_pos a, if_pos (h2 a)]; omega
      · rw [if_neg a]; omega
theorem bfc_eq {E e e' : Nat → Int} (n : Nat) (h : ∀ k, k < n → e k = e' k) : bfc E e n = bfc E e' n :=
  Nat.le_antisymm (bfc_mono n fun k hk q => (h k hk).symm.trans q) (bfc_mono n fun k hk q => (h k hk).trans q)
theorem bf_step {n : Nat} {lo : Nat → Int} {Ed : Nat → Nat → Int → Prop} {E e e' : Nat → Int} (hE : bfL n lo Ed E) (h0 : ∀ k, k < n → lo k ≤ e k) (h1 : ∀ k, k < n → e k ≤ e' k) (h2 : ∀ k, k < n → e' k ≤ E k)
    (hr : ∀ j k w, j < n → k < n → Ed j k w → e j + w ≤ e' k) (hc : bfc E e n < n) : bfc E e n < bfc E e' n := by
  refine bfc_lt n (fun k hk q => ?_) ?_
  · have := h1 k hk
    have := h2 k hk
    omega
  · apply Classical.byContradiction
    intro hno
    have hs : ∀ k, k < n → e' k = E k → e k = E k := fun k hk q => Classical.byContradiction fun h => hno ⟨k, hk, h, q⟩
    have hU : ∃ k, k < n ∧ e k ≠ E k := Classical.byContradiction fun h => by
      have : bfc E E n ≤ bfc E e n := bfc_mono n fun k hk _ => Classical.byContradiction fun q => h ⟨k, hk, q⟩
      have h4 : ∀ m, bfc E E m = m := fun m => by
        induction m with
        | zero => rfl
        | succ m ih => simp only [bfc, if_true]; omega
      rw [h4] at this
      omega
    have hS : bfS n lo Ed (fun k => if e k = E k then E k else E k - 1) := by
      refine ⟨fun k hk => ?_, fun j k w hj hk hw => ?_⟩
      · have a1 := h0 k hk
        have a2 := h1 k hk
        have a3 := h2 k hk
        show lo k ≤ if e k = E k then E k else E k - 1
        split <;> omega
      · have a1 := hr j k w hj hk hw
        have a2 := hE.1.2 j k w hj hk hw
        have a3 := h2 k hk
        have a4 := hs k hk
        show (if e j = E j then E j else E j - 1) + w ≤ if e k = E k then E k else E k - 1
        by_cases b1 : e j = E j <;> by_cases b2 : e k = E k
        · rw [if_pos b1, if_pos b2]; exact a2
        · rw [if_pos b1, if_neg b2]
          have : e' k ≠ E k := fun q => b2 (a4 q)
          omega
        · rw [if_neg b1, if_pos b2]; omega
        · rw [if_neg b1, if_neg b2]; omega
    obtain ⟨k, hk, hne⟩ := hU
    have := hE.2 _ hS k hk
    simp only [if_neg hne] at this
    omega
theorem bf_init {n : Nat} {lo : Nat → Int} {Ed : Nat → Nat → Int → Prop} {E : Nat → Int} (hE : bfL n lo Ed E) (hn : 0 < n) : 0 < bfc E lo n := by
  apply Classical.byContradiction
  intro hz
  have hall : ∀ m, m ≤ n → bfc E lo m = 0 := by
    have mono : ∀ d m, bfc E lo m ≤ bfc E lo (m + d) := by
      intro d
      induction d with
      | zero => intro m; exact Nat.le_refl _
      | succ d ih =>
        intro m
        have := ih m
        show bfc E lo m ≤ bfc E lo (m + d) + _
        omega
    intro m hm
    have := mono (n - m) m
    rw [show m + (n - m) = n by omega] at this
    omega
  have hlt : ∀ k, k < n → lo k < E k := by
    intro k hk
    have a := hall (k + 1) (by omega)
    have b := hE.1.1 k hk
    simp only [bfc] at a
    by_cases q : lo k = E k
    · rw [if_pos q] at a; omega
    · omega
  have hS : bfS n lo Ed (fun k => E k - 1) := by
    refine ⟨fun k hk => ?_, fun j k w hj hk hw => ?_⟩
    · have := hlt k hk
      show lo k ≤ E k - 1
      omega
    · have := hE.1.2 j k w hj hk hw
      show E j - 1 + w ≤ E k - 1
      omega
  have h9 : E 0 ≤ E 0 - 1 := hE.2 _ hS 0 hn
  omega
def iab (z : Int) : Int := if z < 0 then -z else z
def ds (D : Sto) (a b : Nat) : Int := iab (D 1 a - D 1 b) + iab (D 2 a - D 2 b)
theorem iab_tri (a b : Int) : iab (a + b) ≤ iab a + iab b := by unfold iab; split <;> split <;> split <;> omega
theorem iab_0 (a : Int) : 0 ≤ iab a := by unfold iab; split <;> omega
theorem iab_n (a : Int) : iab (-a) = iab a := by unfold iab; split <;> split <;> omega
theorem iab_e (a b : Int) : iab (a - b) = iab (b - a) := by rw [← iab_n, Int.neg_sub]
theorem ds_0 (D : Sto) (a b : Nat) : 0 ≤ ds D a b := by
  have := iab_0 (D 1 a - D 1 b)
  have := iab_0 (D 2 a - D 2 b)
  unfold ds; omega
theorem ds_s (D : Sto) (a b : Nat) : ds D a b = ds D b a := by unfold ds; rw [iab_e, iab_e (D 2 a)]
theorem ds_r (D : Sto) (a : Nat) : ds D a a = 0 := by unfold ds iab; simp
theorem ds_t (D : Sto) (a b c : Nat) : ds D a c ≤ ds D a b + ds D b c := by
  have h1 := iab_tri (D 1 a - D 1 b) (D 1 b - D 1 c)
  have h2 := iab_tri (D 2 a - D 2 b) (D 2 b - D 2 c)
  rw [show D 1 a - D 1 b + (D 1 b - D 1 c) = D 1 a - D 1 c by omega] at h1
  rw [show D 2 a - D 2 b + (D 2 b - D 2 c) = D 2 a - D 2 c by omega] at h2
  unfold ds; omega
def DOK (D : Sto) : Prop := (0 ≤ D 0 0 ∧ D 0 0 ≤ 10) ∧ (∀ a, a < 28 → 0 ≤ D 1 a ∧ D 1 a ≤ 99 ∧ 0 ≤ D 2 a ∧ D 2 a ≤ 99) ∧ (∀ s, s < 24 → 0 ≤ D 3 s ∧ D 3 s ≤ 5000 ∧ 0 ≤ D 4 s ∧ D 4 s ≤ 5000) ∧ (∀ r, r < 12 → 0 ≤ D 5 r ∧ D 5 r ≤ 8 ∧ 0 ≤ D 6 r ∧ D 6 r ≤ 1000) ∧
  (∀ v, v < 4 → 0 ≤ D 7 v ∧ D 7 v ≤ 8 ∧ 0 ≤ D 8 v ∧ D 8 v ≤ 5000 ∧ 0 ≤ D 9 v ∧ D 9 v ≤ 5000) ∧ 0 ≤ D 10 0 ∧ D 10 0 ≤ 4 ∧ 0 ≤ D 10 1 ∧ D 10 1 ≤ 12
theorem iab_le {a b c : Int} (h : a ≤ c ∧ b ≤ c ∧ 0 ≤ a ∧ 0 ≤ b) : iab (a - b) ≤ c := by unfold iab; split <;> omega
theorem ds_le {D : Sto} (h : DOK D) {a b : Nat} (ha : a < 28) (hb : b < 28) : ds D a b ≤ 198 := by
  have h1 := h.2.1 a ha
  have h2 := h.2.1 b hb
  have h3 := iab_le (a := D 1 a) (b := D 1 b) (c := 99) (by omega)
  have h4 := iab_le (a := D 2 a) (b := D 2 b) (c := 99) (by omega)
  unfold ds; omega
def RW (n : Nat) (t : Nat → Nat) : Prop := n ≤ 24 ∧ (∀ k, k < n → t k < 24) ∧ (∀ i j, i < n → j < n → t i = t j → i = j) ∧ (∀ i, i < n → t i % 2 = 0 → ∃ j, i < j ∧ j < n ∧ t j = t i + 1) ∧ (∀ j, j < n → t j % 2 = 1 → ∃ i, i < j ∧ t i + 1 = t j)
def SC (D : Sto) (v n : Nat) (t : Nat → Nat) (e : Nat → Int) : Prop := (0 < n → D 8 v + ds D (24 + v) (t 0) ≤ e 0) ∧ (∀ k, k + 1 < n → e k + D 0 0 + ds D (t k) (t (k + 1)) ≤ e (k + 1)) ∧ (∀ k, k < n → D 3 (t k) ≤ e k ∧ e k ≤ D 4 (t k)) ∧
  (∀ i j, i < n → j < n → t i % 2 = 0 → t j = t i + 1 → e j - (e i + D 0 0) ≤ D 6 (t i / 2)) ∧ (0 < n → e (n - 1) + D 0 0 + ds D (t (n - 1)) (24 + v) ≤ D 9 v)
def ld (D : Sto) (t : Nat → Nat) : Nat → Int
  | 0 => 0
  | k + 1 => ld D t k + (if t k % 2 = 0 then D 5 (t k / 2) else - D 5 (t k / 2))
def ldm (D : Sto) (t : Nat → Nat) : Nat → Int
  | 0 => 0
  | k + 1 => if ldm D t k < ld D t (k + 1) then ld D t (k + 1) else ldm D t k
def FE (D : Sto) (v n : Nat) (t : Nat → Nat) : Prop := ldm D t n ≤ D 7 v ∧ ∃ e, SC D v n t e
def isE (D : Sto) (v n : Nat) (t : Nat → Nat) (e : Nat → Int) : Prop := SC D v n t e ∧ ∀ e', SC D v n t e' → ∀ k, k < n → e k ≤ e' k
def isL (D : Sto) (v n : Nat) (t : Nat → Nat) (e : Nat → Int) : Prop := SC D v n t e ∧ ∀ e', SC D v n t e' → ∀ k, k < n → e' k ≤ e k
theorem isE_u {D : Sto} {v n : Nat} {t : Nat → Nat} {e e' : Nat → Int} (h : isE D v n t e) (h' : isE D v n t e') (k : Nat) (hk : k < n) : e k = e' k := Int.le_antisymm (h.2 e' h'.1 k hk) (h'.2 e h.1 k hk)
theorem isL_u {D : Sto} {v n : Nat} {t : Nat → Nat} {e e' : Nat → Int} (h : isL D v n t e) (h' : isL D v n t e') (k : Nat) (hk : k < n) : e k = e' k := Int.le_antisymm (h'.2 e h.1 k hk) (h.2 e' h'.1 k hk)
