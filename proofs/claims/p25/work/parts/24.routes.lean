def pd (v n : Nat) (t : Nat → Nat) (k : Nat) : Nat := if k = 0 then 24 + v else if k ≤ n then t (k - 1) else 24 + v
def tot (D : Sto) (u : Nat → Nat) : Nat → Int
  | 0 => 0
  | m + 1 => tot D u m + ds D (u m) (u (m + 1))
def rl (D : Sto) (v n : Nat) (t : Nat → Nat) : Int := tot D (pd v n t) (n + 1)
def oi (i j k : Nat) : Nat := if k < i then k else if k < j then k - 1 else k - 2
def ni (i j k : Nat) : Nat := if k < i then k else if k + 1 < j then k + 1 else k + 2
def insT (t : Nat → Nat) (r i j k : Nat) : Nat := if k = i then 2 * r else if k = j then 2 * r + 1 else t (oi i j k)
def rmT (t : Nat → Nat) (i j k : Nat) : Nat := t (ni i j k)
theorem oi_ni {i j : Nat} (h : i < j) (k : Nat) : oi i j (ni i j k) = k ∧ ni i j k ≠ i ∧ ni i j k ≠ j := by
  unfold oi ni
  by_cases c1 : k < i
  · rw [if_pos c1, if_pos c1]; exact ⟨rfl, by omega, by omega⟩
  · by_cases c2 : k + 1 < j
    · simp only [if_neg c1, if_pos c2]
      rw [if_neg (by omega)]; omega
    · simp only [if_neg c1, if_neg c2]
      rw [if_neg (by omega), if_neg (by omega)]; omega
theorem ni_oi {i j : Nat} (h : i < j) (k : Nat) (h1 : k ≠ i) (h2 : k ≠ j) : ni i j (oi i j k) = k := by
  unfold oi ni
  by_cases c1 : k < i
  · simp only [if_pos c1]
  · by_cases c2 : k < j
    · simp only [if_neg c1, if_pos c2]
      rw [if_neg (by omega), if_pos (by omega)]; omega
    · simp only [if_neg c1, if_neg c2]
      rw [if_neg (by omega), if_neg (by omega)]; omega
theorem ni_lt {i j : Nat} (h : i < j) {a b : Nat} (hab : a < b) : ni i j a < ni i j b := by
  unfold ni
  (repeat' split) <;> omega
theorem oi_lt {i j : Nat} (h : i < j) {a b : Nat} (hab : a < b) (h1 : a ≠ i) (h2 : a ≠ j) (h3 : b ≠ i) (h4 : b ≠ j) : oi i j a < oi i j b := by
  unfold oi
  (repeat' split) <;> omega
theorem ni_b {i j n k : Nat} (h : i < j) (hj : j < n + 2) (hk : k < n) : ni i j k < n + 2 := by
  unfold ni; (repeat' split) <;> omega
theorem oi_b {i j n k : Nat} (h : i < j) (hj : j < n + 2) (hk : k < n + 2) (h1 : k ≠ i) (h2 : k ≠ j) : oi i j k < n := by
  unfold oi; (repeat' split) <;> omega
theorem insT_i {t : Nat → Nat} {r i j : Nat} : insT t r i j i = 2 * r := if_pos rfl
theorem insT_j {t : Nat → Nat} {r i j : Nat} (h : i < j) : insT t r i j j = 2 * r + 1 := by unfold insT; rw [if_neg (by omega), if_pos rfl]
theorem insT_o {t : Nat → Nat} {r i j k : Nat} (h1 : k ≠ i) (h2 : k ≠ j) : insT t r i j k = t (oi i j k) := by unfold insT; rw [if_neg h1, if_neg h2]
theorem insT_n {t : Nat → Nat} {r i j : Nat} (h : i < j) (k : Nat) : insT t r i j (ni i j k) = t k := by
  obtain ⟨a, b, c⟩ := oi_ni h k
  rw [insT_o b c, a]
theorem ins_rm {t : Nat → Nat} {r i j : Nat} (h : i < j) (h1 : t i = 2 * r) (h2 : t j = 2 * r + 1) : insT (rmT t i j) r i j = t := by
  funext k
  by_cases c1 : k = i
  · subst c1; rw [insT_i, h1]
  · by_cases c2 : k = j
    · subst c2; rw [insT_j h, h2]
    · rw [insT_o c1 c2, rmT, ni_oi h k c1 c2]
theorem pig : ∀ (m n : Nat) (f : Nat → Nat), (∀ i, i < n → f i < m) → (∀ i j, i < n → j < n → f i = f j → i = j) → n ≤ m
  | 0, n, f, h, _ => by
    cases n with
    | zero => exact Nat.le_refl _
    | succ n => exact absurd (h 0 (by omega)) (Nat.not_lt_zero _)
  | m + 1, n, f, h, hi => by
    by_cases hm : ∃ a, a < n ∧ f a = m
    · obtain ⟨a, ha, fa⟩ := hm
      have := pig m (n - 1) (fun i => if i < a then f i else f (i + 1)) (fun i hi2 => by
        show (if i < a then f i else f (i + 1)) < m
        split
        · have h1 := h i (by omega)
          have h2 : f i ≠ m := fun q => by have := hi i a (by omega) ha (by omega); omega
          omega
        · have h1 := h (i + 1) (by omega)
          have h2 : f (i + 1) ≠ m := fun q => by have := hi (i + 1) a (by omega) ha (by omega); omega
          omega) (fun i j hi2 hj2 e => by
        have e : (if i < a then f i else f (i + 1)) = (if j < a then f j else f (j + 1)) := e
        split at e <;> split at e
        · exact hi i j (by omega) (by omega) e
        · have := hi i (j + 1) (by omega) (by omega) e; omega
        · have := hi (i + 1) j (by omega) (by omega) e; omega
        · have := hi (i + 1) (j + 1) (by omega) (by omega) e; omega)
      omega
    · have := pig m n f (fun i hi2 => by
        have h1 := h i hi2
        have h2 : f i ≠ m := fun q => hm ⟨i, hi2, q⟩
        omega) hi
      omega
theorem insT_inj {n : Nat} {t : Nat → Nat} (hin : ∀ i j, i < n → j < n → t i = t j → i = j) {r i j : Nat} (ho : ∀ k, k < n → t k / 2 ≠ r) (hij : i < j) (hj : j < n + 2) (a b : Nat) (ha : a < n + 2) (hb : b < n + 2) (e : insT t r i j a = insT t r i j b) : a = b := by
  have hold : ∀ k, k < n + 2 → k ≠ i → k ≠ j → t (oi i j k) / 2 ≠ r := fun k hk h1 h2 => ho _ (oi_b hij hj hk h1 h2)
  by_cases a1 : a = i
  · by_cases b1 : b = i
    · omega
    · by_cases b2 : b = j
      · subst a1; subst b2; rw [insT_i, insT_j hij] at e; omega
      · subst a1; rw [insT_i, insT_o b1 b2] at e
        exact absurd (by omega) (hold b hb b1 b2)
  · by_cases a2 : a = j
    · by_cases b1 : b = i
      · subst a2; subst b1; rw [insT_i, insT_j hij] at e; omega
      · by_cases b2 : b = j
        · omega
        · subst a2; rw [insT_j hij, insT_o b1 b2] at e
          exact absurd (by omega) (hold b hb b1 b2)
    · by_cases b1 : b = i
      · subst b1; rw [insT_i, insT_o a1 a2] at e
        exact absurd (by omega) (hold a ha a1 a2)
      · by_cases b2 : b = j
        · subst b2; rw [insT_j hij, insT_o a1 a2] at e
          exact absurd (by omega) (hold a ha a1 a2)
        · rw [insT_o a1 a2, insT_o b1 b2] at e
          have := hin _ _ (oi_b hij hj ha a1 a2) (oi_b hij hj hb b1 b2) e
          rw [← ni_oi hij a a1 a2, ← ni_oi hij b b1 b2, this]
theorem RW_room {n : Nat} {t : Nat → Nat} (h : RW n t) {r : Nat} (hr : r < 12) (ho : ∀ k, k < n → t k / 2 ≠ r) : n + 2 ≤ 24 := by
  refine pig 24 (n + 2) (insT t r n (n + 1)) (fun k hk => ?_) (fun a b ha hb e => insT_inj h.2.2.1 ho (by omega) (by omega) a b ha hb e)
  by_cases c1 : k = n
  · subst c1; rw [insT_i]; omega
  · by_cases c2 : k = n + 1
    · subst c2; rw [insT_j (by omega)]; omega
    · rw [insT_o c1 c2]; exact h.2.1 _ (oi_b (by omega) (by omega) hk c1 c2)
theorem RW_ins {n : Nat} {t : Nat → Nat} (h : RW n t) {r i j : Nat} (hr : r < 12) (ho : ∀ k, k < n → t k / 2 ≠ r) (hij : i < j) (hj : j < n + 2) : RW (n + 2) (insT t r i j) := by
  obtain ⟨h1, h2, h3, h4, h5⟩ := id h
  refine ⟨RW_room h hr ho, fun k hk => ?_, insT_inj h3 ho hij hj, fun k hk he => ?_, fun k hk he => ?_⟩
  · by_cases c1 : k = i
    · subst c1; rw [insT_i]; omega
    · by_cases c2 : k = j
      · subst c2; rw [insT_j hij]; omega
      · rw [insT_o c1 c2]; exact h2 _ (oi_b hij hj hk c1 c2)
  · by_cases c1 : k = i
    · subst c1; exact ⟨j, hij, hj, by rw [insT_i, insT_j hij]⟩
    · by_cases c2 : k = j
      · subst c2; rw [insT_j hij] at he; omega
      · rw [insT_o c1 c2] at he ⊢
        obtain ⟨b, b1, b2, b3⟩ := h4 _ (oi_b hij hj hk c1 c2) he
        refine ⟨ni i j b, ?_, ni_b hij hj b2, by rw [insT_n hij, b3]⟩
        rw [← ni_oi hij k c1 c2]; exact ni_lt hij b1
  · by_cases c1 : k = i
    · subst c1; rw [insT_i] at he; omega
    · by_cases c2 : k = j
      · subst c2; exact ⟨i, hij, by rw [insT_i, insT_j hij]⟩
      · rw [insT_o c1 c2] at he ⊢
        obtain ⟨b, b1, b3⟩ := h5 _ (oi_b hij hj hk c1 c2) he
        refine ⟨ni i j b, ?_, by rw [insT_n hij, b3]⟩
        have := ni_lt hij b1
        rwa [ni_oi hij k c1 c2] at this
theorem RW_rm {n : Nat} {t : Nat → Nat} (h : RW (n + 2) t) {r i j : Nat} (hij : i < j) (hj : j < n + 2) (hi2 : t i = 2 * r) (hj2 : t j = 2 * r + 1) : RW n (rmT t i j) ∧ ∀ k, k < n → rmT t i j k / 2 ≠ r := by
  obtain ⟨h1, h2, h3, h4, h5⟩ := id h
  refine ⟨⟨by omega, fun k hk => h2 _ (ni_b hij hj hk), fun a b ha hb e => ?_, fun k hk he => ?_, fun k hk he => ?_⟩, fun k hk e => ?_⟩
  · have := h3 _ _ (ni_b hij hj ha) (ni_b hij hj hb) e
    rw [← (oi_ni hij a).1, this, (oi_ni hij b).1]
  · have he : t (ni i j k) % 2 = 0 := he
    show ∃ b, k < b ∧ b < n ∧ rmT t i j b = t (ni i j k) + 1
    obtain ⟨b, b1, b2, b3⟩ := h4 _ (ni_b hij hj hk) he
    have hk3 := oi_ni hij k
    have n1 : b ≠ i := fun q => by subst q; omega
    have n2 : b ≠ j := fun q => hk3.2.1 (h3 _ _ (ni_b hij hj hk) (by omega) (by subst q; omega))
    refine ⟨oi i j b, ?_, oi_b hij hj b2 n1 n2, by unfold rmT; rw [ni_oi hij b n1 n2, b3]⟩
    have := oi_lt hij b1 hk3.2.1 hk3.2.2 n1 n2
    rwa [hk3.1] at this
  · have he : t (ni i j k) % 2 = 1 := he
    show ∃ b, b < k ∧ rmT t i j b + 1 = t (ni i j k)
    obtain ⟨b, b1, b3⟩ := h5 _ (ni_b hij hj hk) he
    have hk3 := oi_ni hij k
    have hb := ni_b hij hj hk
    have n2 : b ≠ j := fun q => by subst q; omega
    have n1 : b ≠ i := fun q => hk3.2.2 (h3 _ _ hb hj (by subst q; omega))
    refine ⟨oi i j b, ?_, by unfold rmT; rw [ni_oi hij b n1 n2, b3]⟩
    have := oi_lt hij b1 n1 n2 hk3.2.1 hk3.2.2
    rwa [hk3.1] at this
  · have hk3 := oi_ni hij k
    have hb := ni_b hij hj hk
    have e2 : t (ni i j k) / 2 = r := e
    by_cases c : t (ni i j k) = 2 * r
    · exact hk3.2.1 (h3 _ _ hb (by omega) (by omega))
    · exact hk3.2.2 (h3 _ _ hb hj (by omega))
theorem tot_c (D : Sto) {u u' : Nat → Nat} : ∀ m, (∀ k, k ≤ m → u k = u' k) → tot D u m = tot D u' m
  | 0, _ => rfl
  | m + 1, h => by
    simp only [tot]
    rw [tot_c D m (fun k hk => h k (by omega)), h m (by omega), h (m + 1) (Nat.le_refl _)]
theorem tot_b {D : Sto} (hD : DOK D) {u : Nat → Nat} : ∀ m, (∀ k, k ≤ m → u k < 28) → 0 ≤ tot D u m ∧ tot D u m ≤ 198 * (m : Int)
  | 0, _ => by simp [tot]
  | m + 1, h => by
    have a := tot_b hD m (fun k hk => h k (by omega))
    have b := ds_le hD (h m (by omega)) (h (m + 1) (Nat.le_refl _))
    have c := ds_0 D (u m) (u (m + 1))
    simp only [tot]
    omega
theorem pd_b {v n : Nat} (hv : v < 4) {t : Nat → Nat} (h : ∀ k, k < n → t k < 24) (k : Nat) : pd v n t k < 28 := by
  unfold pd
  split
  · omega
  · split
    · have := h (k - 1) (by omega); omega
    · omega
theorem rl_b {D : Sto} (hD : DOK D) {v n : Nat} (hv : v < 4) {t : Nat → Nat} (h : RW n t) : 0 ≤ rl D v n t ∧ rl D v n t ≤ 5000 := by
  have a := tot_b hD (u := pd v n t) (n + 1) (fun k _ => pd_b hv h.2.1 k)
  have := h.1
  unfold rl
  omega
def adL (D : Sto) (v n : Nat) (t : Nat → Nat) (r i j : Nat) : Int :=
  if j = i + 1 then ds D (pd v n t i) (2 * r) + ds D (2 * r) (2 * r + 1) + ds D (2 * r + 1) (pd v n t (i + 1)) - ds D (pd v n t i) (pd v n t (i + 1))
  else ds D (pd v n t i) (2 * r) + ds D (2 * r) (pd v n t (i + 1)) - ds D (pd v n t i) (pd v n t (i + 1)) + ds D (pd v n t (j - 1)) (2 * r + 1) + ds D (2 * r + 1) (pd v n t j) - ds D (pd v n t (j - 1)) (pd v n t j)
theorem pd_ins {v n : Nat} {t : Nat → Nat} {r i j : Nat} (hij : i < j) (hj : j < n + 2) : (∀ k, k ≤ i → pd v (n + 2) (insT t r i j) k = pd v n t k) ∧ pd v (n + 2) (insT t r i j) (i + 1) = 2 * r ∧ (∀ k, i + 1 < k → k < j + 1 → pd v (n + 2) (insT t r i j) k = pd v n t (k - 1)) ∧ pd v (n + 2) (insT t r i j) (j + 1) = 2 * r + 1 ∧ ∀ k, j + 1 < k → k ≤ n + 3 → pd v (n + 2) (insT t r i j) k = pd v n t (k - 2) := by
  refine ⟨fun k hk => ?_, ?_, fun k h1 h2 => ?_, ?_, fun k h1 h2 => ?_⟩
  · unfold pd
    by_cases c : k = 0
    · rw [if_pos c, if_pos c]
    · rw [if_neg c, if_neg c, if_pos (by omega), if_pos (by omega), insT_o (by omega) (by omega)]
      unfold oi
      rw [if_pos (by omega)]
  · unfold pd
    rw [if_neg (by omega), if_pos (by omega), Nat.add_sub_cancel, insT_i]
  · unfold pd
    rw [if_neg (by omega), if_pos (by omega), insT_o (by omega) (by omega), if_neg (by omega), if_pos (by omega)]
    unfold oi
    rw [if_neg (by omega), if_pos (by omega)]
  · unfold pd
    rw [if_neg (by omega), if_pos (by omega), Nat.add_sub_cancel, insT_j hij]
  · unfold pd
    by_cases c : k = n + 3
    · rw [if_neg (by omega), if_neg (by omega), if_neg (by omega), if_neg (by omega)]
    · rw [if_neg (by omega), if_pos (by omega), insT_o (by omega) (by omega), if_neg (by omega), if_pos (by omega)]
      unfold oi
      rw [if_neg (by omega), if_neg (by omega)]
      congr 1
theorem rl_ins (D : Sto) {v n : Nat} {t : Nat → Nat} {r i j : Nat} (hij : i < j) (hj : j < n + 2) : rl D v (n + 2) (insT t r i j) = rl D v n t + adL D v n t r i j := by
  obtain ⟨p1, p2, p3, p4, p5⟩ := pd_ins (v := v) (n := n) (t := t) (r := r) hij hj
  unfold rl adL
  generalize pd v (n + 2) (insT t r i j) = u' at *
  generalize pd v n t = u at *
  have a : tot D u' i = tot D u i := tot_c D i p1
  by_cases c : j = i + 1
  · rw [if_pos c]
    subst c
    have base : tot D u' (i + 3) = tot D u (i + 1) + (ds D (u i) (2 * r) + ds D (2 * r) (2 * r + 1) + ds D (2 * r + 1) (u (i + 1)) - ds D (u i) (u (i + 1))) := by
      simp only [tot]
      rw [a, p1 i (Nat.le_refl _), p2, p4, p5 (i + 1 + 1 + 1) (by omega) (by omega), show i + 1 + 1 + 1 - 2 = i + 1 by omega]
      omega
    have step : ∀ d, i + 3 + d ≤ n + 3 → tot D u' (i + 3 + d) = tot D u (i + 1 + d) + (ds D (u i) (2 * r) + ds D (2 * r) (2 * r + 1) + ds D (2 * r + 1) (u (i + 1)) - ds D (u i) (u (i + 1))) := by
      intro d
      induction d with
      | zero => intro _; exact base
      | succ d ih =>
        intro hd
        have h1 := ih (by omega)
        show tot D u' (i + 3 + d) + ds D (u' (i + 3 + d)) (u' (i + 3 + d + 1)) = tot D u (i + 1 + d) + ds D (u (i + 1 + d)) (u (i + 1 + d + 1)) + _
        rw [h1, p5 (i + 3 + d) (by omega) (by omega), p5 (i + 3 + d + 1) (by omega) (by omega), show i + 3 + d - 2 = i + 1 + d by omega, show i + 3 + d + 1 - 2 = i + 1 + d + 1 by omega]
        omega
    have := step (n - i) (by omega)
    rw [show i + 3 + (n - i) = n + 2 + 1 by omega, show i + 1 + (n - i) = n + 1 by omega] at this
    exact this
  · rw [if_neg c]
    have base : tot D u' (i + 2) = tot D u (i + 1) + (ds D (u i) (2 * r) + ds D (2 * r) (u (i + 1)) - ds D (u i) (u (i + 1))) := by
      simp only [tot]
      rw [a, p1 i (Nat.le_refl _), p2, p3 (i + 1 + 1) (by omega) (by omega), Nat.add_sub_cancel]
      omega
    have step : ∀ d, i + 2 + d ≤ j → tot D u' (i + 2 + d) = tot D u (i + 1 + d) + (ds D (u i) (2 * r) + ds D (2 * r) (u (i + 1)) - ds D (u i) (u (i + 1))) := by
      intro d
      induction d with
      | zero => intro _; exact base
      | succ d ih =>
        intro hd
        have h1 := ih (by omega)
        show tot D u' (i + 2 + d) + ds D (u' (i + 2 + d)) (u' (i + 2 + d + 1)) = tot D u (i + 1 + d) + ds D (u (i + 1 + d)) (u (i + 1 + d + 1)) + _
        rw [h1, p3 (i + 2 + d) (by omega) (by omega), p3 (i + 2 + d + 1) (by omega) (by omega), show i + 2 + d - 1 = i + 1 + d by omega, show i + 2 + d + 1 - 1 = i + 1 + d + 1 by omega]
        omega
    have s1 := step (j - i - 2) (by omega)
    rw [show i + 2 + (j - i - 2) = j by omega, show i + 1 + (j - i - 2) = j - 1 by omega] at s1
    have ej : tot D u j = tot D u (j - 1) + ds D (u (j - 1)) (u j) := by
      obtain ⟨m, rfl⟩ : ∃ m, j = m + 1 := ⟨j - 1, by omega⟩
      rfl
    have base2 : tot D u' (j + 2) = tot D u j + (ds D (u i) (2 * r) + ds D (2 * r) (u (i + 1)) - ds D (u i) (u (i + 1)) + ds D (u (j - 1)) (2 * r + 1) + ds D (2 * r + 1) (u j) - ds D (u (j - 1)) (u j)) := by
      simp only [tot]
      rw [s1, ej, p3 j (by omega) (by omega), p4, p5 (j + 1 + 1) (by omega) (by omega), show j + 1 + 1 - 2 = j by omega]
      omega
    have step2 : ∀ d, j + 2 + d ≤ n + 3 → tot D u' (j + 2 + d) = tot D u (j + d) + (ds D (u i) (2 * r) + ds D (2 * r) (u (i + 1)) - ds D (u i) (u (i + 1)) + ds D (u (j - 1)) (2 * r + 1) + ds D (2 * r + 1) (u j) - ds D (u (j - 1)) (u j)) := by
      intro d
      induction d with
      | zero => intro _; exact base2
      | succ d ih =>
        intro hd
        have h1 := ih (by omega)
        show tot D u' (j + 2 + d) + ds D (u' (j + 2 + d)) (u' (j + 2 + d + 1)) = tot D u (j + d) + ds D (u (j + d)) (u (j + d + 1)) + _
        rw [h1, p5 (j + 2 + d) (by omega) (by omega), p5 (j + 2 + d + 1) (by omega) (by omega), show j + 2 + d - 2 = j + d by omega, show j + 2 + d + 1 - 2 = j + d + 1 by omega]
        omega
    have := step2 (n + 1 - j) (by omega)
    rw [show j + 2 + (n + 1 - j) = n + 2 + 1 by omega, show j + (n + 1 - j) = n + 1 by omega] at this
    exact this
theorem SC_far {D : Sto} (hD : DOK D) {v n : Nat} {t : Nat → Nat} {e : Nat → Int} (h : SC D v n t e) (a : Nat) : ∀ d, a + d + 1 < n → e a + D 0 0 + ds D (t a) (t (a + d + 1)) ≤ e (a + d + 1) := by
  have sv := hD.1
  intro d
  induction d with
  | zero => intro hd; exact h.2.1 a hd
  | succ d ih =>
    intro hd
    have h1 := ih (by omega)
    have h2 := h.2.1 (a + d + 1) hd
    have h3 := ds_t D (t a) (t (a + d + 1)) (t (a + d + 1 + 1))
    show e a + D 0 0 + ds D (t a) (t (a + d + 1 + 1)) ≤ e (a + d + 1 + 1)
    omega
theorem SC_first {D : Sto} (hD : DOK D) {v n : Nat} {t : Nat → Nat} {e : Nat → Int} (h : SC D v n t e) (k : Nat) (hk : k < n) : D 8 v + ds D (24 + v) (t k) ≤ e k := by
  have sv := hD.1
  have h1 := h.1 (by omega)
  by_cases c : k = 0
  · subst c; exact h1
  · have h2 := SC_far hD h 0 (k - 1) (by omega)
    rw [show 0 + (k - 1) + 1 = k by omega] at h2
    have h3 := ds_t D (24 + v) (t 0) (t k)
    omega
theorem SC_last {D : Sto} (hD : DOK D) {v n : Nat} {t : Nat → Nat} {e : Nat → Int} (h : SC D v n t e) (k : Nat) (hk : k < n) : e k + D 0 0 + ds D (t k) (24 + v) ≤ D 9 v := by
  have sv := hD.1
  have h1 := h.2.2.2.2 (by omega)
  by_cases c : k = n - 1
  · subst c; exact h1
  · have h2 := SC_far hD h k (n - 1 - k - 1) (by omega)
    rw [show k + (n - 1 - k - 1) + 1 = n - 1 by omega] at h2
    have h3 := ds_t D (t k) (t (n - 1)) (24 + v)
    omega
theorem SC_rm {D : Sto} (hD : DOK D) {v n : Nat} {t : Nat → Nat} {e : Nat → Int} {i j : Nat} (hij : i < j) (hj : j < n + 2) (h : SC D v (n + 2) t e) : SC D v n (rmT t i j) (fun k => e (ni i j k)) := by
  refine ⟨fun h0 => SC_first hD h _ (ni_b hij hj h0), fun k hk => ?_, fun k hk => h.2.2.1 _ (ni_b hij hj hk), fun a b ha hb c1 c2 => h.2.2.2.1 _ _ (ni_b hij hj ha) (ni_b hij hj hb) c1 c2, fun h0 => SC_last hD h _ (ni_b hij hj (by omega))⟩
  have a := ni_lt hij (show k < k + 1 by omega)
  have b := ni_b hij hj hk
  have c := SC_far hD h (ni i j k) (ni i j (k + 1) - ni i j k - 1) (by omega)
  rw [show ni i j k + (ni i j (k + 1) - ni i j k - 1) + 1 = ni i j (k + 1) by omega] at c
  exact c
theorem ldm_le {D : Sto} {t : Nat → Nat} {c : Int} : ∀ n, ldm D t n ≤ c ↔ 0 ≤ c ∧ ∀ k, k < n → ld D t (k + 1) ≤ c
  | 0 => by simp [ldm]
  | n + 1 => by
    have h := ldm_le (D := D) (t := t) (c := c) n
    constructor
    · intro h1
      simp only [ldm] at h1
      have h2 : ldm D t n ≤ c ∧ ld D t (n + 1) ≤ c := by split at h1 <;> omega
      have h3 := h.mp h2.1
      refine ⟨h3.1, fun k hk => ?_⟩
      by_cases e : k = n
      · subst e; exact h2.2
      · exact h3.2 k (by omega)
    · rintro ⟨h1, h2⟩
      have h3 := h.mpr ⟨h1, fun k hk => h2 k (by omega)⟩
      have h4 := h2 n (by omega)
      simp only [ldm]
      split <;> omega
theorem rmT_1 {t : Nat → Nat} {i j k : Nat} (h : k < i) : rmT t i j k = t k := by unfold rmT ni; rw [if_pos h]
theorem rmT_2 {t : Nat → Nat} {i j k : Nat} (h : ¬ k < i) (h2 : k + 1 < j) : rmT t i j k = t (k + 1) := by unfold rmT ni; rw [if_neg h, if_pos h2]
theorem rmT_3 {t : Nat → Nat} {i j k : Nat} (h : ¬ k < i) (h2 : ¬ k + 1 < j) : rmT t i j k = t (k + 2) := by unfold rmT ni; rw [if_neg h, if_neg h2]
def lc (D : Sto) (s : Nat) : Int := if s % 2 = 0 then D 5 (s / 2) else - D 5 (s / 2)
theorem ld_s (D : Sto) (t : Nat → Nat) (k : Nat) : ld D t (k + 1) = ld D t k + lc D (t k) := rfl
theorem ld_rm {D : Sto} {t : Nat → Nat} {r i j : Nat} (hij : i < j) (h1 : t i = 2 * r) (h2 : t j = 2 * r + 1) : ∀ k, ld D (rmT t i j) k = if k ≤ i then ld D t k else if k + 1 ≤ j then ld D t (k + 1) - D 5 r else ld D t (k + 2)
  | 0 => by simp [ld]
  | k + 1 => by
    have ih := ld_rm (D := D) hij h1 h2 k
    have ei : lc D (t i) = D 5 r := by unfold lc; rw [if_pos (by omega), h1]; congr 1; omega
    have ej : lc D (t j) = - D 5 r := by unfold lc; rw [if_neg (by omega), h2, show (2 * r + 1) / 2 = r by omega]
    rw [ld_s, ih]
    by_cases c1 : k + 1 ≤ i
    · rw [if_pos (by omega), if_pos c1, rmT_1 (by omega), ld_s]
    · by_cases c2 : k + 1 + 1 ≤ j
      · rw [if_neg c1, if_pos c2, rmT_2 (by omega) (by omega), ld_s D t (k + 1)]
        by_cases c3 : k = i
        · subst c3
          rw [if_pos (Nat.le_refl _), ld_s D t k]
          omega
        · rw [if_neg (by omega), if_pos (by omega)]
          omega
      · rw [if_neg c1, if_neg c2, rmT_3 (by omega) (by omega), ld_s D t (k + 2)]
        by_cases c4 : k + 1 = j
        · subst c4
          have e2 := ld_s D t (k + 1)
          have e3 : ld D t (k + 2) = ld D t (k + 1 + 1) := rfl
          by_cases c5 : k = i
          · subst c5
            rw [if_pos (Nat.le_refl _)]
            have e1 := ld_s D t k
            omega
          · rw [if_neg (by omega), if_pos (by omega)]
            omega
        · rw [if_neg (by omega), if_neg (by omega)]
theorem FE_rm {D : Sto} (hD : DOK D) {v n : Nat} {t : Nat → Nat} (h : RW (n + 2) t) {r i j : Nat} (hij : i < j) (hj : j < n + 2) (h1 : t i = 2 * r) (h2 : t j = 2 * r + 1) (hf : FE D v (n + 2) t) : FE D v n (rmT t i j) := by
  obtain ⟨hl, e, he⟩ := hf
  refine ⟨?_, _, SC_rm hD hij hj he⟩
  have a := (ldm_le (n + 2)).mp hl
  have b5 := hD.2.2.2.1 r (by have := h.2.1 i (by omega); omega)
  refine (ldm_le n).mpr ⟨a.1, fun k hk => ?_⟩
  rw [ld_rm hij h1 h2]
  split
  · exact a.2 k (by omega)
  · split
    · have := a.2 (k + 1) (by omega); omega
    · exact a.2 (k + 2) (by omega)
