abbrev PL : Type := (Nat → Nat) × (Nat → Nat → Nat) × (Nat → Int)
def WP (D : Sto) (p : PL) : Prop := (∀ v, v < 4 → RW (p.1 v) (p.2.1 v)) ∧ (∀ v, v < 4 → ∀ k, k < p.1 v → p.2.2 (p.2.1 v k / 2) = v) ∧ (∀ r, r < 12 → p.2.2 r = -1 ∨ ∃ v : Nat, v < 4 ∧ (v : Int) < D 10 0 ∧ p.2.2 r = v ∧ ∃ i j, i < j ∧ j < p.1 v ∧ p.2.1 v i = 2 * r ∧ p.2.1 v j = 2 * r + 1) ∧ (∀ r : Nat, r < 12 → D 10 1 ≤ r → p.2.2 r = -1)
def pput (p : PL) (r v i j : Nat) : PL := (fun w => if w = v then p.1 v + 2 else p.1 w, fun w => if w = v then insT (p.2.1 v) r i j else p.2.1 w, fun x => if x = r then v else p.2.2 x)
def ptk0 (p : PL) (r v i j : Nat) : PL := (fun w => if w = v then p.1 v - 2 else p.1 w, fun w => if w = v then rmT (p.2.1 v) i j else p.2.1 w, fun x => if x = r then -1 else p.2.2 x)
def px (t : Nat → Nat) (x : Nat) : Nat → Nat
  | 0 => 0
  | n + 1 => if t n = x then n else px t x n
theorem px_eq {t : Nat → Nat} {x i : Nat} : ∀ n, (∀ a b, a < n → b < n → t a = t b → a = b) → i < n → t i = x → px t x n = i
  | 0, _, h, _ => absurd h (Nat.not_lt_zero _)
  | n + 1, hi, h, e => by
    unfold px
    by_cases c : t n = x
    · rw [if_pos c]; exact hi n i (by omega) h (by omega)
    · rw [if_neg c]
      exact px_eq n (fun a b ha hb => hi a b (by omega) (by omega)) (by by_cases q : i = n; (subst q; exact absurd e c); omega) e
def ptk (p : PL) (r : Nat) : PL := if p.2.2 r = -1 then p else ptk0 p r (p.2.2 r).toNat (px (p.2.1 (p.2.2 r).toNat) (2 * r) (p.1 (p.2.2 r).toNat)) (px (p.2.1 (p.2.2 r).toNat) (2 * r + 1) (p.1 (p.2.2 r).toNat))
theorem WP_open {D : Sto} {p : PL} (h : WP D p) {r : Nat} (ho : p.2.2 r = -1) {v : Nat} (hv : v < 4) (k : Nat) (hk : k < p.1 v) : p.2.1 v k / 2 ≠ r := fun q => by
  have := h.2.1 v hv k hk
  rw [q, ho] at this
  omega
theorem WP_tk0 {D : Sto} {p : PL} (h : WP D p) {r : Nat} (hr : r < 12) (ha : p.2.2 r ≠ -1) : ∃ v i j : Nat, v < 4 ∧ (v : Int) < D 10 0 ∧ p.2.2 r = (v : Nat) ∧ i < j ∧ j < p.1 v ∧ p.2.1 v i = 2 * r ∧ p.2.1 v j = 2 * r + 1 ∧ ptk p r = ptk0 p r v i j ∧ 2 ≤ p.1 v := by
  rcases h.2.2.1 r hr with q | ⟨v, hv, hv2, e, i, j, hij, hj, h1, h2⟩
  · exact absurd q ha
  · refine ⟨v, i, j, hv, hv2, e, hij, hj, h1, h2, ?_, by omega⟩
    unfold ptk
    rw [if_neg ha, e, Int.toNat_natCast, px_eq _ (h.1 v hv).2.2.1 (by omega) h1, px_eq _ (h.1 v hv).2.2.1 hj h2]
theorem WP_put {D : Sto} {p : PL} (h : WP D p) {r v i j : Nat} (hr : r < 12) (hr2 : (r : Int) < D 10 1) (ho : p.2.2 r = -1) (hv : v < 4) (hv2 : (v : Int) < D 10 0) (hij : i < j) (hj : j < p.1 v + 2) : WP D (pput p r v i j) := by
  obtain ⟨a1, a2, a3, a4⟩ := id h
  refine ⟨fun w hw => ?_, fun w hw k hk => ?_, fun x hx => ?_, fun x hx hx2 => ?_⟩
  · show RW (if w = v then p.1 v + 2 else p.1 w) (if w = v then insT (p.2.1 v) r i j else p.2.1 w)
    by_cases c : w = v
    · rw [if_pos c, if_pos c]; exact RW_ins (a1 v hv) hr (WP_open h ho hv) hij hj
    · rw [if_neg c, if_neg c]; exact a1 w hw
  · have hk : k < (if w = v then p.1 v + 2 else p.1 w) := hk
    show (if (if w = v then insT (p.2.1 v) r i j else p.2.1 w) k / 2 = r then (v : Int) else p.2.2 ((if w = v then insT (p.2.1 v) r i j else p.2.1 w) k / 2)) = w
    by_cases c : w = v
    · subst c
      simp only [if_true] at hk ⊢
      by_cases c1 : k = i
      · subst c1; rw [insT_i, if_pos (by omega)]
      · by_cases c2 : k = j
        · subst c2; rw [insT_j hij, if_pos (by omega)]
        · rw [insT_o c1 c2]
          have hb := oi_b hij hj hk c1 c2
          rw [if_neg (WP_open h ho hv _ hb)]
          exact a2 w hw _ hb
    · rw [if_neg c] at hk
      simp only [if_neg c]
      rw [if_neg (WP_open h ho hw _ hk)]
      exact a2 w hw k hk
  · show (if x = r then (v : Int) else p.2.2 x) = -1 ∨ _
    by_cases c : x = r
    · subst c
      refine Or.inr ⟨v, hv, hv2, by show (if x = x then (v : Int) else _) = v; rw [if_pos rfl], i, j, hij, ?_, ?_, ?_⟩
      · show j < if v = v then p.1 v + 2 else p.1 v
        rw [if_pos rfl]; exact hj
      · show (if v = v then insT (p.2.1 v) x i j else p.2.1 v) i = 2 * x
        rw [if_pos rfl, insT_i]
      · show (if v = v then insT (p.2.1 v) x i j else p.2.1 v) j = 2 * x + 1
        rw [if_pos rfl, insT_j hij]
    · rw [if_neg c]
      rcases a3 x hx with q | ⟨w, hw, hw2, e, a, b, hab, hb, h1, h2⟩
      · exact Or.inl q
      · refine Or.inr ⟨w, hw, hw2, by show (if x = r then (v : Int) else p.2.2 x) = w; rw [if_neg c]; exact e, ?_⟩
        by_cases cw : w = v
        · subst cw
          refine ⟨ni i j a, ni i j b, ni_lt hij hab, ?_, ?_, ?_⟩
          · show ni i j b < if w = w then p.1 w + 2 else p.1 w
            rw [if_pos rfl]; exact ni_b hij hj hb
          · show (if w = w then insT (p.2.1 w) r i j else p.2.1 w) (ni i j a) = 2 * x
            rw [if_pos rfl, insT_n hij, h1]
          · show (if w = w then insT (p.2.1 w) r i j else p.2.1 w) (ni i j b) = 2 * x + 1
            rw [if_pos rfl, insT_n hij, h2]
        · refine ⟨a, b, hab, ?_, ?_, ?_⟩
          · show b < if w = v then p.1 v + 2 else p.1 w
            rw [if_neg cw]; exact hb
          · show (if w = v then insT (p.2.1 v) r i j else p.2.1 w) a = 2 * x
            rw [if_neg cw, h1]
          · show (if w = v then insT (p.2.1 v) r i j else p.2.1 w) b = 2 * x + 1
            rw [if_neg cw, h2]
  · show (if x = r then (v : Int) else p.2.2 x) = -1
    rw [if_neg (fun q => by subst q; omega)]
    exact a4 x hx hx2
theorem WP_rm {D : Sto} {p : PL} (h : WP D p) {r v i j : Nat} (hr : r < 12) (hv : v < 4) (hij : i < j) (hj : j < p.1 v) (h1 : p.2.1 v i = 2 * r) (h2 : p.2.1 v j = 2 * r + 1) : WP D (ptk0 p r v i j) := by
  obtain ⟨a1, a2, a3, a4⟩ := id h
  have en : p.1 v - 2 + 2 = p.1 v := by omega
  have hw0 : RW (p.1 v - 2 + 2) (p.2.1 v) := by rw [en]; exact a1 v hv
  have hj0 : j < p.1 v - 2 + 2 := by omega
  obtain ⟨w1, w2⟩ := RW_rm hw0 hij hj0 h1 h2
  refine ⟨fun w hw => ?_, fun w hw k hk => ?_, fun x hx => ?_, fun x hx hx2 => ?_⟩
  · show RW (if w = v then p.1 v - 2 else p.1 w) (if w = v then rmT (p.2.1 v) i j else p.2.1 w)
    by_cases c : w = v
    · rw [if_pos c, if_pos c]; exact w1
    · rw [if_neg c, if_neg c]; exact a1 w hw
  · have hk : k < (if w = v then p.1 v - 2 else p.1 w) := hk
    show (if (if w = v then rmT (p.2.1 v) i j else p.2.1 w) k / 2 = r then (-1 : Int) else p.2.2 ((if w = v then rmT (p.2.1 v) i j else p.2.1 w) k / 2)) = w
    by_cases c : w = v
    · subst c
      simp only [if_true] at hk ⊢
      rw [if_neg (w2 k hk)]
      exact a2 w hw _ (by have := ni_b hij hj0 hk; omega)
    · rw [if_neg c] at hk
      simp only [if_neg c]
      have e := a2 w hw k hk
      rw [if_neg (fun q => by
        have e2 := a2 v hv i (by omega)
        rw [h1, show 2 * r / 2 = r by omega] at e2
        rw [q, e2] at e
        exact c (by omega))]
      exact e
  · show (if x = r then (-1 : Int) else p.2.2 x) = -1 ∨ _
    by_cases c : x = r
    · rw [if_pos c]; exact Or.inl rfl
    · rw [if_neg c]
      rcases a3 x hx with q | ⟨w, hw, hw2, e, a, b, hab, hb, g1, g2⟩
      · exact Or.inl q
      · refine Or.inr ⟨w, hw, hw2, by show (if x = r then (-1 : Int) else p.2.2 x) = w; rw [if_neg c]; exact e, ?_⟩
        by_cases cw : w = v
        · subst cw
          have n1 : a ≠ i := fun q => by subst q; omega
          have n2 : a ≠ j := fun q => by subst q; omega
          have n3 : b ≠ i := fun q => by subst q; omega
          have n4 : b ≠ j := fun q => by subst q; omega
          refine ⟨oi i j a, oi i j b, oi_lt hij hab n1 n2 n3 n4, ?_, ?_, ?_⟩
          · show oi i j b < if w = w then p.1 w - 2 else p.1 w
            rw [if_pos rfl]; exact oi_b hij hj0 (by omega) n3 n4
          · show (if w = w then rmT (p.2.1 w) i j else p.2.1 w) (oi i j a) = 2 * x
            rw [if_pos rfl, rmT, ni_oi hij a n1 n2, g1]
          · show (if w = w then rmT (p.2.1 w) i j else p.2.1 w) (oi i j b) = 2 * x + 1
            rw [if_pos rfl, rmT, ni_oi hij b n3 n4, g2]
        · refine ⟨a, b, hab, ?_, ?_, ?_⟩
          · show b < if w = v then p.1 v - 2 else p.1 w
            rw [if_neg cw]; exact hb
          · show (if w = v then rmT (p.2.1 v) i j else p.2.1 w) a = 2 * x
            rw [if_neg cw, g1]
          · show (if w = v then rmT (p.2.1 v) i j else p.2.1 w) b = 2 * x + 1
            rw [if_neg cw, g2]
  · show (if x = r then (-1 : Int) else p.2.2 x) = -1
    split
    · rfl
    · exact a4 x hx hx2
theorem WP_tk {D : Sto} {p : PL} (h : WP D p) {r : Nat} (hr : r < 12) : WP D (ptk p r) ∧ (ptk p r).2.2 r = -1 ∧ ∀ x, x ≠ r → (ptk p r).2.2 x = p.2.2 x := by
  by_cases c : p.2.2 r = -1
  · unfold ptk; rw [if_pos c]; exact ⟨h, c, fun _ _ => rfl⟩
  · obtain ⟨v, i, j, hv, _, e, hij, hj, h1, h2, hp, _⟩ := WP_tk0 h hr c
    rw [hp]
    refine ⟨WP_rm h hr hv hij hj h1 h2, ?_, fun x hx => ?_⟩
    · show (if r = r then (-1 : Int) else _) = -1
      rw [if_pos rfl]
    · show (if x = r then (-1 : Int) else p.2.2 x) = p.2.2 x
      rw [if_neg hx]
def ptot (D : Sto) (p : PL) : Nat → Int
  | 0 => 0
  | m + 1 => ptot D p m + rl D m (p.1 m) (p.2.1 m)
def nvN (D : Sto) : Nat := (D 10 0).toNat
def nrN (D : Sto) : Nat := (D 10 1).toNat
def tl (D : Sto) (p : PL) : Int := ptot D p (nvN D)
theorem ptot_b {D : Sto} (hD : DOK D) {p : PL} (h : WP D p) : ∀ m, m ≤ 4 → 0 ≤ ptot D p m ∧ ptot D p m ≤ 5000 * (m : Int)
  | 0, _ => by simp [ptot]
  | m + 1, hm => by
    have a := ptot_b hD h m (by omega)
    have b := rl_b hD (v := m) (by omega) (h.1 m (by omega))
    simp only [ptot]
    omega
theorem nv_b {D : Sto} (hD : DOK D) : nvN D ≤ 4 ∧ (nvN D : Int) = D 10 0 ∧ nrN D ≤ 12 ∧ (nrN D : Int) = D 10 1 := by
  have := hD.2.2.2.2.2
  unfold nvN nrN
  omega
theorem tl_b {D : Sto} (hD : DOK D) {p : PL} (h : WP D p) : 0 ≤ tl D p ∧ tl D p ≤ 20000 := by
  have a := ptot_b hD h (nvN D) (nv_b hD).1
  have := (nv_b hD).1
  unfold tl
  omega
abbrev Acc : Type := Option (Int × Nat × Nat × Nat)
noncomputable def feB (D : Sto) (v n : Nat) (t : Nat → Nat) : Bool := @decide (FE D v n t) (Classical.propDecidable _)
theorem feB_t {D : Sto} {v n : Nat} {t : Nat → Nat} (h : FE D v n t) : feB D v n t = true := @decide_eq_true _ (Classical.propDecidable _) h
theorem feB_f {D : Sto} {v n : Nat} {t : Nat → Nat} (h : ¬ FE D v n t) : feB D v n t = false := @decide_eq_false _ (Classical.propDecidable _) h
theorem feB_i {D : Sto} {v n : Nat} {t : Nat → Nat} (h : feB D v n t = true) : FE D v n t := @of_decide_eq_true _ (Classical.propDecidable _) h
def bet (c : Int) (acc : Acc) : Bool := match acc with
  | none => true
  | some a => decide (c < a.1)
def cmb (a b : Acc) : Acc := match b with
  | none => a
  | some y => if bet y.1 a = true then some y else a
noncomputable def cnd (D : Sto) (v n : Nat) (t : Nat → Nat) (r i j : Nat) : Acc := if feB D v (n + 2) (insT t r i j) = true then some (adL D v n t r i j, v, i, j) else none
noncomputable def scJ (D : Sto) (v n : Nat) (t : Nat → Nat) (r i : Nat) (acc : Acc) : Nat → Acc
  | 0 => acc
  | m + 1 => cmb (scJ D v n t r i acc m) (cnd D v n t r i (i + 1 + m))
noncomputable def scI (D : Sto) (v n : Nat) (t : Nat → Nat) (r : Nat) (acc : Acc) : Nat → Acc
  | 0 => acc
  | m + 1 => scJ D v n t r m (scI D v n t r acc m) (n + 1 - m)
noncomputable def sc (D : Sto) (v n : Nat) (t : Nat → Nat) (r : Nat) (acc : Acc) : Acc := scI D v n t r acc (n + 1)
theorem cmb_a (a b c : Acc) : cmb (cmb a b) c = cmb a (cmb b c) := by
  cases c with
  | none => rfl
  | some z =>
    cases b with
    | none => cases a <;> simp [cmb, bet]
    | some y =>
      cases a with
      | none =>
        simp only [cmb, bet]
        by_cases h : z.1 < y.1 <;> simp [h]
      | some x =>
        simp only [cmb, bet]
        by_cases h1 : y.1 < x.1
        · by_cases h2 : z.1 < y.1
          · have h3 : z.1 < x.1 := by omega
            simp [h1, h2, h3]
          · simp [h1, h2]
        · by_cases h2 : z.1 < y.1
          · simp [h1, h2]
          · have h3 : ¬ z.1 < x.1 := by omega
            simp [h1, h2, h3]
theorem cmb_n (a : Acc) : cmb none a = a := by cases a <;> rfl
theorem scJ_c (D : Sto) (v n : Nat) (t : Nat → Nat) (r i : Nat) (acc : Acc) : ∀ m, scJ D v n t r i acc m = cmb acc (scJ D v n t r i none m)
  | 0 => by simp [scJ, cmb]
  | m + 1 => by rw [scJ, scJ_c D v n t r i acc m, cmb_a, scJ]
theorem scI_c (D : Sto) (v n : Nat) (t : Nat → Nat) (r : Nat) (acc : Acc) : ∀ m, scI D v n t r acc m = cmb acc (scI D v n t r none m)
  | 0 => by simp [scI, cmb]
  | m + 1 => by rw [scI, scI_c D v n t r acc m, scJ_c, cmb_a, ← scJ_c, scI]
theorem sc_c (D : Sto) (v n : Nat) (t : Nat → Nat) (r : Nat) (acc : Acc) : sc D v n t r acc = cmb acc (sc D v n t r none) := scI_c D v n t r acc (n + 1)
def AOK (D : Sto) (p : PL) (r : Nat) (acc : Acc) : Prop := ∀ (c : Int) (v i j : Nat), acc = some (c, v, i, j) → v < 4 ∧ (v : Int) < D 10 0 ∧ i < j ∧ j < p.1 v + 2 ∧ c = adL D v (p.1 v) (p.2.1 v) r i j ∧ FE D v (p.1 v + 2) (insT (p.2.1 v) r i j)
theorem AOK_cmb {D : Sto} {p : PL} {r : Nat} {a b : Acc} (ha : AOK D p r a) (hb : AOK D p r b) : AOK D p r (cmb a b) := by
  intro c v i j h
  cases b with
  | none => exact ha c v i j h
  | some y =>
    simp only [cmb] at h
    split at h
    · exact hb c v i j h
    · exact ha c v i j h
theorem AOK_sc {D : Sto} {p : PL} {r v : Nat} (hv : v < 4) (hv2 : (v : Int) < D 10 0) {acc : Acc} (h : AOK D p r acc) : AOK D p r (sc D v (p.1 v) (p.2.1 v) r acc) := by
  have hc : ∀ i m, i + 1 + m < p.1 v + 2 → AOK D p r (cnd D v (p.1 v) (p.2.1 v) r i (i + 1 + m)) := by
    intro i m hm c w a b e
    unfold cnd at e
    split at e
    · next q => cases e; exact ⟨hv, hv2, by omega, hm, rfl, feB_i q⟩
    · cases e
  have hJ : ∀ i m acc, i + m < p.1 v + 2 → AOK D p r acc → AOK D p r (scJ D v (p.1 v) (p.2.1 v) r i acc m) := by
    intro i m
    induction m with
    | zero => intro acc _ h; exact h
    | succ m ih => intro acc hm h; exact AOK_cmb (ih acc (by omega) h) (hc i m (by omega))
  have hI : ∀ m, m ≤ p.1 v + 1 → AOK D p r (scI D v (p.1 v) (p.2.1 v) r acc m) := by
    intro m
    induction m with
    | zero => intro _; exact h
    | succ m ih => intro hm; exact hJ m _ _ (by omega) (ih (by omega))
  exact hI _ (Nat.le_refl _)
noncomputable def alb (D : Sto) (p : PL) (r : Nat) (ex : Int) : Nat → Acc
  | 0 => none
  | m + 1 => if (m : Int) = ex then alb D p r ex m else sc D m (p.1 m) (p.2.1 m) r (alb D p r ex m)
theorem AOK_alb {D : Sto} {p : PL} {r : Nat} {ex : Int} : ∀ m : Nat, m ≤ 4 → (m : Int) ≤ D 10 0 → AOK D p r (alb D p r ex m)
  | 0, _, _ => fun _ _ _ _ h => by cases h
  | m + 1, h1, h2 => by
    have ih := AOK_alb (D := D) (p := p) (r := r) (ex := ex) m (by omega) (by omega)
    unfold alb
    split
    · exact ih
    · exact AOK_sc (by omega) (by omega) ih
def pins (p : PL) (r : Nat) (acc : Acc) : Option PL := match acc with
  | none => none
  | some a => some (pput p r a.2.1 a.2.2.1 a.2.2.2)
noncomputable def dispF (D : Sto) (p : PL) (inn out : Nat) : Option PL := if p.2.2 out = -1 then none else pins (ptk p out) inn (sc D (p.2.2 out).toNat ((ptk p out).1 (p.2.2 out).toNat) ((ptk p out).2.1 (p.2.2 out).toNat) inn none)
noncomputable def anyF (D : Sto) (p : PL) (r : Nat) (ex : Int) : Option PL := pins p r (alb D p r ex (nvN D))
noncomputable def shortF (D : Sto) (p : PL) (r a : Nat) : Option PL := (dispF D p r a).bind fun p1 => anyF D p1 a (p.2.2 a)
noncomputable def longF (D : Sto) (p : PL) (r a b : Nat) : Option PL := if p.2.2 b = -1 ∨ p.2.2 b = p.2.2 a then none else (dispF D p r a).bind fun p1 => (dispF D p1 a b).bind fun p2 => anyF D p2 b (p.2.2 b)
abbrev CA : Type := Option (Int × Nat × Nat × PL)
def kst (D : Sto) (acc : CA) (a b : Nat) (o : Option PL) : CA := match o with
  | none => acc
  | some q => match acc with
    | none => some (tl D q, a, b, q)
    | some x => if tl D q < x.1 then some (tl D q, a, b, q) else some x
noncomputable def shS (D : Sto) (p : PL) (r : Nat) : Nat → CA
  | 0 => none
  | m + 1 => kst D (shS D p r m) m 99 (shortF D p r m)
noncomputable def lgB (D : Sto) (p : PL) (r a : Nat) (acc : CA) : Nat → CA
  | 0 => acc
  | m + 1 => kst D (lgB D p r a acc m) a m (longF D p r a m)
noncomputable def lgA (D : Sto) (p : PL) (r : Nat) : Nat → CA
  | 0 => none
  | m + 1 => lgB D p r m (lgA D p r m) (nrN D)
noncomputable def fch (D : Sto) (p : PL) (r : Nat) : CA := match shS D p r (nrN D) with
  | some x => some x
  | none => lgA D p r (nrN D)
noncomputable def imS (D : Sto) (p : PL) : Nat → CA
  | 0 => some (tl D p, 99, 99, p)
  | m + 1 => if p.2.2 m = -1 then imS D p m else kst D (imS D p m) m m (anyF D (ptk p m) m (-1))
theorem WP_pins {D : Sto} {p p' : PL} (h : WP D p) {r : Nat} (hr : r < 12) (hr2 : (r : Int) < D 10 1) (ho : p.2.2 r = -1) {acc : Acc} (ha : AOK D p r acc) (e : pins p r acc = some p') : WP D p' ∧ ∃ v i j : Nat, v < 4 ∧ (v : Int) < D 10 0 ∧ i < j ∧ j < p.1 v + 2 ∧ p' = pput p r v i j ∧ FE D v (p.1 v + 2) (insT (p.2.1 v) r i j) := by
  cases acc with
  | none => cases e
  | some a =>
    obtain ⟨c, v, i, j⟩ := a
    obtain ⟨h1, h2, h3, h4, -, h6⟩ := ha c v i j rfl
    cases e
    exact ⟨WP_put h hr hr2 ho h1 h2 h3 h4, v, i, j, h1, h2, h3, h4, rfl, h6⟩
theorem WP_disp {D : Sto} {p p' : PL} (h : WP D p) {inn out : Nat} (hi : inn < 12) (hi2 : (inn : Int) < D 10 1) (ho : p.2.2 inn = -1) (hout : out < 12) (e : dispF D p inn out = some p') : WP D p' ∧ p'.2.2 out = -1 ∧ p.2.2 out ≠ -1 ∧ (∀ x, x ≠ inn → x ≠ out → p'.2.2 x = p.2.2 x) := by
  unfold dispF at e
  by_cases c : p.2.2 out = -1
  · rw [if_pos c] at e; cases e
  · rw [if_neg c] at e
    obtain ⟨v, i, j, hv, hv2, ev, -⟩ := WP_tk0 h hout c
    obtain ⟨w1, w2, w3⟩ := WP_tk h hout
    have hio : inn ≠ out := fun q => c (by rw [← q]; exact ho)
    have eo : (ptk p out).2.2 inn = -1 := by rw [w3 inn hio]; exact ho
    rw [ev, Int.toNat_natCast] at e
    obtain ⟨x1, v', i', j', -, -, -, -, rfl, -⟩ := WP_pins w1 hi hi2 eo (AOK_sc hv hv2 (fun _ _ _ _ h => by cases h)) e
    refine ⟨x1, ?_, c, fun x h1 h2 => ?_⟩
    · show (if out = inn then (v' : Int) else (ptk p out).2.2 out) = -1
      rw [if_neg (Ne.symm hio)]; exact w2
    · show (if x = inn then (v' : Int) else (ptk p out).2.2 x) = p.2.2 x
      rw [if_neg h1]; exact w3 x h2
