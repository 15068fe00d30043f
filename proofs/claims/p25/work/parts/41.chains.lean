theorem pins_v {p p' : PL} {r : Nat} {acc : Acc} (e : pins p r acc = some p') : ∃ x, acc = some x ∧ p' = pput p r x.2.1 x.2.2.1 x.2.2.2 := by
  cases acc with
  | none => cases e
  | some a => cases e; exact ⟨a, rfl, rfl⟩
theorem disp_v {D : Sto} {p p' : PL} (h : WP D p) {inn out : Nat} (hi : inn < 12) (hi2 : (inn : Int) < D 10 1) (ho : p.2.2 inn = -1) (hout : out < 12) (e : dispF D p inn out = some p') : WP D p' ∧ p'.2.2 out = -1 ∧ p.2.2 out ≠ -1 ∧ (∀ x, x ≠ inn → x ≠ out → p'.2.2 x = p.2.2 x) ∧ p'.2.2 inn = p.2.2 out := by
  obtain ⟨a, b, c, d⟩ := WP_disp h hi hi2 ho hout e
  refine ⟨a, b, c, d, ?_⟩
  unfold dispF at e
  rw [if_neg c] at e
  obtain ⟨v, i, j, hv, hv2, ev, -⟩ := WP_tk0 h hout c
  rw [ev, Int.toNat_natCast] at e
  obtain ⟨x, e1, e2⟩ := pins_v e
  have e3 := vhA_sc _ e1
  rw [e2, ev, e3]
  show (if inn = inn then (v : Int) else _) = v
  rw [if_pos rfl]
theorem any_v {D : Sto} {p p' : PL} {r : Nat} {ex : Int} (e : anyF D p r ex = some p') : (∃ w : Nat, p'.2.2 r = w ∧ (w : Int) ≠ ex) ∧ ∀ x, x ≠ r → p'.2.2 x = p.2.2 x := by
  unfold anyF at e
  obtain ⟨x, e1, e2⟩ := pins_v e
  have e3 := alb_ne e1
  rw [e2]
  refine ⟨⟨x.2.1, ?_, e3⟩, fun y hy => ?_⟩
  · show (if r = r then (x.2.1 : Int) else _) = _
    rw [if_pos rfl]
  · show (if y = r then (x.2.1 : Int) else p.2.2 y) = _
    rw [if_neg hy]
def chP (p : PL) (r a b : Nat) (q : PL) : Prop := q.2.2 r = p.2.2 a ∧ p.2.2 a ≠ -1 ∧ ((b = 99 ∧ q.2.2 a ≠ p.2.2 a ∧ 0 ≤ q.2.2 a ∧ ∀ k, k ≠ r → k ≠ a → q.2.2 k = p.2.2 k) ∨ (b < 12 ∧ p.2.2 b ≠ -1 ∧ q.2.2 a = p.2.2 b ∧ p.2.2 a ≠ p.2.2 b ∧ q.2.2 b ≠ p.2.2 b ∧ 0 ≤ q.2.2 b ∧ ∀ k, k ≠ r → k ≠ a → k ≠ b → q.2.2 k = p.2.2 k))
theorem short_P {D : Sto} {p q : PL} (h : WP D p) {r a : Nat} (hr : r < 12) (hr2 : (r : Int) < D 10 1) (ho : p.2.2 r = -1) (ha : a < 12) (e : shortF D p r a = some q) : chP p r a 99 q := by
  unfold shortF at e
  obtain ⟨p1, e1, e2⟩ := Option.bind_eq_some_iff.mp e
  obtain ⟨w1, o1, c1, k1, i1⟩ := disp_v h hr hr2 ho ha e1
  obtain ⟨⟨w, f1, f2⟩, k2⟩ := any_v e2
  have hra : r ≠ a := fun z => c1 (by rw [← z]; exact ho)
  refine ⟨by rw [k2 r hra, i1], c1, Or.inl ⟨rfl, by rw [f1]; exact f2, by rw [f1]; exact Int.natCast_nonneg _, fun k h1 h2 => by rw [k2 k h2, k1 k h1 h2]⟩⟩
theorem long_P {D : Sto} {p q : PL} (h : WP D p) {r a b : Nat} (hr : r < 12) (hr2 : (r : Int) < D 10 1) (ho : p.2.2 r = -1) (ha : a < 12) (hb : b < 12) (e : longF D p r a b = some q) : chP p r a b q := by
  unfold longF at e
  split at e
  · cases e
  · next c =>
    have cb : p.2.2 b ≠ -1 := fun z => c (Or.inl z)
    have cab : p.2.2 b ≠ p.2.2 a := fun z => c (Or.inr z)
    obtain ⟨p1, e1, e3⟩ := Option.bind_eq_some_iff.mp e
    obtain ⟨p2, e2, e4⟩ := Option.bind_eq_some_iff.mp e3
    obtain ⟨w1, o1, c1, k1, i1⟩ := disp_v h hr hr2 ho ha e1
    have hab : a ≠ b := fun z => cab (by rw [z])
    have hrb : r ≠ b := fun z => cb (by rw [← z]; exact ho)
    have hra : r ≠ a := fun z => c1 (by rw [← z]; exact ho)
    obtain ⟨w2, o2, c2, k2, i2⟩ := disp_v w1 ha (lt_nr h ha c1) o1 hb e2
    obtain ⟨⟨w, f1, f2⟩, k3⟩ := any_v e4
    refine ⟨by rw [k3 r hrb, k2 r hra hrb, i1], c1, Or.inr ⟨hb, cb, by rw [k3 a hab, i2, k1 b (Ne.symm hrb) (Ne.symm hab)], Ne.symm cab, by rw [f1]; exact f2, by rw [f1]; exact Int.natCast_nonneg _, fun k h1 h2 h3 => by rw [k3 k h3, k2 k h2 h3, k1 k h1 h2]⟩⟩
def chA (p : PL) (r : Nat) (acc : CA) : Prop := ∀ x, acc = some x → x.2.1 < 12 ∧ chP p r x.2.1 x.2.2.1 x.2.2.2
theorem chA_kst {D : Sto} {p : PL} {r : Nat} {acc : CA} (h : chA p r acc) {a b : Nat} {o : Option PL} (ha : a < 12) (ho : ∀ q, o = some q → chP p r a b q) : chA p r (kst D acc a b o) := by
  intro x e
  cases o with
  | none => exact h x e
  | some q =>
    cases acc with
    | none => cases e; exact ⟨ha, ho q rfl⟩
    | some y =>
      simp only [kst] at e
      split at e
      · cases e; exact ⟨ha, ho q rfl⟩
      · cases e; exact h _ rfl
theorem chA_fch {D : Sto} (hD : DOK D) {p : PL} (h : WP D p) {r : Nat} (hr : r < 12) (hr2 : (r : Int) < D 10 1) (ho : p.2.2 r = -1) : chA p r (fch D p r) := by
  have nb := nv_b hD
  have s : ∀ m, m ≤ 12 → chA p r (shS D p r m) := by
    intro m
    induction m with
    | zero => intro _ x e; cases e
    | succ m ih => intro hm; exact chA_kst (ih (by omega)) (by omega) (fun q e => short_P h hr hr2 ho (by omega) e)
  have lB : ∀ a acc m, a < 12 → m ≤ 12 → chA p r acc → chA p r (lgB D p r a acc m) := by
    intro a acc m ha
    induction m with
    | zero => intro _ hc; exact hc
    | succ m ih => intro hm hc; exact chA_kst (ih (by omega) hc) ha (fun q e => long_P h hr hr2 ho ha (by omega) e)
  have lA : ∀ m, m ≤ 12 → chA p r (lgA D p r m) := by
    intro m
    induction m with
    | zero => intro _ x e; cases e
    | succ m ih => intro hm; exact lB m _ _ (by omega) nb.2.2.1 (ih (by omega))
  unfold fch
  have hs := s (nrN D) nb.2.2.1
  split
  · next x e => rw [e] at hs; exact hs
  · exact lA _ nb.2.2.1
theorem opn_1 {p q : PL} {r : Nat} (h : ∀ k, k ≠ r → (q.2.2 k = -1 ↔ p.2.2 k = -1)) (h1 : p.2.2 r = -1) (h2 : q.2.2 r ≠ -1) : ∀ m, opn q m = opn p m - (if r < m then 1 else 0)
  | 0 => by simp [opn]
  | m + 1 => by
    have ih := opn_1 h h1 h2 m
    simp only [opn]
    by_cases c : m = r
    · subst c
      rw [if_neg h2, if_pos h1, ih, if_neg (Nat.lt_irrefl m), if_pos (Nat.lt_succ_self m)]
      omega
    · by_cases z : p.2.2 m = -1
      · rw [if_pos z, if_pos ((h m c).mpr z), ih]
        by_cases y : r < m
        · rw [if_pos y, if_pos (by omega)]; omega
        · rw [if_neg y, if_neg (by omega)]; omega
      · rw [if_neg z, if_neg (fun w => z ((h m c).mp w)), ih]
        by_cases y : r < m
        · rw [if_pos y, if_pos (by omega)]
        · rw [if_neg y, if_neg (by omega)]
def sm (f : Nat → Int) : Nat → Int
  | 0 => 0
  | m + 1 => sm f m + f m
theorem sm_c {f g : Nat → Int} : ∀ m, (∀ k, k < m → f k = g k) → sm f m = sm g m
  | 0, _ => rfl
  | m + 1, h => by simp only [sm]; rw [sm_c m (fun k hk => h k (by omega)), h m (by omega)]
theorem sm_a (f g : Nat → Int) : ∀ m, sm (fun k => f k + g k) m = sm f m + sm g m
  | 0 => rfl
  | m + 1 => by simp only [sm]; rw [sm_a f g m]; omega
theorem sm_z : ∀ m, sm (fun _ => 0) m = 0
  | 0 => rfl
  | m + 1 => by simp only [sm]; rw [sm_z m]; rfl
theorem sm_p (f : Nat → Int) : ∀ m, sm f (2 * m) = sm (fun r => f (2 * r) + f (2 * r + 1)) m
  | 0 => rfl
  | m + 1 => by
    rw [show 2 * (m + 1) = 2 * m + 1 + 1 by omega]
    simp only [sm]
    rw [sm_p f m]
    omega
theorem sm_o (a : Nat) (c : Int) : ∀ m, sm (fun k => if a = k then c else 0) m = if a < m then c else 0
  | 0 => by simp [sm]
  | m + 1 => by
    simp only [sm]
    rw [sm_o a c m]
    by_cases h : a = m
    · subst h; rw [if_neg (Nat.lt_irrefl a), if_pos rfl, if_pos (Nat.lt_succ_self a)]; omega
    · rw [if_neg h]
      by_cases q : a < m
      · rw [if_pos q, if_pos (by omega)]; omega
      · rw [if_neg q, if_neg (by omega)]; omega
theorem sm_s (f : Nat → Nat → Int) (m : Nat) : ∀ n, sm (fun v => sm (fun r => f v r) m) n = sm (fun r => sm (fun v => f v r) n) m
  | 0 => by simp only [sm]; rw [sm_z]
  | n + 1 => by
    simp only [sm]
    rw [sm_s f m n, ← sm_a]
theorem cntT_n {t : Nat → Nat} : ∀ n, (∀ k, k < n → t k < 24) → sm (fun x => sm (fun k => if t k = x then 1 else 0) n) 24 = n
  | 0, _ => by simp only [sm]; rfl
  | n + 1, h => by
    have ih := cntT_n (t := t) n (fun k hk => h k (by omega))
    have e : sm (fun x => sm (fun k => if t k = x then 1 else 0) (n + 1)) 24 = sm (fun x => sm (fun k => if t k = x then 1 else 0) n) 24 + sm (fun x => if t n = x then 1 else 0) 24 := by
      rw [← sm_a]
      exact sm_c 24 (fun _ _ => rfl)
    rw [e, ih, sm_o, if_pos (h n (by omega))]
    omega
theorem cnt_1 {t : Nat → Nat} {x : Nat} (c : Int) : ∀ n, (∀ a b, a < n → b < n → t a = t b → a = b) → sm (fun k => if t k = x then c else 0) n = 0 ∧ (∀ k, k < n → t k ≠ x) ∨ sm (fun k => if t k = x then c else 0) n = c ∧ ∃ k, k < n ∧ t k = x
  | 0, _ => Or.inl ⟨rfl, fun k hk => absurd hk (Nat.not_lt_zero _)⟩
  | n + 1, hi => by
    simp only [sm]
    rcases cnt_1 (t := t) (x := x) c n (fun a b ha hb => hi a b (by omega) (by omega)) with ⟨e, h⟩ | ⟨e, k, hk, h⟩
    · by_cases q : t n = x
      · rw [if_pos q, e]; exact Or.inr ⟨by omega, n, by omega, q⟩
      · rw [if_neg q, e]
        refine Or.inl ⟨rfl, fun k hk => ?_⟩
        by_cases z : k = n
        · subst z; exact q
        · exact h k (by omega)
    · have q : t n ≠ x := fun q => by
        have := hi k n (by omega) (by omega) (h.trans q.symm)
        omega
      rw [if_neg q, e]
      exact Or.inr ⟨by omega, k, by omega, h⟩
theorem ld_sm (D : Sto) (t : Nat → Nat) : ∀ n, ld D t n = sm (fun k => lc D (t k)) n
  | 0 => rfl
  | n + 1 => by rw [ld_s, ld_sm D t n]; rfl
theorem ld_n {D : Sto} {n : Nat} {t : Nat → Nat} (hw : RW n t) : ld D t n = 0 := by
  obtain ⟨h1, h2, h3, h4, h5⟩ := hw
  have e1 : ld D t n = sm (fun k => sm (fun x => if t k = x then lc D x else 0) 24) n := by
    rw [ld_sm]
    refine sm_c n (fun k hk => ?_)
    have e := sm_o (t k) (lc D (t k)) 24
    rw [if_pos (h2 k hk)] at e
    rw [← e]
    refine sm_c 24 (fun x _ => ?_)
    by_cases q : t k = x
    · rw [if_pos q, if_pos q, q]
    · rw [if_neg q, if_neg q]
  rw [e1, sm_s, show 24 = 2 * 12 by omega, sm_p]
  refine (sm_c 12 (fun r _ => ?_)).trans (sm_z 12)
  have l1 : lc D (2 * r) = D 5 r := by unfold lc; rw [if_pos (by omega), show 2 * r / 2 = r by omega]
  have l2 : lc D (2 * r + 1) = - D 5 r := by unfold lc; rw [if_neg (by omega), show (2 * r + 1) / 2 = r by omega]
  rcases cnt_1 (x := 2 * r) (lc D (2 * r)) n h3 with ⟨a1, z1⟩ | ⟨a1, k1, hk1, z1⟩
  · rcases cnt_1 (x := 2 * r + 1) (lc D (2 * r + 1)) n h3 with ⟨a2, z2⟩ | ⟨a2, k2, hk2, z2⟩
    · rw [a1, a2]; rfl
    · obtain ⟨i, hi, g⟩ := h5 k2 hk2 (by omega)
      exact absurd (show t i = 2 * r by omega) (z1 i (by omega))
  · rcases cnt_1 (x := 2 * r + 1) (lc D (2 * r + 1)) n h3 with ⟨a2, z2⟩ | ⟨a2, k2, hk2, z2⟩
    · obtain ⟨j, hj, hj2, g⟩ := h4 k1 hk1 (by omega)
      exact absurd (show t j = 2 * r + 1 by omega) (z2 j hj2)
    · rw [a1, a2, l1, l2]; omega
theorem n_sm {D : Sto} {p : PL} (h : WP D p) {v : Nat} (hv : v < 4) : (p.1 v : Int) = sm (fun r => if p.2.2 r = v then 2 else 0) 12 := by
  have hw := h.1 v hv
  rw [← cntT_n (t := p.2.1 v) (p.1 v) hw.2.1, show 24 = 2 * 12 by omega, sm_p]
  refine sm_c 12 (fun r hr => ?_)
  have ex : p.2.2 r = v → ∃ i j, i < p.1 v ∧ j < p.1 v ∧ p.2.1 v i = 2 * r ∧ p.2.1 v j = 2 * r + 1 := fun q => by
    rcases h.2.2.1 r hr with z | ⟨w, a1, a2, a3, i, j, hij, hj, g1, g2⟩
    · omega
    · obtain rfl : w = v := by omega
      exact ⟨i, j, by omega, hj, g1, g2⟩
  have no : p.2.2 r ≠ v → ∀ k, k < p.1 v → p.2.1 v k / 2 ≠ r := fun q k hk e => q (by rw [← e]; exact h.2.1 v hv k hk)
  by_cases c : p.2.2 r = v
  · rw [if_pos c]
    obtain ⟨i, j, hi, hj, g1, g2⟩ := ex c
    rcases cnt_1 (x := 2 * r) 1 (p.1 v) hw.2.2.1 with ⟨_, z⟩ | ⟨e1, _⟩
    · exact absurd g1 (z i hi)
    · rcases cnt_1 (x := 2 * r + 1) 1 (p.1 v) hw.2.2.1 with ⟨_, z⟩ | ⟨e2, _⟩
      · exact absurd g2 (z j hj)
      · rw [e1, e2]; rfl
  · rw [if_neg c]
    rcases cnt_1 (x := 2 * r) 1 (p.1 v) hw.2.2.1 with ⟨e1, _⟩ | ⟨_, k, hk, z⟩
    · rcases cnt_1 (x := 2 * r + 1) 1 (p.1 v) hw.2.2.1 with ⟨e2, _⟩ | ⟨_, k, hk, z⟩
      · rw [e1, e2]; rfl
      · exact absurd (show p.2.1 v k / 2 = r by omega) (no c k hk)
    · exact absurd (show p.2.1 v k / 2 = r by omega) (no c k hk)
theorem opn_sm (p : PL) : ∀ m, opn p m = sm (fun r => if p.2.2 r = -1 then 1 else 0) m
  | 0 => rfl
  | m + 1 => by
    simp only [opn, sm]
    rw [opn_sm p m]
    split <;> omega
theorem opn_12 {D : Sto} (hD : DOK D) {p : PL} (h : WP D p) : opn p 12 = opn p (nrN D) + (12 - (nrN D : Int)) := by
  have nb := nv_b hD
  have key : ∀ d, nrN D + d ≤ 12 → opn p (nrN D + d) = opn p (nrN D) + d := by
    intro d
    induction d with
    | zero => intro _; simp
    | succ d ih =>
      intro hd
      have := ih (by omega)
      show (if p.2.2 (nrN D + d) = -1 then opn p (nrN D + d) + 1 else opn p (nrN D + d)) = _
      rw [if_pos (h.2.2.2 _ (by omega) (by omega))]
      omega
  have := key (12 - nrN D) (by omega)
  rw [show nrN D + (12 - nrN D) = 12 by omega] at this
  omega
def smN (p : PL) (m : Nat) : Int := sm (fun v => (p.1 v : Int)) m
theorem smN_e {D : Sto} (hD : DOK D) {p : PL} (h : WP D p) : smN p (nvN D) = 2 * ((nrN D : Int) - opn p (nrN D)) := by
  have nb := nv_b hD
  have e1 : smN p (nvN D) = sm (fun v => sm (fun r => if p.2.2 r = (v : Int) then 2 else 0) 12) (nvN D) := sm_c _ (fun v hv => n_sm h (by omega))
  rw [e1, sm_s]
  have e2 : sm (fun r => sm (fun v => if p.2.2 r = ((v : Nat) : Int) then 2 else 0) (nvN D)) 12 + (sm (fun r => if p.2.2 r = -1 then 1 else 0) 12 + sm (fun r => if p.2.2 r = -1 then 1 else 0) 12) = sm (fun _ => 2) 12 := by
    rw [← sm_a, ← sm_a]
    refine sm_c 12 (fun r hr => ?_)
    rcases h.2.2.1 r hr with z | ⟨w, a1, a2, a3, -⟩
    · rw [if_pos z]
      have e3 : sm (fun v => if p.2.2 r = ((v : Nat) : Int) then 2 else 0) (nvN D) = 0 := by
        exact (sm_c _ (fun v _ => if_neg (by omega))).trans (sm_z _)
      rw [e3]; rfl
    · rw [if_neg (by omega)]
      have e3 : sm (fun v => if p.2.2 r = ((v : Nat) : Int) then 2 else 0) (nvN D) = 2 := by
        have e4 := sm_o w 2 (nvN D)
        rw [if_pos (by omega)] at e4
        refine (sm_c _ (fun v _ => ?_)).trans e4
        by_cases q : w = v
        · rw [if_pos q, if_pos (by omega)]
        · rw [if_neg q, if_neg (by omega)]
      rw [e3]; rfl
  rw [← opn_sm, opn_12 hD h] at e2
  have e5 : sm (fun _ => (2 : Int)) 12 = 24 := by decide
  omega
theorem opn_b (p : PL) : ∀ m : Nat, 0 ≤ opn p m ∧ opn p m ≤ m
  | 0 => by simp [opn]
  | m + 1 => by
    have := opn_b p m
    simp only [opn]
    split <;> omega
theorem rl_198 {D : Sto} (hD : DOK D) {v n : Nat} (hv : v < 4) {t : Nat → Nat} (h : RW n t) : rl D v n t ≤ 198 * ((n : Int) + 1) := by
  have a := tot_b hD (u := pd v n t) (n + 1) (fun k _ => pd_b hv h.2.1 k)
  unfold rl
  omega
theorem tl_5k {D : Sto} (hD : DOK D) {p : PL} (h : WP D p) : 0 ≤ tl D p ∧ tl D p ≤ 6000 := by
  have nb := nv_b hD
  have key : ∀ m, m ≤ 4 → ptot D p m ≤ 198 * (smN p m + (m : Int)) := by
    intro m
    induction m with
    | zero => intro _; simp [ptot, smN, sm]
    | succ m ih =>
      intro hm
      have a := ih (by omega)
      have b := rl_198 hD (v := m) (by omega) (h.1 m (by omega))
      have e : smN p (m + 1) = smN p m + (p.1 m : Int) := rfl
      simp only [ptot]
      rw [e]
      omega
  have k := key (nvN D) nb.1
  rw [smN_e hD h] at k
  have o := opn_b p (nrN D)
  refine ⟨(tl_b hD h).1, ?_⟩
  unfold tl
  omega
