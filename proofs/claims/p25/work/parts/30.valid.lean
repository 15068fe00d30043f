theorem ld_c {D D' : Sto} {t : Nat → Nat} : ∀ k, (∀ i, i < k → D' 5 (t i / 2) = D 5 (t i / 2)) → ld D' t k = ld D t k
  | 0, _ => rfl
  | k + 1, h => by
    have h1 := ld_c (D := D) (D' := D') (t := t) k (fun i hi => h i (by omega))
    simp only [ld]
    rw [h1, h k (by omega)]
theorem FE_c {D D' : Sto} {v n : Nat} {t : Nat → Nat} (hf : FE D v n t) (h0 : D' 0 0 = D 0 0) (h7 : D' 7 v = D 7 v ∧ D' 8 v = D 8 v ∧ D' 9 v = D 9 v) (hv : 0 < n → D' 1 (24 + v) = D 1 (24 + v) ∧ D' 2 (24 + v) = D 2 (24 + v)) (hk : ∀ k, k < n → D' 1 (t k) = D 1 (t k) ∧ D' 2 (t k) = D 2 (t k) ∧ D' 3 (t k) = D 3 (t k) ∧ D' 4 (t k) = D 4 (t k) ∧ D' 5 (t k / 2) = D 5 (t k / 2) ∧ D' 6 (t k / 2) = D 6 (t k / 2)) : FE D' v n t := by
  have hds : ∀ a b, D' 1 a = D 1 a ∧ D' 2 a = D 2 a → D' 1 b = D 1 b ∧ D' 2 b = D 2 b → ds D' a b = ds D a b := fun a b ha hb => by unfold ds; rw [ha.1, ha.2, hb.1, hb.2]
  have hx : ∀ k, k < n → D' 1 (t k) = D 1 (t k) ∧ D' 2 (t k) = D 2 (t k) := fun k h => ⟨(hk k h).1, (hk k h).2.1⟩
  obtain ⟨hl, e, h1, h2, h3, h4, h5⟩ := hf
  refine ⟨?_, e, fun h => ?_, fun k h => ?_, fun k h => ?_, fun i j hi hj c1 c2 => ?_, fun h => ?_⟩
  · rw [h7.1]
    have a := (ldm_le n).mp hl
    refine (ldm_le n).mpr ⟨a.1, fun k h => ?_⟩
    rw [ld_c (D := D) (k + 1) (fun i hi => (hk i (by omega)).2.2.2.2.1)]
    exact a.2 k h
  · rw [h7.2.1, hds _ _ (hv h) (hx 0 h)]; exact h1 h
  · rw [h0, hds _ _ (hx k (by omega)) (hx (k + 1) h)]; exact h2 k h
  · rw [(hk k h).2.2.1, (hk k h).2.2.2.1]; exact h3 k h
  · rw [h0, (hk i hi).2.2.2.2.2]; exact h4 i j hi hj c1 c2
  · rw [h0, h7.2.2, hds _ _ (hx (n - 1) (by omega)) (hv h)]; exact h5 h
theorem WP_D {D D' : Sto} {p : PL} (h : WP D p) (h0 : D 10 0 ≤ D' 10 0) (h1 : D' 10 1 = D 10 1 ∨ ∀ r : Nat, r < 12 → D' 10 1 ≤ r → D 10 1 ≤ r) : WP D' p := by
  refine ⟨h.1, h.2.1, fun r hr => ?_, fun r hr hr2 => h.2.2.2 r hr ?_⟩
  · rcases h.2.2.1 r hr with q | ⟨v, a, b, c⟩
    · exact Or.inl q
    · exact Or.inr ⟨v, a, by omega, c⟩
  · rcases h1 with q | q
    · omega
    · exact q r hr hr2
theorem WP_lt {D : Sto} {p : PL} (h : WP D p) {v : Nat} (hv : v < 4) {k : Nat} (hk : k < p.1 v) : ((p.2.1 v k / 2 : Nat) : Int) < D 10 1 ∧ p.2.1 v k < 24 ∧ (v : Int) < D 10 0 := by
  have a := (h.1 v hv).2.1 k hk
  have b := h.2.1 v hv k hk
  refine ⟨lt_nr h (by omega) (by rw [b]; omega), a, ?_⟩
  rcases h.2.2.1 (p.2.1 v k / 2) (by omega) with q | ⟨w, c1, c2, c3, -⟩
  · omega
  · omega
theorem FE_0 {D : Sto} (hD : DOK D) {v : Nat} (hv : v < 4) (t : Nat → Nat) : FE D v 0 t :=
  ⟨(ldm_le 0).mpr ⟨(hD.2.2.2.2.1 v hv).1, fun k hk => absurd hk (Nat.not_lt_zero _)⟩, fun _ => 0, fun h => absurd h (Nat.lt_irrefl 0), fun k h => absurd h (Nat.not_lt_zero _), fun k h => absurd h (Nat.not_lt_zero _), fun i j h => absurd h (Nat.not_lt_zero _), fun h => absurd h (Nat.lt_irrefl 0)⟩
theorem FEP_tk {D : Sto} (hD : DOK D) {p : PL} (hw : WP D p) (hf : FEP D p) {r : Nat} (hr : r < 12) : FEP D (ptk p r) := by
  by_cases c : p.2.2 r = -1
  · unfold ptk; rw [if_pos c]; exact hf
  · obtain ⟨v, i, j, hv, hv2, ev, hij, hj, g1, g2, et, hn2⟩ := WP_tk0 hw hr c
    rw [et]
    intro w hw2
    show FE D w (if w = v then p.1 v - 2 else p.1 w) (if w = v then rmT (p.2.1 v) i j else p.2.1 w)
    by_cases c2 : w = v
    · subst c2
      rw [if_pos rfl, if_pos rfl]
      have en : p.1 w - 2 + 2 = p.1 w := by omega
      exact FE_rm hD (n := p.1 w - 2) (by rw [en]; exact hw.1 w hv) hij (by omega) g1 g2 (by rw [en]; exact hf w hv)
    · rw [if_neg c2, if_neg c2]; exact hf w hw2
theorem FEP_put {D : Sto} {p : PL} (hf : FEP D p) {r v i j : Nat} (h : FE D v (p.1 v + 2) (insT (p.2.1 v) r i j)) : FEP D (pput p r v i j) := by
  intro w hw2
  show FE D w (if w = v then p.1 v + 2 else p.1 w) (if w = v then insT (p.2.1 v) r i j else p.2.1 w)
  by_cases c2 : w = v
  · subst c2; rw [if_pos rfl, if_pos rfl]; exact h
  · rw [if_neg c2, if_neg c2]; exact hf w hw2
theorem FEP_pins {D : Sto} {p p' : PL} (hf : FEP D p) {r : Nat} {acc : Acc} (ha : AOK D p r acc) (e : pins p r acc = some p') : FEP D p' := by
  cases acc with
  | none => cases e
  | some a =>
    obtain ⟨c, v, i, j⟩ := a
    obtain ⟨-, -, -, -, -, h6⟩ := ha c v i j rfl
    cases e
    exact FEP_put hf h6
def PV (D : Sto) (p : PL) : Prop := WP D p ∧ FEP D p
theorem PV_disp {D : Sto} (hD : DOK D) {p p' : PL} (h : PV D p) {inn out : Nat} (hi : inn < 12) (hi2 : (inn : Int) < D 10 1) (ho : p.2.2 inn = -1) (hout : out < 12) (e : dispF D p inn out = some p') : PV D p' := by
  refine ⟨(WP_disp h.1 hi hi2 ho hout e).1, ?_⟩
  unfold dispF at e
  by_cases c : p.2.2 out = -1
  · rw [if_pos c] at e; cases e
  · rw [if_neg c] at e
    obtain ⟨v, i, j, hv, hv2, ev, -⟩ := WP_tk0 h.1 hout c
    rw [ev, Int.toNat_natCast] at e
    exact FEP_pins (FEP_tk hD h.1 h.2 hout) (AOK_sc hv hv2 (fun _ _ _ _ h => by cases h)) e
theorem PV_any {D : Sto} (hD : DOK D) {p p' : PL} (h : PV D p) {r : Nat} {ex : Int} (hr : r < 12) (hr2 : (r : Int) < D 10 1) (ho : p.2.2 r = -1) (e : anyF D p r ex = some p') : PV D p' := by
  have nb := nv_b hD
  have hA : AOK D p r (alb D p r ex (nvN D)) := AOK_alb _ nb.1 (by omega)
  exact ⟨(WP_pins h.1 hr hr2 ho hA e).1, FEP_pins h.2 hA e⟩
theorem PV_short {D : Sto} (hD : DOK D) {p p' : PL} (h : PV D p) {r a : Nat} (hr : r < 12) (hr2 : (r : Int) < D 10 1) (ho : p.2.2 r = -1) (ha : a < 12) (e : shortF D p r a = some p') : PV D p' := by
  unfold shortF at e
  obtain ⟨p1, e1, e2⟩ := Option.bind_eq_some_iff.mp e
  obtain ⟨w1, o1, c1, -⟩ := WP_disp h.1 hr hr2 ho ha e1
  exact PV_any hD (PV_disp hD h hr hr2 ho ha e1) ha (lt_nr h.1 ha c1) o1 e2
theorem PV_long {D : Sto} (hD : DOK D) {p p' : PL} (h : PV D p) {r a b : Nat} (hr : r < 12) (hr2 : (r : Int) < D 10 1) (ho : p.2.2 r = -1) (ha : a < 12) (hb : b < 12) (e : longF D p r a b = some p') : PV D p' := by
  unfold longF at e
  by_cases c : p.2.2 b = -1 ∨ p.2.2 b = p.2.2 a
  · rw [if_pos c] at e; cases e
  · rw [if_neg c] at e
    obtain ⟨p1, e1, e2⟩ := Option.bind_eq_some_iff.mp e
    obtain ⟨p2, e3, e4⟩ := Option.bind_eq_some_iff.mp e2
    obtain ⟨w1, o1, c1, -⟩ := WP_disp h.1 hr hr2 ho ha e1
    have v1 := PV_disp hD h hr hr2 ho ha e1
    obtain ⟨w2, o2, -, -⟩ := WP_disp w1 ha (lt_nr h.1 ha c1) o1 hb e3
    exact PV_any hD (PV_disp hD v1 ha (lt_nr h.1 ha c1) o1 hb e3) hb (lt_nr h.1 hb (fun q => c (Or.inl q))) o2 e4
def CAP (D : Sto) (acc : CA) : Prop := ∀ x, acc = some x → PV D x.2.2.2 ∧ x.1 = tl D x.2.2.2
theorem CAP_kst {D : Sto} {acc : CA} (h : CAP D acc) {a b : Nat} {o : Option PL} (ho : ∀ q, o = some q → PV D q) : CAP D (kst D acc a b o) := by
  intro x e
  cases o with
  | none => exact h x e
  | some q =>
    cases acc with
    | none => cases e; exact ⟨ho q rfl, rfl⟩
    | some y =>
      simp only [kst] at e
      split at e
      · cases e; exact ⟨ho q rfl, rfl⟩
      · cases e; exact h _ rfl
theorem CAP_fch {D : Sto} (hD : DOK D) {p : PL} (h : PV D p) {r : Nat} (hr : r < 12) (hr2 : (r : Int) < D 10 1) (ho : p.2.2 r = -1) : CAP D (fch D p r) := by
  have nb := nv_b hD
  have s : ∀ m, m ≤ 12 → CAP D (shS D p r m) := by
    intro m
    induction m with
    | zero => intro _ x e; cases e
    | succ m ih => intro hm; exact CAP_kst (ih (by omega)) (fun q e => PV_short hD h hr hr2 ho (by omega) e)
  have lB : ∀ a acc m, a < 12 → m ≤ 12 → CAP D acc → CAP D (lgB D p r a acc m) := by
    intro a acc m ha
    induction m with
    | zero => intro _ hc; exact hc
    | succ m ih => intro hm hc; exact CAP_kst (ih (by omega) hc) (fun q e => PV_long hD h hr hr2 ho ha (by omega) e)
  have lA : ∀ m, m ≤ 12 → CAP D (lgA D p r m) := by
    intro m
    induction m with
    | zero => intro _ x e; cases e
    | succ m ih => intro hm; exact lB m _ _ (by omega) nb.2.2.1 (ih (by omega))
  unfold fch
  have hs := s (nrN D) nb.2.2.1
  split
  · next x e => rw [e] at hs; exact hs
  · exact lA _ nb.2.2.1
theorem CAP_imS {D : Sto} (hD : DOK D) {p : PL} (h : PV D p) : CAP D (imS D p (nrN D)) := by
  have nb := nv_b hD
  have s : ∀ m, m ≤ 12 → CAP D (imS D p m) := by
    intro m
    induction m with
    | zero => intro _ x e; cases e; exact ⟨h, rfl⟩
    | succ m ih =>
      intro hm
      unfold imS
      split
      · exact ih (by omega)
      · next c =>
        obtain ⟨w1, o1, -⟩ := WP_tk h.1 (r := m) (by omega)
        exact CAP_kst (ih (by omega)) (fun q e => PV_any hD ⟨w1, FEP_tk hD h.1 h.2 (by omega)⟩ (by omega) (lt_nr h.1 (by omega) c) o1 e)
  exact s _ nb.2.2.1
theorem cmb_none {a b : Acc} (h : cmb a b = none) : a = none ∧ b = none := by
  cases b with
  | none => exact ⟨h, rfl⟩
  | some y =>
    simp only [cmb] at h
    split at h
    · cases h
    · next c => subst h; exact absurd rfl c
theorem sc_none {D : Sto} {v n : Nat} {t : Nat → Nat} {r : Nat} {acc : Acc} (h : sc D v n t r acc = none) {i j : Nat} (hij : i < j) (hj : j < n + 2) : ¬ FE D v (n + 2) (insT t r i j) := by
  have hJ : ∀ i acc m, scJ D v n t r i acc m = none → acc = none ∧ ∀ d, d < m → cnd D v n t r i (i + 1 + d) = none := by
    intro i acc m
    induction m with
    | zero => intro h; exact ⟨h, fun d hd => absurd hd (Nat.not_lt_zero _)⟩
    | succ m ih =>
      intro h
      obtain ⟨a, b⟩ := cmb_none h
      obtain ⟨c, d⟩ := ih a
      refine ⟨c, fun x hx => ?_⟩
      by_cases q : x = m
      · subst q; exact b
      · exact d x (by omega)
  have hI : ∀ m, scI D v n t r acc m = none → ∀ a, a < m → ∀ d, d < n + 1 - a → cnd D v n t r a (a + 1 + d) = none := by
    intro m
    induction m with
    | zero => intro _ a ha; exact absurd ha (Nat.not_lt_zero _)
    | succ m ih =>
      intro h a ha
      obtain ⟨x, y⟩ := hJ m _ _ h
      by_cases q : a = m
      · subst q; exact y
      · exact ih x a (by omega)
  have hc := hI (n + 1) h i (by omega) (j - i - 1) (by omega)
  rw [show i + 1 + (j - i - 1) = j by omega] at hc
  intro hf
  unfold cnd at hc
  rw [if_pos (feB_t hf)] at hc
  cases hc
theorem any_ex {D : Sto} (hD : DOK D) {p : PL} (h : PV D p) {r : Nat} (hr : r < 12) (ha : p.2.2 r ≠ -1) : alb D (ptk p r) r (-1) (nvN D) ≠ none := by
  have nb := nv_b hD
  obtain ⟨v, i, j, hv, hv2, ev, hij, hj, g1, g2, et, hn2⟩ := WP_tk0 h.1 hr ha
  have e1 : (ptk p r).1 v = p.1 v - 2 := by rw [et]; exact if_pos rfl
  have e2 : (ptk p r).2.1 v = rmT (p.2.1 v) i j := by rw [et]; exact if_pos rfl
  have key : ∀ m, v < m → alb D (ptk p r) r (-1) m ≠ none := by
    intro m
    induction m with
    | zero => intro hm; exact absurd hm (Nat.not_lt_zero _)
    | succ m ih =>
      intro hm
      unfold alb
      rw [if_neg (by omega)]
      by_cases q : v = m
      · subst q
        intro hs
        refine sc_none hs hij (by rw [e1]; omega) ?_
        rw [e1, e2, ins_rm hij g1 g2, show p.1 v - 2 + 2 = p.1 v by omega]
        exact h.2 v hv
      · rw [sc_c]
        intro hs
        exact ih (by omega) (cmb_none hs).1
  exact key _ (by omega)
theorem Val_rec {S : ST} (h : Val S) {p : PL} (hp : PV S.1 p) : Val (S.1, p, recH S.2.2 S.2.1) := by
  obtain ⟨a, b, c, d, e⟩ := h
  refine ⟨a, hp.1, hp.2, fun x hx => ?_, ?_⟩
  · have hx : x ∈ recH S.2.2 S.2.1 := hx
    unfold recH at hx
    split at hx
    · rcases List.mem_append.mp hx with q | q
      · exact d x (List.mem_of_mem_tail q)
      · rw [List.mem_singleton.mp q]; exact ⟨b, c⟩
    · rcases List.mem_append.mp hx with q | q
      · exact d x q
      · rw [List.mem_singleton.mp q]; exact ⟨b, c⟩
  · show (recH S.2.2 S.2.1).length ≤ 10
    unfold recH
    split
    · next q => rw [List.length_append, List.length_tail, List.length_singleton]; omega
    · rw [List.length_append, List.length_singleton]; omega
theorem Val_new {S : ST} (h : Val S) {D : Sto} (h1 : DOK D) (h2 : WP D S.2.1) (h3 : FEP D S.2.1) : Val (D, S.2.1, []) := ⟨h1, h2, h3, fun x hx => (by cases hx), Nat.zero_le _⟩
theorem V_addV {S : ST} (h : Val S) (x y c f l : Int) : Val (f_addV S x y c f l).2 := by
  unfold f_addV
  by_cases q : inP x y ∧ inL c ∧ inW f l
  · rw [if_t q]
    split
    · next q2 =>
      obtain ⟨D, p, hs⟩ := S
      obtain ⟨hD, hw, hf, -, -⟩ := id h
      have hD : DOK D := hD
      have hw : WP D p := hw
      have hf : FEP D p := hf
      have nb := nv_b hD
      have q2 : D 10 0 < 4 := q2
      obtain ⟨⟨a1, a2, a3, a4⟩, ⟨b1, b2⟩, c1, c2, c3⟩ := q
      have hD' : DOK (dAddV D x y c f l) := by
        obtain ⟨k0, k1, k2, k3, k4, k5⟩ := hD
        refine ⟨by simpa [dAddV, stS] using k0, fun a ha => ?_, fun s hs => by simpa [dAddV, stS] using k2 s hs, fun r hr => by simpa [dAddV, stS] using k3 r hr, fun v hv => ?_, ?_⟩
        · have := k1 a ha
          by_cases e : a = 24 + nvN D
          · subst e; simp [dAddV, stS]; omega
          · simp [dAddV, stS, e]; omega
        · have := k4 v hv
          by_cases e : v = nvN D
          · subst e; simp [dAddV, stS]; omega
          · simp [dAddV, stS, e]; omega
        · simp [dAddV, stS]; omega
      have e100 : dAddV D x y c f l 10 0 = D 10 0 + 1 := by simp [dAddV, stS]
      have e101 : dAddV D x y c f l 10 1 = D 10 1 := by simp [dAddV, stS]
      refine Val_new h hD' (WP_D hw (by rw [e100]; omega) (Or.inl e101)) (fun v hv => ?_)
      show FE (dAddV D x y c f l) v (p.1 v) (p.2.1 v)
      by_cases e : p.1 v = 0
      · rw [e]; exact FE_0 hD' hv _
      · have hvn : (v : Int) < D 10 0 := (WP_lt hw hv (k := 0) (by show 0 < p.1 v; omega)).2.2
        have n1 : v ≠ nvN D := by omega
        have n2 : (24 + v) ≠ 24 + nvN D := by omega
        refine FE_c (hf v hv) (by simp [dAddV, stS]) (by simp [dAddV, stS, n1]) (fun _ => by simp [dAddV, stS, n1]) (fun k hk => ?_)
        have ht : p.2.1 v k < 24 := (hw.1 v hv).2.1 k hk
        have n3 : p.2.1 v k ≠ 24 + nvN D := by omega
        simp [dAddV, stS, n3]
    · exact h
  · rw [if_f q]; exact h
theorem V_addR {S : ST} (h : Val S) (fx fy tx ty c m : Int) : Val (f_addR S fx fy tx ty c m).2 := by
  unfold f_addR
  by_cases q : inP fx fy ∧ inP tx ty ∧ inL c ∧ inM m
  · rw [if_t q]
    split
    · next q2 =>
      obtain ⟨D, p, hs⟩ := S
      obtain ⟨hD, hw, hf, -, -⟩ := id h
      have hD : DOK D := hD
      have hw : WP D p := hw
      have hf : FEP D p := hf
      have nb := nv_b hD
      have q2 : D 10 1 < 12 := q2
      obtain ⟨⟨a1, a2, a3, a4⟩, ⟨a5, a6, a7, a8⟩, ⟨b1, b2⟩, c1, c2⟩ := q
      have e100 : dAddR D fx fy tx ty c m 10 0 = D 10 0 := by simp [dAddR, stS]
      have e101 : dAddR D fx fy tx ty c m 10 1 = D 10 1 + 1 := by simp [dAddR, stS]
      have hD' : DOK (dAddR D fx fy tx ty c m) := by
        obtain ⟨k0, k1, k2, k3, k4, k5⟩ := hD
        refine ⟨by simpa [dAddR, stS] using k0, fun a ha => ?_, fun s hs => ?_, fun r hr => ?_, fun v hv => by simpa [dAddR, stS] using k4 v hv, ?_⟩
        · have := k1 a ha
          by_cases e : a = 2 * nrN D
          · subst e; simp [dAddR, stS]; omega
          · by_cases e2 : a = 2 * nrN D + 1
            · subst e2; simp [dAddR, stS]; omega
            · simp [dAddR, stS, e, e2]; omega
        · have := k2 s hs
          by_cases e : s = 2 * nrN D
          · subst e; simp [dAddR, stS]
          · by_cases e2 : s = 2 * nrN D + 1
            · subst e2; simp [dAddR, stS]
            · simp [dAddR, stS, e, e2]; omega
        · have := k3 r hr
          by_cases e : r = nrN D
          · subst e; simp [dAddR, stS]; omega
          · simp [dAddR, stS, e]; omega
        · rw [e100, e101]; omega
      refine Val_new h hD' (WP_D hw (by rw [e100]; omega) (Or.inr (fun r hr hr2 => by rw [e101] at hr2; omega))) (fun v hv => ?_)
      refine FE_c (hf v hv) (by simp [dAddR, stS]) (by simp [dAddR, stS]) (fun _ => ?_) (fun k hk => ?_)
      · have n1 : 24 + v ≠ 2 * nrN D := by omega
        have n2 : 24 + v ≠ 2 * nrN D + 1 := by omega
        simp [dAddR, stS, n1, n2]
      · have hk : k < p.1 v := hk
        have ht := (WP_lt hw hv hk).1
        have n1 : p.2.1 v k / 2 ≠ nrN D := by omega
        have n2 : p.2.1 v k ≠ 2 * nrN D := by omega
        have n3 : p.2.1 v k ≠ 2 * nrN D + 1 := by omega
        show _ ∧ _
        simp [dAddR, stS, n1, n2, n3]
    · exact h
  · rw [if_f q]; exact h
theorem FEP_chg {D D' : Sto} {p : PL} (hw : WP D p) (hf : FEP D p) {r : Nat} (hr : r < 12) (hc : ∀ i a, i ≠ 10 → D' i a = D i a ∨ ((i = 3 ∨ i = 4) ∧ a / 2 = r) ∨ ((i = 5 ∨ i = 6) ∧ a = r)) (ho : okR D' p r) : FEP D' p := by
  intro v hv
  by_cases c : p.2.2 r = v
  · rcases ho with q | q
    · rw [c] at q; omega
    · rw [c, Int.toNat_natCast] at q; exact q
  · have hne : ∀ k, k < p.1 v → p.2.1 v k / 2 ≠ r := fun k hk q => by have := hw.2.1 v hv k hk; rw [q] at this; exact c this
    have s : ∀ i a, i ≠ 10 → ¬ ((i = 3 ∨ i = 4) ∧ a / 2 = r) → ¬ ((i = 5 ∨ i = 6) ∧ a = r) → D' i a = D i a := fun i a h0 h1 h2 => by
      rcases hc i a h0 with q | q | q
      · exact q
      · exact absurd q h1
      · exact absurd q h2
    exact FE_c (hf v hv) (s _ _ (by decide) (by omega) (by omega)) ⟨s _ _ (by decide) (by omega) (by omega), s _ _ (by decide) (by omega) (by omega), s _ _ (by decide) (by omega) (by omega)⟩ (fun _ => ⟨s _ _ (by decide) (by omega) (by omega), s _ _ (by decide) (by omega) (by omega)⟩)
      (fun k hk => by have := hne k hk; exact ⟨s _ _ (by decide) (by omega) (by omega), s _ _ (by decide) (by omega) (by omega), s _ _ (by decide) (by omega) (by omega), s _ _ (by decide) (by omega) (by omega), s _ _ (by decide) (by omega) (by omega), s _ _ (by decide) (by omega) (by omega)⟩)
theorem V_setW {S : ST} (h : Val S) (r d f l : Int) : Val (f_setW S r d f l).2 := by
  unfold f_setW
  by_cases q : isRq S.1 r
  · rw [if_t q]
    by_cases q1 : inW f l
    · rw [if_t q1]
      obtain ⟨D, p, hs⟩ := S
      obtain ⟨hD, hw, hf, -, -⟩ := id h
      have hD : DOK D := hD
      have hw : WP D p := hw
      have hf : FEP D p := hf
      simp only
      generalize hs2 : (2 * r + (if d = 0 then 0 else 1)).toNat = s
      have hr : 0 ≤ r ∧ r < D 10 1 := q
      have nb := nv_b hD
      have hss : s / 2 = r.toNat ∧ s < 24 := by split at hs2 <;> omega
      by_cases q2 : f = D 3 s ∧ l = D 4 s
      · rw [if_pos q2]; exact h
      · rw [if_neg q2]
        by_cases q3 : okR (stS (stS D 3 s f) 4 s l) p r.toNat
        · rw [if_t q3]
          obtain ⟨b1, b2, b3⟩ := q1
          refine Val_new h ?_ (WP_D hw (by simp [stS]) (Or.inl (by simp [stS]))) (FEP_chg hw hf (by omega) (fun i a _ => ?_) q3)
          · obtain ⟨k0, k1, k2, k3, k4, k5⟩ := hD
            refine ⟨by simpa [stS] using k0, fun a ha => by simpa [stS] using k1 a ha, fun x hx => ?_, fun r hr => by simpa [stS] using k3 r hr, fun v hv => by simpa [stS] using k4 v hv, by simpa [stS] using k5⟩
            have := k2 x hx
            by_cases e : x = s
            · subst e; simp [stS]; omega
            · simp [stS, e]; omega
          · by_cases e : a = s
            · by_cases e3 : i = 3
              · exact Or.inr (Or.inl ⟨Or.inl e3, by omega⟩)
              · by_cases e4 : i = 4
                · exact Or.inr (Or.inl ⟨Or.inr e4, by omega⟩)
                · exact Or.inl (by simp [stS, e3, e4])
            · exact Or.inl (by simp [stS, e])
        · rw [if_f q3]; exact h
    · rw [if_f q1]; exact h
  · rw [if_f q]; exact h
theorem V_setM {S : ST} (h : Val S) (r m : Int) : Val (f_setM S r m).2 := by
  unfold f_setM
  by_cases q : isRq S.1 r
  · rw [if_t q]
    by_cases q1 : inM m
    · rw [if_t q1]
      obtain ⟨D, p, hs⟩ := S
      obtain ⟨hD, hw, hf, -, -⟩ := id h
      have hD : DOK D := hD
      have hw : WP D p := hw
      have hf : FEP D p := hf
      have nb := nv_b hD
      have hr : 0 ≤ r ∧ r < D 10 1 := q
      show Val (if m = D 6 r.toNat then (D 6 r.toNat, (D, p, hs)) else iff' (okR (stS D 6 r.toNat m) p r.toNat) (D 6 r.toNat, (stS D 6 r.toNat m, p, [])) (-1005, (D, p, hs))).2
      split
      · exact h
      · by_cases q3 : okR (stS D 6 r.toNat m) p r.toNat
        · rw [if_t q3]
          obtain ⟨b1, b2⟩ := q1
          refine Val_new h ?_ (WP_D hw (by simp [stS]) (Or.inl (by simp [stS]))) (FEP_chg hw hf (by omega) (fun i a _ => ?_) q3)
          · obtain ⟨k0, k1, k2, k3, k4, k5⟩ := hD
            refine ⟨by simpa [stS] using k0, fun a ha => by simpa [stS] using k1 a ha, fun x hx => by simpa [stS] using k2 x hx, fun x hx => ?_, fun v hv => by simpa [stS] using k4 v hv, by simpa [stS] using k5⟩
            have := k3 x hx
            by_cases e : x = r.toNat
            · subst e; simp [stS]; omega
            · simp [stS, e]; omega
          · by_cases e : a = r.toNat
            · by_cases e3 : i = 6
              · exact Or.inr (Or.inr ⟨Or.inr e3, e⟩)
              · exact Or.inl (by simp [stS, e3])
            · exact Or.inl (by simp [stS, e])
        · rw [if_f q3]; exact h
    · rw [if_f q1]; exact h
  · rw [if_f q]; exact h
theorem V_setL {S : ST} (h : Val S) (r m : Int) : Val (f_setL S r m).2 := by
  unfold f_setL
  by_cases q : isRq S.1 r
  · rw [if_t q]
    by_cases q1 : inL m
    · rw [if_t q1]
      obtain ⟨D, p, hs⟩ := S
      obtain ⟨hD, hw, hf, -, -⟩ := id h
      have hD : DOK D := hD
      have hw : WP D p := hw
      have hf : FEP D p := hf
      have nb := nv_b hD
      have hr : 0 ≤ r ∧ r < D 10 1 := q
      show Val (if m = D 5 r.toNat then (D 5 r.toNat, (D, p, hs)) else iff' (okR (stS D 5 r.toNat m) p r.toNat) (D 5 r.toNat, (stS D 5 r.toNat m, p, [])) (-1005, (D, p, hs))).2
      split
      · exact h
      · by_cases q3 : okR (stS D 5 r.toNat m) p r.toNat
        · rw [if_t q3]
          obtain ⟨b1, b2⟩ := q1
          refine Val_new h ?_ (WP_D hw (by simp [stS]) (Or.inl (by simp [stS]))) (FEP_chg hw hf (by omega) (fun i a _ => ?_) q3)
          · obtain ⟨k0, k1, k2, k3, k4, k5⟩ := hD
            refine ⟨by simpa [stS] using k0, fun a ha => by simpa [stS] using k1 a ha, fun x hx => by simpa [stS] using k2 x hx, fun x hx => ?_, fun v hv => by simpa [stS] using k4 v hv, by simpa [stS] using k5⟩
            have := k3 x hx
            by_cases e : x = r.toNat
            · subst e; simp [stS]; omega
            · simp [stS, e]; omega
          · by_cases e : a = r.toNat
            · by_cases e3 : i = 5
              · exact Or.inr (Or.inr ⟨Or.inl e3, e⟩)
              · exact Or.inl (by simp [stS, e3])
            · exact Or.inl (by simp [stS, e])
        · rw [if_f q3]; exact h
    · rw [if_f q1]; exact h
  · rw [if_f q]; exact h
theorem V_setS {S : ST} (h : Val S) (m : Int) : Val (f_setS S m).2 := by
  unfold f_setS
  by_cases q : 0 ≤ m ∧ m ≤ 10
  · rw [if_t q]
    obtain ⟨D, p, hs⟩ := S
    obtain ⟨hD, hw, hf, -, -⟩ := id h
    have hD : DOK D := hD
    have hw : WP D p := hw
    have hf : FEP D p := hf
    show Val (if m = D 0 0 then (D 0 0, (D, p, hs)) else iff' (FEP (stS D 0 0 m) p) (D 0 0, (stS D 0 0 m, p, [])) (-1005, (D, p, hs))).2
    split
    · exact h
    · by_cases q3 : FEP (stS D 0 0 m) p
      · rw [if_t q3]
        refine Val_new h ?_ (WP_D hw (by simp [stS]) (Or.inl (by simp [stS]))) q3
        obtain ⟨k0, k1, k2, k3, k4, k5⟩ := hD
        exact ⟨by simpa [stS] using q, fun a ha => by simpa [stS] using k1 a ha, fun x hx => by simpa [stS] using k2 x hx, fun x hx => by simpa [stS] using k3 x hx, fun v hv => by simpa [stS] using k4 v hv, by simpa [stS] using k5⟩
      · rw [if_f q3]; exact h
  · rw [if_f q]; exact h
theorem ie_0 {S : ST} {r v i j : Int} (h : f_ie S r v i j = 0) : isRq S.1 r ∧ isVh S.1 v ∧ (0 ≤ i ∧ i < j ∧ j ≤ S.2.1.1 v.toNat + 1) ∧ S.2.1.2.2 r.toNat = -1 ∧ FE S.1 v.toNat (S.2.1.1 v.toNat + 2) (insT (S.2.1.2.1 v.toNat) r.toNat i.toNat j.toNat) := by
  unfold f_ie at h
  by_cases q1 : isRq S.1 r ∧ isVh S.1 v
  · rw [if_t q1] at h
    by_cases q2 : 0 ≤ i ∧ i < j ∧ j ≤ S.2.1.1 v.toNat + 1
    · rw [if_t q2] at h
      split at h
      · next q3 =>
        by_cases q4 : FE S.1 v.toNat (S.2.1.1 v.toNat + 2) (insT (S.2.1.2.1 v.toNat) r.toNat i.toNat j.toNat)
        · exact ⟨q1.1, q1.2, q2, q3, q4⟩
        · rw [if_f q4] at h; exact absurd h (by decide)
      · exact absurd h (by decide)
    · rw [if_f q2] at h; exact absurd h (by decide)
  · rw [if_f q1] at h; exact absurd h (by decide)
theorem oe_0 {S : ST} {r : Int} (h : f_oe S r = 0) : isRq S.1 r ∧ S.2.1.2.2 r.toNat = -1 := by
  unfold f_oe at h
  by_cases q1 : isRq S.1 r
  · rw [if_t q1] at h
    split at h
    · next q3 => exact ⟨q1, q3⟩
    · exact absurd h (by decide)
  · rw [if_f q1] at h; exact absurd h (by decide)
theorem oe2_0 {S : ST} {r v : Int} (h : f_oe2 S r v = 0) : isVh S.1 v ∧ isRq S.1 r ∧ S.2.1.2.2 r.toNat = -1 := by
  unfold f_oe2 at h
  by_cases q1 : isVh S.1 v
  · rw [if_t q1] at h; exact ⟨q1, oe_0 h⟩
  · rw [if_f q1] at h; exact absurd h (by decide)
theorem V_ins {S : ST} (h : Val S) (r v i j : Int) : Val (f_ins S r v i j).2 := by
  unfold f_ins
  split
  · next q =>
    obtain ⟨⟨a1, a2⟩, ⟨b1, b2⟩, c, d, e⟩ := ie_0 q
    have nb := nv_b h.1
    exact Val_rec h ⟨WP_put h.2.1 (by omega) (by omega) d (by omega) (by omega) (by omega) (by omega), FEP_put h.2.2.1 e⟩
  · exact h
theorem AOK_bst {S : ST} (h : Val S) {r v : Int} (hv : isVh S.1 v) : AOK S.1 S.2.1 r.toNat (bst S r v) := by
  have nb := nv_b h.1
  have hv : 0 ≤ v ∧ v < S.1 10 0 := hv
  exact AOK_sc (by omega) (by omega) (fun _ _ _ _ h => by cases h)
theorem V_acc {S : ST} (h : Val S) {r : Nat} (hr : r < 12) (hr2 : (r : Int) < S.1 10 1) (ho : S.2.1.2.2 r = -1) {acc : Acc} (hA : AOK S.1 S.2.1 r acc) {a : Int × Nat × Nat × Nat} (e : acc = some a) : Val (S.1, pput S.2.1 r a.2.1 a.2.2.1 a.2.2.2, recH S.2.2 S.2.1) := by
  obtain ⟨c, w, i, j⟩ := a
  obtain ⟨h1, h2, h3, h4, -, h6⟩ := hA c w i j e
  exact Val_rec h ⟨WP_put h.2.1 hr hr2 ho h1 h2 h3 h4, FEP_put h.2.2.1 h6⟩
theorem V_asT {S : ST} (h : Val S) (r v : Int) : Val (f_asT S r v).2 := by
  unfold f_asT
  split
  · next q =>
    obtain ⟨hv, ⟨a1, a2⟩, ho⟩ := oe2_0 q
    have nb := nv_b h.1
    split
    · exact h
    · next a e => exact V_acc h (by omega) (by omega) ho (AOK_bst h hv) e
  · exact h
theorem V_asg {S : ST} (h : Val S) (r : Int) : Val (f_asg S r).2 := by
  unfold f_asg
  split
  · next q =>
    obtain ⟨⟨a1, a2⟩, ho⟩ := oe_0 q
    have nb := nv_b h.1
    split
    · exact h
    · next a e => exact V_acc h (by omega) (by omega) ho (AOK_alb _ nb.1 (by omega)) e
  · exact h
theorem V_rem {S : ST} (h : Val S) (r : Int) : Val (f_rem S r).2 := by
  unfold f_rem
  by_cases q : isRq S.1 r
  · rw [if_t q]
    split
    · exact h
    · have nb := nv_b h.1
      have q : 0 ≤ r ∧ r < S.1 10 1 := q
      exact Val_rec h ⟨(WP_tk h.2.1 (by omega)).1, FEP_tk h.1 h.2.1 h.2.2.1 (by omega)⟩
  · rw [if_f q]; exact h
theorem V_ch {S : ST} (h : Val S) (r : Int) : Val (f_ch S r).2 := by
  unfold f_ch
  split
  · next q =>
    obtain ⟨⟨a1, a2⟩, ho⟩ := oe_0 q
    have nb := nv_b h.1
    split
    · exact h
    · next x e => exact Val_rec h (CAP_fch h.1 ⟨h.2.1, h.2.2.1⟩ (by omega) (by omega) ho x e).1
  · exact h
theorem V_im {S : ST} (h : Val S) : Val (f_im S).2 := by
  unfold f_im
  split
  · exact h
  · next x e =>
    split
    · exact h
    · exact Val_rec h (CAP_imS h.1 ⟨h.2.1, h.2.2.1⟩ x e).1
theorem V_un {S : ST} (h : Val S) : Val (f_un S).2 := by
  unfold f_un
  split
  · exact h
  · next x e =>
    obtain ⟨a, b, c, d, f⟩ := h
    have hx := List.mem_of_getLast? e
    refine ⟨a, (d x hx).1, (d x hx).2, fun y hy => d y (List.dropLast_subset _ hy), ?_⟩
    show (S.2.2.dropLast).length ≤ 10
    rw [List.length_dropLast]; omega
