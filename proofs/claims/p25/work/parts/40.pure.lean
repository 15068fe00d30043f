theorem adL_0 (D : Sto) {v n : Nat} {t : Nat → Nat} {r i j : Nat} : 0 ≤ adL D v n t r i j := by
  unfold adL
  split
  · have h1 := ds_t D (pd v n t i) (2 * r) (pd v n t (i + 1))
    have h2 := ds_t D (2 * r) (2 * r + 1) (pd v n t (i + 1))
    omega
  · have h1 := ds_t D (pd v n t i) (2 * r) (pd v n t (i + 1))
    have h2 := ds_t D (pd v n t (j - 1)) (2 * r + 1) (pd v n t j)
    omega
theorem ptot_1 {D : Sto} {p p' : PL} {v : Nat} {d : Int} (h : ∀ w, w ≠ v → rl D w (p'.1 w) (p'.2.1 w) = rl D w (p.1 w) (p.2.1 w)) (h2 : rl D v (p'.1 v) (p'.2.1 v) = rl D v (p.1 v) (p.2.1 v) + d) : ∀ m, ptot D p' m = ptot D p m + (if v < m then d else 0)
  | 0 => by simp [ptot]
  | m + 1 => by
    have ih := ptot_1 h h2 m
    simp only [ptot]
    rw [ih]
    by_cases c : m = v
    · subst c
      rw [h2, if_neg (Nat.lt_irrefl m), if_pos (Nat.lt_succ_self m)]
      omega
    · rw [h m c]
      by_cases q : v < m
      · rw [if_pos q, if_pos (by omega)]; omega
      · rw [if_neg q, if_neg (by omega)]; omega
theorem tl_put {D : Sto} (hD : DOK D) {p : PL} {r v i j : Nat} (hv : (v : Int) < D 10 0) (hij : i < j) (hj : j < p.1 v + 2) : tl D (pput p r v i j) = tl D p + adL D v (p.1 v) (p.2.1 v) r i j := by
  have nb := nv_b hD
  have e : ptot D (pput p r v i j) (nvN D) = ptot D p (nvN D) + (if v < nvN D then adL D v (p.1 v) (p.2.1 v) r i j else 0) := by
    refine ptot_1 (fun w hw => ?_) ?_ (nvN D)
    · show rl D w (if w = v then p.1 v + 2 else p.1 w) (if w = v then insT (p.2.1 v) r i j else p.2.1 w) = _
      rw [if_neg hw, if_neg hw]
    · show rl D v (if v = v then p.1 v + 2 else p.1 v) (if v = v then insT (p.2.1 v) r i j else p.2.1 v) = _
      rw [if_pos rfl, if_pos rfl]
      exact rl_ins D hij hj
  rw [if_pos (by omega)] at e
  exact e
theorem tl_tk {D : Sto} (hD : DOK D) {p : PL} (hw : WP D p) {r : Nat} (hr : r < 12) (ha : p.2.2 r ≠ -1) : ∃ v : Nat, p.2.2 r = v ∧ v < 4 ∧ (v : Int) < D 10 0 ∧ tl D p - tl D (ptk p r) = rl D v (p.1 v) (p.2.1 v) - rl D v ((ptk p r).1 v) ((ptk p r).2.1 v) ∧ 0 ≤ tl D p - tl D (ptk p r) := by
  obtain ⟨v, i, j, hv, hv2, ev, hij, hj, g1, g2, et, hn2⟩ := WP_tk0 hw hr ha
  have nb := nv_b hD
  have e1 : (ptk p r).1 v = p.1 v - 2 := by rw [et]; exact if_pos rfl
  have e2 : (ptk p r).2.1 v = rmT (p.2.1 v) i j := by rw [et]; exact if_pos rfl
  have e3 : rl D v (p.1 v) (p.2.1 v) = rl D v (p.1 v - 2) (rmT (p.2.1 v) i j) + adL D v (p.1 v - 2) (rmT (p.2.1 v) i j) r i j := by
    have q := rl_ins D (v := v) (n := p.1 v - 2) (t := rmT (p.2.1 v) i j) (r := r) hij (by omega)
    rw [ins_rm hij g1 g2, show p.1 v - 2 + 2 = p.1 v by omega] at q
    exact q
  have a0 := adL_0 D (v := v) (n := p.1 v - 2) (t := rmT (p.2.1 v) i j) (r := r) (i := i) (j := j)
  have e4 : ptot D (ptk p r) (nvN D) = ptot D p (nvN D) + (if v < nvN D then rl D v (p.1 v - 2) (rmT (p.2.1 v) i j) - rl D v (p.1 v) (p.2.1 v) else 0) := by
    refine ptot_1 (fun w hw => ?_) ?_ (nvN D)
    · rw [et]
      show rl D w (if w = v then p.1 v - 2 else p.1 w) (if w = v then rmT (p.2.1 v) i j else p.2.1 w) = _
      rw [if_neg hw, if_neg hw]
    · rw [e1, e2]; omega
  rw [if_pos (by omega)] at e4
  refine ⟨v, ev, hv, hv2, ?_, ?_⟩
  · unfold tl
    rw [e1, e2, e4]
    omega
  · unfold tl
    rw [e4]
    omega
def costA (acc : Acc) : Int := match acc with
  | none => 99999
  | some a => a.1
def whA (acc : Acc) : Int := match acc with
  | none => -1
  | some a => (a.2.1 : Int)
def pcA (acc : Acc) : Int := match acc with
  | none => -1007
  | some a => 100 * (a.2.2.1 : Int) + (a.2.2.2 : Int)
def cbA (acc : Acc) : Prop := ∀ x, acc = some x → 0 ≤ x.1 ∧ x.1 ≤ 2000
theorem cbA_cmb {a b : Acc} (ha : cbA a) (hb : cbA b) : cbA (cmb a b) := by
  intro x e
  cases b with
  | none => exact ha x e
  | some y =>
    simp only [cmb] at e
    split at e
    · cases e; exact hb _ rfl
    · exact ha x e
theorem costA_b {a : Acc} (h : cbA a) : 0 ≤ costA a ∧ costA a ≤ 99999 ∧ (costA a = 99999 ↔ a = none) := by
  cases a with
  | none => exact ⟨by decide, by decide, by simp [costA]⟩
  | some x =>
    have h := h x rfl
    show 0 ≤ x.1 ∧ x.1 ≤ 99999 ∧ (x.1 = 99999 ↔ _)
    exact ⟨by omega, by omega, fun q => by omega, fun q => by cases q⟩
theorem cmb_le {a b : Acc} (ha : cbA a) (hb : cbA b) (h : costA a ≤ costA b) : cmb a b = a := by
  cases b with
  | none => rfl
  | some y =>
    have h2 := hb y rfl
    cases a with
    | none =>
      have h : (99999 : Int) ≤ y.1 := h
      omega
    | some x =>
      have h : x.1 ≤ y.1 := h
      have e : bet y.1 (some x) = false := by
        unfold bet
        exact decide_eq_false (by omega)
      show (if bet y.1 (some x) = true then some y else some x) = some x
      rw [e]; rfl
theorem cmb_gt {a b : Acc} (ha : cbA a) (h : ¬ costA a ≤ costA b) : cmb a b = b := by
  cases b with
  | none =>
    have h1 := (costA_b ha).2.1
    exact absurd h1 h
  | some y =>
    cases a with
    | none => rfl
    | some x =>
      have h : ¬ x.1 ≤ y.1 := h
      have e : bet y.1 (some x) = true := by
        unfold bet
        exact decide_eq_true (by omega)
      show (if bet y.1 (some x) = true then some y else some x) = some y
      rw [if_pos e]
theorem cnd_t {D : Sto} {v n : Nat} {t : Nat → Nat} {r i j : Nat} (h : FE D v (n + 2) (insT t r i j)) : cnd D v n t r i j = some (adL D v n t r i j, v, i, j) := by
  unfold cnd; rw [if_pos (feB_t h)]
theorem cnd_f {D : Sto} {v n : Nat} {t : Nat → Nat} {r i j : Nat} (h : ¬ FE D v (n + 2) (insT t r i j)) : cnd D v n t r i j = none := by
  unfold cnd; rw [feB_f h]; rfl
theorem cbA_cnd {D : Sto} (hD : DOK D) {v n : Nat} (hv : v < 4) {t : Nat → Nat} (hw : RW n t) {r i j : Nat} (hr : r < 12) : cbA (cnd D v n t r i j) := by
  intro x e
  by_cases c : FE D v (n + 2) (insT t r i j)
  · rw [cnd_t c] at e
    cases e
    exact ⟨adL_0 D, (adL_b hD hv hw hr).2⟩
  · rw [cnd_f c] at e
    cases e
theorem cbA_J {D : Sto} (hD : DOK D) {v n : Nat} (hv : v < 4) {t : Nat → Nat} (hw : RW n t) {r i : Nat} (hr : r < 12) {acc : Acc} (h : cbA acc) : ∀ m, cbA (scJ D v n t r i acc m)
  | 0 => h
  | m + 1 => cbA_cmb (cbA_J hD hv hw hr h m) (cbA_cnd hD hv hw hr)
theorem cbA_I {D : Sto} (hD : DOK D) {v n : Nat} (hv : v < 4) {t : Nat → Nat} (hw : RW n t) {r : Nat} (hr : r < 12) {acc : Acc} (h : cbA acc) : ∀ m, cbA (scI D v n t r acc m)
  | 0 => h
  | m + 1 => cbA_J hD hv hw hr (cbA_I hD hv hw hr h m) _
theorem cbA_0 : cbA none := fun _ e => by cases e
theorem cbA_sc {D : Sto} (hD : DOK D) {v n : Nat} (hv : v < 4) {t : Nat → Nat} (hw : RW n t) {r : Nat} (hr : r < 12) : cbA (sc D v n t r none) := cbA_I hD hv hw hr cbA_0 _
def vhA (v : Nat) (acc : Acc) : Prop := ∀ x, acc = some x → x.2.1 = v
theorem vhA_cmb {v : Nat} {a b : Acc} (ha : vhA v a) (hb : vhA v b) : vhA v (cmb a b) := by
  intro x e
  cases b with
  | none => exact ha x e
  | some y =>
    simp only [cmb] at e
    split at e
    · cases e; exact hb _ rfl
    · exact ha x e
theorem vhA_cnd {D : Sto} {v n : Nat} {t : Nat → Nat} {r i j : Nat} : vhA v (cnd D v n t r i j) := by
  intro x e
  unfold cnd at e
  split at e
  · cases e; rfl
  · cases e
theorem vhA_J {D : Sto} {v n : Nat} {t : Nat → Nat} {r i : Nat} {acc : Acc} (h : vhA v acc) : ∀ m, vhA v (scJ D v n t r i acc m)
  | 0 => h
  | m + 1 => vhA_cmb (vhA_J h m) vhA_cnd
theorem vhA_I {D : Sto} {v n : Nat} {t : Nat → Nat} {r : Nat} {acc : Acc} (h : vhA v acc) : ∀ m, vhA v (scI D v n t r acc m)
  | 0 => h
  | m + 1 => vhA_J (vhA_I h m) _
theorem vhA_sc {D : Sto} {v n : Nat} {t : Nat → Nat} {r : Nat} : vhA v (sc D v n t r none) := vhA_I (fun _ e => by cases e) _
theorem alb_s (D : Sto) (p : PL) (r m : Nat) : alb D p r (-1) (m + 1) = cmb (alb D p r (-1) m) (sc D m (p.1 m) (p.2.1 m) r none) := by
  show (if (m : Int) = -1 then _ else _) = _
  rw [if_neg (by omega), sc_c]
theorem cbA_alb {D : Sto} (hD : DOK D) {p : PL} (hw : WP D p) {r : Nat} (hr : r < 12) : ∀ m, m ≤ 4 → cbA (alb D p r (-1) m)
  | 0, _ => cbA_0
  | m + 1, h => by
    rw [alb_s]
    exact cbA_cmb (cbA_alb hD hw hr m (by omega)) (cbA_sc hD (by omega) (hw.1 m (by omega)) hr)
theorem alb_ne {D : Sto} {p : PL} {r : Nat} {ex : Int} {m : Nat} : ∀ {x : Int × Nat × Nat × Nat}, alb D p r ex m = some x → (x.2.1 : Int) ≠ ex := by
  induction m with
  | zero => intro x e; cases e
  | succ m ih =>
    intro x e
    unfold alb at e
    split at e
    · exact ih e
    · next c =>
      rw [sc_c] at e
      cases q : sc D m (p.1 m) (p.2.1 m) r none with
      | none => rw [q] at e; exact ih e
      | some y =>
        rw [q] at e
        simp only [cmb] at e
        split at e
        · cases e
          rw [vhA_sc _ q]
          exact c
        · exact ih e
theorem recH_len {hs : List PL} {p : PL} (h : hs.length ≤ 10) : (recH hs p).length = if 10 ≤ hs.length then 10 else hs.length + 1 := by
  unfold recH
  by_cases c : hs.length = 10
  · rw [if_pos c, if_pos (by omega), List.length_append, List.length_tail, List.length_singleton]; omega
  · rw [if_neg c, if_neg (by omega), List.length_append, List.length_singleton]
theorem recH_un (D : Sto) (q : PL) {hs : List PL} {p : PL} : (f_un (D, q, recH hs p)).1 = ((recH hs p).length : Int) - 1 ∧ (f_un (D, q, recH hs p)).2.1 = D ∧ (f_un (D, q, recH hs p)).2.2.1 = p ∧ (f_un (D, q, recH hs p)).2.2.2.length = (recH hs p).length - 1 := by
  have e : ∃ l : List PL, recH hs p = l ++ [p] := by
    unfold recH
    split
    · exact ⟨_, rfl⟩
    · exact ⟨_, rfl⟩
  obtain ⟨l, e⟩ := e
  rw [e]
  have e2 : f_un (D, q, l ++ [p]) = (((l ++ [p]).dropLast.length : Int), (D, p, (l ++ [p]).dropLast)) := by
    unfold f_un
    show (match (l ++ [p]).getLast? with
      | none => (-1007, (D, q, l ++ [p]))
      | some h => (((l ++ [p]).dropLast.length : Int), (D, h, (l ++ [p]).dropLast))) = _
    rw [List.getLast?_concat]
  rw [e2]
  refine ⟨?_, rfl, rfl, ?_⟩
  · show ((l ++ [p]).dropLast.length : Int) = _
    rw [List.dropLast_concat, List.length_append, List.length_singleton]; omega
  · show (l ++ [p]).dropLast.length = _
    rw [List.dropLast_concat, List.length_append, List.length_singleton]; omega
theorem un_len (S : ST) : (f_un S).1 = (if S.2.2.length = 0 then -1007 else (S.2.2.length : Int) - 1) ∧ (f_un S).2.1 = S.1 ∧ (f_un S).2.2.2.length = S.2.2.length - 1 := by
  obtain ⟨D, p, hs⟩ := S
  cases hs with
  | nil => exact ⟨rfl, rfl, rfl⟩
  | cons a l =>
    have e : ∃ x, (a :: l).getLast? = some x := ⟨_, List.getLast?_eq_some_getLast (List.cons_ne_nil a l)⟩
    obtain ⟨x, e⟩ := e
    have e2 : f_un (D, p, a :: l) = (((a :: l).dropLast.length : Int), (D, x, (a :: l).dropLast)) := by
      unfold f_un
      show (match (a :: l).getLast? with
        | none => (-1007, (D, p, a :: l))
        | some h => (((a :: l).dropLast.length : Int), (D, h, (a :: l).dropLast))) = _
      rw [e]
    rw [e2]
    refine ⟨?_, rfl, ?_⟩
    · show ((a :: l).dropLast.length : Int) = if (a :: l).length = 0 then _ else ((a :: l).length : Int) - 1
      rw [if_neg (by simp), List.length_dropLast]
      have : 1 ≤ (a :: l).length := by simp
      omega
    · show (a :: l).dropLast.length = _
      rw [List.length_dropLast]
def imI (D : Sto) (p : PL) (x : Int × Nat × Nat × PL) : Prop := (x.2.1 = 99 ∧ x.1 = tl D p) ∨ (x.2.1 < 12 ∧ x.1 < tl D p)
theorem imS_I {D : Sto} {p : PL} : ∀ m, m ≤ 12 → ∃ x, imS D p m = some x ∧ imI D p x
  | 0, _ => ⟨_, rfl, Or.inl ⟨rfl, rfl⟩⟩
  | m + 1, h => by
    obtain ⟨x, e, hx⟩ := imS_I (D := D) (p := p) m (by omega)
    unfold imS
    split
    · exact ⟨x, e, hx⟩
    · rw [e]
      cases q : anyF D (ptk p m) m (-1) with
      | none => exact ⟨x, rfl, hx⟩
      | some z =>
        simp only [kst]
        by_cases c : tl D z < x.1
        · rw [if_pos c]
          refine ⟨_, rfl, Or.inr ⟨by show m < 12; omega, ?_⟩⟩
          show tl D z < tl D p
          rcases hx with ⟨_, h2⟩ | ⟨_, h2⟩
          · omega
          · omega
        · rw [if_neg c]; exact ⟨x, rfl, hx⟩
