def mG (σ σ' : Sto) : Prop := mF 68 73 A3 σ σ' ∧ σ' 72 = σ 72
theorem mG_r {σ : Sto} : mG σ σ := ⟨mF_r, rfl⟩
theorem mG_t {σ σ' σ'' : Sto} (h : mG σ σ') (h' : mG σ' σ'') : mG σ σ'' := ⟨mF_t h.1 h'.1, h'.2.trans h.2⟩
theorem mG_F {lo hi : Nat} {A : Nat → Prop} {σ σ' : Sto} (f : mF lo hi A σ σ') (hl : 68 ≤ lo) (hh : hi ≤ 71 ∨ (lo = 73 ∧ hi = 73)) (hA : ∀ i, A3 i → A i) : mG σ σ' := ⟨mF_w f hl (by omega) hA, f.1 72 (by decide) (by omega)⟩
theorem mG_M {D σ σ' : Sto} (h : mMD D σ) (g : mG σ σ') : mMD D σ' := mMD_F h g.1 (by omega) A3_3
theorem mG_H {σ σ' : Sto} {hs : List PL} (h : mH σ hs) (g : mG σ σ') : mH σ' hs := mH_keep h (g.1.2 22 A3_22) g.2
theorem A_03 (i : Nat) (_ : A3 i) : A0 i := trivial
theorem mG_st {σ σ' : Sto} {j : Nat} {x : Int} (h : mG σ σ') (hj : 25 ≤ j ∧ j ≤ 27) : mG σ (stS σ' 56 j x) := ⟨mF_s6 h.1 (fun z => by unfold A3 at z; omega), h.2⟩
def rC (σ : Sto) (y : Int) (acc : CA) : Prop := match acc with
  | none => y = 0
  | some x => y = 1 ∧ σ 56 25 = x.2.1 ∧ σ 56 26 = x.2.2.1 ∧ σ 56 27 = x.1
theorem A2_25 : A2 25 ∧ A2 26 ∧ A2 27 := by unfold A2; omega
theorem rC_F {lo hi : Nat} {A : Nat → Prop} {σ σ' : Sto} {y : Int} {acc : CA} (h : rC σ y acc) (f : mF lo hi A σ σ') (hA : A 25 ∧ A 26 ∧ A 27) : rC σ' y acc := by
  cases acc with
  | none => exact h
  | some a => exact ⟨h.1, by rw [f.2 25 hA.1]; exact h.2.1, by rw [f.2 26 hA.2.1]; exact h.2.2.1, by rw [f.2 27 hA.2.2]; exact h.2.2.2⟩
theorem rC_01 {σ : Sto} {y : Int} {acc : CA} (h : rC σ y acc) : y = 0 ∨ y = 1 := by
  cases acc with
  | none => exact Or.inl h
  | some a => exact Or.inr h.1
def COK (D : Sto) (p : PL) (r : Nat) (acc : CA) : Prop := ∀ x, acc = some x → x.2.1 < 12 ∧ ((x.2.2.1 = 99 ∧ shortF D p r x.2.1 = some x.2.2.2) ∨ (x.2.2.1 < 12 ∧ longF D p r x.2.1 x.2.2.1 = some x.2.2.2))
theorem COK_kst {D : Sto} {p : PL} {r : Nat} {acc : CA} (h : COK D p r acc) {a b : Nat} (ha : a < 12) {o : Option PL} (ho : ∀ q, o = some q → (b = 99 ∧ shortF D p r a = some q) ∨ (b < 12 ∧ longF D p r a b = some q)) : COK D p r (kst D acc a b o) := by
  intro x e
  cases o with
  | none => exact h x e
  | some q =>
    have hq := ho q rfl
    cases acc with
    | none => cases e; exact ⟨ha, hq⟩
    | some y =>
      simp only [kst] at e
      split at e
      · cases e; exact ⟨ha, hq⟩
      · exact h x e
theorem COK_fch {D : Sto} (hD : DOK D) (p : PL) (r : Nat) : COK D p r (fch D p r) := by
  have nb := nv_b hD
  have hS : ∀ m, m ≤ 12 → COK D p r (shS D p r m) := by
    intro m
    induction m with
    | zero => intro _ x e; cases e
    | succ m ih => intro hm; exact COK_kst (ih (by omega)) (by omega) (fun q e => Or.inl ⟨rfl, e⟩)
  have hB : ∀ a, a < 12 → ∀ acc, COK D p r acc → ∀ m, m ≤ 12 → COK D p r (lgB D p r a acc m) := by
    intro a ha acc h m
    induction m with
    | zero => intro _; exact h
    | succ m ih => intro hm; exact COK_kst (ih (by omega)) ha (fun q e => Or.inr ⟨by omega, e⟩)
  have hA : ∀ m, m ≤ 12 → COK D p r (lgA D p r m) := by
    intro m
    induction m with
    | zero => intro _ x e; cases e
    | succ m ih => intro hm; exact hB m (by omega) _ (ih (by omega)) _ nb.2.2.1
  unfold fch
  cases e : shS D p r (nrN D) with
  | none => exact hA _ nb.2.2.1
  | some x =>
    have := hS _ nb.2.2.1
    rw [e] at this
    exact this
theorem imS_ok {D : Sto} {p : PL} : ∀ m, m ≤ 12 → ∃ x, imS D p m = some x ∧ ((x.2.1 = 99 ∧ x.1 = tl D p) ∨ (x.2.1 < m ∧ p.2.2 x.2.1 ≠ -1 ∧ anyF D (ptk p x.2.1) x.2.1 (-1) = some x.2.2.2))
  | 0, _ => ⟨_, rfl, Or.inl ⟨rfl, rfl⟩⟩
  | m + 1, hm => by
    obtain ⟨x, e, h⟩ := imS_ok m (by omega)
    have keep : (x.2.1 = 99 ∧ x.1 = tl D p) ∨ (x.2.1 < m + 1 ∧ p.2.2 x.2.1 ≠ -1 ∧ anyF D (ptk p x.2.1) x.2.1 (-1) = some x.2.2.2) := by
      rcases h with h | h
      · exact Or.inl h
      · exact Or.inr ⟨by omega, h.2⟩
    simp only [imS]
    by_cases c : p.2.2 m = -1
    · rw [if_pos c]; exact ⟨x, e, keep⟩
    · rw [if_neg c, e]
      cases eq : anyF D (ptk p m) m (-1) with
      | none => exact ⟨x, rfl, keep⟩
      | some q =>
        simp only [kst]
        split
        · exact ⟨_, rfl, Or.inr ⟨by show m < m + 1; omega, c, eq⟩⟩
        · exact ⟨x, rfl, keep⟩
section MODELI
variable {l : Launch} {G : GT} {D : Sto}
theorem sm_disp (hD : DOK D) {σ : Sto} (hM : mMD D σ) {p : PL} (hw : WP D p) (hR : mR (σ 68) 0 p) {r a : Nat} (hr : r < 12) (ho : p.2.2 r = -1) (ha : a < 12) (haa : ¬ p.2.2 a = -1) {x1 x2 : Int} (h1 : x1 = r) (h2 : x2 = a) {Q : Int → Sto → Prop}
    (g0 : ∀ σ', mG σ σ' → dispF D p r a = none → (∀ i, A2 i → σ' 56 i = σ 56 i) → σ' 73 = σ 73 → Q 0 σ') (g1 : ∀ σ' q, mG σ σ' → dispF D p r a = some q → mR (σ' 68) 0 q → (∀ i, A2 i → σ' 56 i = σ 56 i) → σ' 73 = σ 73 → Q 1 σ') : CLv l G mX8_takeOut [vR 56, vI x2] σ (fun s => CLi l G mX8_putBest [vR 56, vI x1, vI (p.2.2 a)] s Q) := by
  refine sm_takeOut hD hM hw hR ha haa h2 (fun s1 f1 R1 => ?_)
  obtain ⟨w1, w2, w3⟩ := WP_tk hw ha
  have M1 := mMD_F hM f1 (by omega) A1_3
  obtain ⟨v, hv, hv2, ev⟩ := vh_of hw ha haa
  have hra : r ≠ a := fun q => haa (by rw [← q]; exact ho)
  have ho1 : (ptk p a).2.2 r = -1 := by rw [w3 r hra]; exact ho
  have ed : dispF D p r a = pins (ptk p a) r (sc D v ((ptk p a).1 v) ((ptk p a).2.1 v) r none) := by
    unfold dispF
    rw [if_neg haa, ev, Int.toNat_natCast]
  have gm : ∀ s2, mF 68 70 A2 s1 s2 → mG σ s2 := fun s2 f2 => mG_t (mG_F f1 (by omega) (by omega) A_13) (mG_F f2 (by omega) (by omega) A_23)
  have g6 : ∀ s2, mF 68 70 A2 s1 s2 → ∀ i, A2 i → s2 56 i = σ 56 i := fun s2 f2 i hi => (f2.2 i hi).trans (f1.2 i hi.1)
  have g7 : ∀ s2, mF 68 70 A2 s1 s2 → s2 73 = σ 73 := fun s2 f2 => (f2.1 73 (by decide) (by omega)).trans (f1.1 73 (by decide) (by omega))
  refine sm_pBest hD M1 w1 R1 hv hv2 hr ho1 h1 ev (fun s2 f2 eN => ?_) (fun s2 x f2 eS R2 _ => ?_)
  · have f2 := mF_w f2 (by omega : 68 ≤ 69) (Nat.le_refl 70) (fun _ h => h)
    exact g0 s2 (gm s2 f2) (by rw [ed, eN]; rfl) (g6 s2 f2) (g7 s2 f2)
  · exact g1 s2 _ (gm s2 f2) (by rw [ed, eS]; rfl) R2 (g6 s2 f2) (g7 s2 f2)
theorem sm_any (hD : DOK D) {σ : Sto} (hM : mMD D σ) {p : PL} (hw : WP D p) (hR : mR (σ 68) 0 p) {r : Nat} {ex : Int} (hr : r < 12) (ho : p.2.2 r = -1) {x1 : Int} (h1 : x1 = r) {Q : Int → Sto → Prop}
    (g0 : ∀ σ', mG σ σ' → anyF D p r ex = none → (∀ i, A2 i → σ' 56 i = σ 56 i) → σ' 73 = σ 73 → Q (-1) σ') (g1 : ∀ σ' (v : Nat) q, mG σ σ' → anyF D p r ex = some q → mR (σ' 68) 0 q → (∀ i, A2 i → σ' 56 i = σ 56 i) → σ' 73 = σ 73 → Q v σ') : CLi l G mX8_putAnywhere [vR 56, vI x1, vI ex] σ Q := by
  refine sm_pAny hD hM hw hR hr ho h1 (fun s2 f2 eN => ?_) (fun s2 x f2 eS R2 => ?_)
  · exact g0 s2 (mG_F f2 (by omega) (by omega) A_23) (by unfold anyF; rw [eN]; rfl) f2.2 (f2.1 73 (by decide) (by omega))
  · exact g1 s2 _ _ (mG_F f2 (by omega) (by omega) A_23) (by unfold anyF; rw [eS]; rfl) R2 f2.2 (f2.1 73 (by decide) (by omega))
theorem sm_short (hD : DOK D) {σ : Sto} (hM : mMD D σ) {p : PL} (hw : WP D p) (hR : mR (σ 68) 0 p) {r a : Nat} (hr : r < 12) (hr2 : (r : Int) < D 10 1) (ho : p.2.2 r = -1) (ha : a < 12) {x1 x2 : Int} (h1 : x1 = r) (h2 : x2 = a) {Q : Int → Sto → Prop}
    (g0 : ∀ σ', mG σ σ' → shortF D p r a = none → (∀ i, A2 i → σ' 56 i = σ 56 i) → σ' 73 = σ 73 → Q 0 σ') (g1 : ∀ σ' q, mG σ σ' → shortF D p r a = some q → mR (σ' 68) 0 q → (∀ i, A2 i → σ' 56 i = σ 56 i) → σ' 73 = σ 73 → Q 1 σ') : CLi l G mX8_isShort [vR 56, vI x1, vI x2] σ Q := by
  by_cases c : p.2.2 a = -1
  · refine clX8_isShort l G σ Q x1 x2 (sm_vOf hD hM hw hR ha h2 ⟨fun z => absurd z (by omega), fun _ => g0 σ mG_r ?_ (fun _ _ => rfl) rfl⟩)
    unfold shortF dispF; rw [if_pos c]; rfl
  · have ab := as_of hw ha c
    refine clX8_isShort l G σ Q x1 x2 (sm_vOf hD hM hw hR ha h2 ⟨fun _ => sm_disp hD hM hw hR hr ho ha c h1 h2 (fun s1 m1 eN k1 k3 => ⟨fun _ => g0 s1 m1 (by unfold shortF; rw [eN]; rfl) k1 k3, fun z => absurd rfl z⟩) (fun s1 q m1 eS R1 k1 k3 => ⟨fun z => absurd z (by decide), fun _ => ?_⟩), fun z => absurd ab.1 z⟩)
    obtain ⟨w1, w2, -, -⟩ := WP_disp hw hr hr2 ho ha eS
    refine sm_any hD (mG_M hM m1) w1 R1 ha w2 h2 (fun s2 m2 eN k2 k4 y hy => ?_) (fun s2 v q2 m2 eS2 R2 k2 k4 y hy => ?_)
    · rw [if_pos (by decide)] at hy
      rw [hy]
      exact g0 s2 (mG_t m1 m2) (by unfold shortF; rw [eS]; exact eN) (fun i hi => (k2 i hi).trans (k1 i hi)) (k4.trans k3)
    · rw [if_neg (by omega)] at hy
      rw [hy]
      exact g1 s2 q2 (mG_t m1 m2) (by unfold shortF; rw [eS]; exact eS2) R2 (fun i hi => (k2 i hi).trans (k1 i hi)) (k4.trans k3)
theorem sm_long (hD : DOK D) {σ : Sto} (hM : mMD D σ) {p : PL} (hw : WP D p) (hR : mR (σ 68) 0 p) {r a b : Nat} (hr : r < 12) (hr2 : (r : Int) < D 10 1) (ho : p.2.2 r = -1) (ha : a < 12) (hb : b < 12) {x1 x2 x3 : Int} (h1 : x1 = r) (h2 : x2 = a) (h3 : x3 = b) {Q : Int → Sto → Prop}
    (g0 : ∀ σ', mG σ σ' → longF D p r a b = none → (∀ i, A2 i → σ' 56 i = σ 56 i) → σ' 73 = σ 73 → Q 0 σ') (g1 : ∀ σ' q, mG σ σ' → longF D p r a b = some q → mR (σ' 68) 0 q → (∀ i, A2 i → σ' 56 i = σ 56 i) → σ' 73 = σ 73 → Q 1 σ') : CLi l G mX8_isLong [vR 56, vI x1, vI x2, vI x3] σ Q := by
  refine clX8_isLong l G σ Q x1 x2 x3 (sm_vOf hD hM hw hR ha h2 (sm_vOf hD hM hw hR hb h3 ⟨fun c => ?_, fun c => ⟨fun c2 => ?_, fun c2 => ⟨fun c3 => ?_, fun c3 => ?_⟩⟩⟩))
  · have := op_of hw ha c
    refine g0 σ mG_r ?_ (fun _ _ => rfl) rfl
    unfold longF
    split
    · rfl
    · unfold dispF; rw [if_pos this]; rfl
  · have := op_of hw hb c2
    exact g0 σ mG_r (by unfold longF; rw [if_pos (Or.inl this)]) (fun _ _ => rfl) rfl
  · exact g0 σ mG_r (by unfold longF; rw [if_pos (Or.inr c3.symm)]) (fun _ _ => rfl) rfl
  · have haa : ¬ p.2.2 a = -1 := by omega
    have hbb : ¬ p.2.2 b = -1 := by omega
    have hL : longF D p r a b = (dispF D p r a).bind fun p1 => (dispF D p1 a b).bind fun p2 => anyF D p2 b (p.2.2 b) := by
      unfold longF
      rw [if_neg (fun z => by rcases z with z | z; exact hbb z; exact c3 z.symm)]
    have hab : b ≠ a := fun q => c3 (by rw [q])
    have hbr : b ≠ r := fun q => hbb (by rw [q]; exact ho)
    refine sm_disp hD hM hw hR hr ho ha haa h1 h2 (fun s1 m1 eN k1 k3 => ⟨fun _ => g0 s1 m1 (by rw [hL, eN]; rfl) k1 k3, fun z => absurd rfl z⟩) (fun s1 q m1 eS R1 k1 k3 => ⟨fun z => absurd z (by decide), fun _ => ?_⟩)
    obtain ⟨w1, w2, -, w4⟩ := WP_disp hw hr hr2 ho ha eS
    have hbq : q.2.2 b = p.2.2 b := w4 b hbr hab
    have ha2 : (a : Int) < D 10 1 := lt_nr hw ha haa
    rw [← hbq]
    refine sm_disp hD (mG_M hM m1) w1 R1 ha w2 hb (by rw [hbq]; exact hbb) h2 h3 (fun s2 m2 eN k2 k4 => ⟨fun _ => g0 s2 (mG_t m1 m2) (by rw [hL, eS]; show (dispF D q a b).bind _ = none; rw [eN]; rfl) (fun i hi => (k2 i hi).trans (k1 i hi)) (k4.trans k3), fun z => absurd rfl z⟩) (fun s2 q2 m2 eS2 R2 k2 k4 => ⟨fun z => absurd z (by decide), fun _ => ?_⟩)
    obtain ⟨w5, w6, -, -⟩ := WP_disp w1 ha ha2 w2 hb eS2
    refine sm_any hD (mG_M hM (mG_t m1 m2)) w5 R2 hb w6 h3 (fun s3 m3 eN k5 k6 y hy => ?_) (fun s3 v q3 m3 eS3 R3 k5 k6 y hy => ?_)
    · rw [if_pos (by decide)] at hy
      rw [hy]
      exact g0 s3 (mG_t (mG_t m1 m2) m3) (by rw [hL, eS]; show (dispF D q a b).bind _ = none; rw [eS2]; show anyF D q2 b (p.2.2 b) = none; rw [← hbq]; exact eN) (fun i hi => (k5 i hi).trans ((k2 i hi).trans (k1 i hi))) (k6.trans (k4.trans k3))
    · rw [if_neg (by omega)] at hy
      rw [hy]
      exact g1 s3 q3 (mG_t (mG_t m1 m2) m3) (by rw [hL, eS]; show (dispF D q a b).bind _ = some q3; rw [eS2]; show anyF D q2 b (p.2.2 b) = some q3; rw [← hbq]; exact eS3) R3 (fun i hi => (k5 i hi).trans ((k2 i hi).trans (k1 i hi))) (k6.trans (k4.trans k3))
end MODELI
