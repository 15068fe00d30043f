def mH (σ : Sto) (hs : List PL) : Prop := σ 56 22 = hs.length ∧ ∀ (i : Nat) h, hs[i]? = some h → mR (σ 72) (100 * i) h
def InvM (σ : Sto) (S : ST) : Prop := mMD S.1 σ ∧ mR (σ 68) 0 S.2.1 ∧ mH σ S.2.2
def frM (σ σ' : Sto) : Prop := ∀ k, (k < 56 ∨ 73 < k) → σ' k = σ k
theorem frM_r {σ : Sto} : frM σ σ := fun _ _ => rfl
theorem frM_t {σ σ' σ'' : Sto} (h : frM σ σ') (h' : frM σ' σ'') : frM σ σ'' := fun k a => (h' k a).trans (h k a)
theorem frM_F {lo hi : Nat} {A : Nat → Prop} {σ σ' : Sto} (f : mF lo hi A σ σ') (hl : 56 ≤ lo) (hh : hi ≤ 73) : frM σ σ' := fun k a => f.1 k (by omega) (by omega)
theorem frM_st {σ σ' : Sto} {k j : Nat} {x : Int} (h : frM σ σ') (hk : 56 ≤ k ∧ k ≤ 73) : frM σ (stS σ' k j x) := fun c a => by
  rw [← h c a]; funext i; exact stS_ne (by omega)
theorem mH_F {lo hi : Nat} {A : Nat → Prop} {σ σ' : Sto} {hs : List PL} (h : mH σ hs) (f : mF lo hi A σ σ') (hl : 57 ≤ lo) (hh : hi ≤ 71) (hA : A 22) : mH σ' hs := by
  refine ⟨by rw [f.2 22 hA]; exact h.1, fun i x e => ?_⟩
  rw [f.1 72 (by decide) (by omega)]; exact h.2 i x e
theorem InvM_F {lo hi : Nat} {A : Nat → Prop} {σ σ' : Sto} {S : ST} (h : InvM σ S) (f : mF lo hi A σ σ') (hl : 69 ≤ lo) (hh : hi ≤ 71) (hA : A 0 ∧ A 1 ∧ A 7) (hB : A 22) : InvM σ' S :=
  ⟨mMD_F h.1 f (by omega) hA, mR_F h.2.1 f hl, mH_F h.2.2 f (by omega) hh hB⟩
theorem A1_22 : A1 22 := by unfold A1; omega
theorem A2_22 : A2 22 := by unfold A2; omega
theorem A3_22 : A3 22 := by unfold A3; omega
theorem InvM_1 {lo hi : Nat} {σ σ' : Sto} {S : ST} (h : InvM σ S) (f : mF lo hi A1 σ σ') (hl : 69 ≤ lo) (hh : hi ≤ 71) : InvM σ' S := InvM_F h f hl hh A1_3 A1_22
theorem InvM_2 {lo hi : Nat} {σ σ' : Sto} {S : ST} (h : InvM σ S) (f : mF lo hi A2 σ σ') (hl : 69 ≤ lo) (hh : hi ≤ 71) : InvM σ' S := InvM_F h f hl hh A2_3 A2_22
theorem stS_self (D : Sto) (i j : Nat) : stS D i j (D i j) = D := by
  funext a b
  unfold stS
  split
  · next c => rw [c.1, c.2]
  · rfl
theorem ok_of {D : Sto} {p : PL} (hw : WP D p) (hf : FEP D p) {r : Nat} (hr : r < 12) : okR D p r := by
  by_cases c : p.2.2 r = -1
  · exact Or.inl c
  · obtain ⟨v, hv, -, e⟩ := vh_of hw hr c
    exact Or.inr (by rw [e, Int.toNat_natCast]; exact hf v hv)
theorem mMD_lim {D σ : Sto} (h : mMD D σ) (r : Nat) (m : Int) : mMD (stS D 6 r m) (stS σ 67 r m) := by
  obtain ⟨a, b, c, d⟩ := h
  refine ⟨by simpa [stS] using a, fun v hv => by simpa [stS] using b v hv, fun s hs => by simpa [stS] using c s hs, fun x hx => ?_⟩
  have := d x hx
  by_cases e : x = r
  · subst e; simp [stS]; exact this.1
  · simp [stS, e]; exact this
theorem mMD_load {D σ : Sto} (h : mMD D σ) (r : Nat) (m : Int) : mMD (stS D 5 r m) (stS σ 66 r m) := by
  obtain ⟨a, b, c, d⟩ := h
  refine ⟨by simpa [stS] using a, fun v hv => by simpa [stS] using b v hv, fun s hs => by simpa [stS] using c s hs, fun x hx => ?_⟩
  have := d x hx
  by_cases e : x = r
  · subst e; simp [stS]; exact this.2
  · simp [stS, e]; exact this
theorem mMD_win {D σ : Sto} (h : mMD D σ) (s : Nat) (m n : Int) : mMD (stS (stS D 3 s m) 4 s n) (stS (stS σ 64 s m) 65 s n) := by
  obtain ⟨a, b, c, d⟩ := h
  refine ⟨by simpa [stS] using a, fun v hv => by simpa [stS] using b v hv, fun x hx => ?_, fun r hr => by simpa [stS] using d r hr⟩
  have := c x hx
  by_cases e : x = s
  · subst e; simp [stS]; exact ⟨this.1, this.2.1⟩
  · simp [stS, e]; exact this
theorem mMD_srv {D σ : Sto} (h : mMD D σ) (m : Int) : mMD (stS D 0 0 m) (stS σ 56 0 m) := by
  obtain ⟨a, b, c, d⟩ := h
  exact ⟨by simpa [stS] using a.2, fun v hv => by simpa [stS] using b v hv, fun s hs => by simpa [stS] using c s hs, fun r hr => by simpa [stS] using d r hr⟩
theorem mMD_22 {D σ : Sto} (h : mMD D σ) (y : Int) : mMD D (stS σ 56 22 y) := by
  obtain ⟨a, b, c, d⟩ := h
  exact ⟨by simpa [stS] using a, fun v hv => by simpa [stS] using b v hv, fun s hs => by simpa [stS] using c s hs, fun r hr => by simpa [stS] using d r hr⟩
theorem mH_nil {σ : Sto} (h : σ 56 22 = 0) : mH σ [] := ⟨by rw [h]; rfl, fun i x e => by cases e⟩
theorem mH_keep {σ σ' : Sto} {hs : List PL} (h : mH σ hs) (e : σ' 56 22 = σ 56 22) (e2 : σ' 72 = σ 72) : mH σ' hs := ⟨by rw [e]; exact h.1, fun i x q => by rw [e2]; exact h.2 i x q⟩
section MODELF
variable {l : Launch} {G : GT}
theorem m_setM {S : ST} (hV : Val S) {σ : Sto} (hI : InvM σ S) {x1 x2 : Int} {Q : Int → Sto → Prop} (hQ : ∀ σ', InvM σ' (f_setM S x1 x2).2 → frM σ σ' → Q (f_setM S x1 x2).1 σ') : CLi l G mX8_setLimit [vR 56, vI x1, vI x2] σ Q := by
  obtain ⟨D, p, hs⟩ := S
  obtain ⟨hM, hR, hH⟩ := id hI
  obtain ⟨hD, hw, hf, -, -⟩ := id hV
  have hM : mMD D σ := hM
  have hR : mR (σ 68) 0 p := hR
  have hD : DOK D := hD
  have hw : WP D p := hw
  have nb := nv_b hD
  unfold f_setM at hQ
  refine clX8_setLimit l G σ Q x1 x2 (sm_noR hD hM (fun q => ⟨fun _ => ?_, fun e => absurd rfl e⟩) (fun q => ⟨fun e => absurd e (by decide), fun _ => by rw [if_f q] at hQ; exact hQ σ hI frM_r⟩))
  rw [if_t q] at hQ
  have hr : 0 ≤ x1 ∧ x1 < D 10 1 := q
  refine sm_in (fun q1 => ⟨fun e => absurd e (by decide), fun _ => ?_⟩) (fun q1 => ⟨fun _ => by rw [if_f (show ¬ inM x2 from q1)] at hQ; exact hQ σ hI frM_r, fun e => absurd rfl e⟩)
  have q1 : inM x2 := q1
  rw [if_t q1] at hQ
  have e5 : σ 67 x1.toNat = D 6 x1.toNat := (hM.2.2.2 _ (by omega)).2
  rw [e5]
  have hM1 := mMD_lim hM x1.toNat x2
  have hD1 := DOK_lim hD x1.toNat q1
  have hw1 : WP (stS D 6 x1.toNat x2) p := WP_D hw (by simp [stS]) (Or.inl (by simp [stS]))
  have hR1 : mR (stS σ 67 x1.toNat x2 68) 0 p := hR
  refine ⟨by omega, sm_stays hD1 hM1 hw1 hR1 (r := x1.toNat) (by omega) (by omega) (fun s f ok => ⟨fun e => absurd e (by decide), fun _ y hy => ?_⟩) (fun s f ok => ⟨fun _ => ?_, fun e => absurd rfl e⟩)⟩
  · have fr : frM σ (stS s 56 22 y) := frM_st (frM_t (frM_st frM_r (by omega)) (frM_F f (by omega) (by omega))) (by omega)
    have hMs := mMD_22 (mMD_F hM1 f (by omega) A1_3) y
    by_cases c : x2 = D 6 x1.toNat
    · rw [if_pos c.symm] at hy
      have hQ := hQ (stS s 56 22 y)
      simp only [if_pos c] at hQ
      refine hQ ⟨?_, ?_, mH_keep hH ?_ ?_⟩ fr
      · rw [c, stS_self] at hMs; exact hMs
      · exact (mR_F hR1 f (by omega) : mR (s 68) 0 p)
      · rw [stS_eq, hy, f.2 22 A1_22]; rfl
      · show s 72 = σ 72
        rw [f.1 72 (by decide) (by omega)]; rfl
    · rw [if_neg (fun q => c q.symm)] at hy
      simp only [if_neg c] at hQ
      rw [if_t ok] at hQ
      exact hQ _ ⟨hMs, (mR_F hR1 f (by omega) : mR (s 68) 0 p), mH_nil (by rw [stS_eq]; exact hy)⟩ fr
  · by_cases c : x2 = D 6 x1.toNat
    · exfalso
      apply ok
      rw [c, stS_self]
      exact ok_of hw hf (by omega)
    · simp only [if_neg c] at hQ
      rw [if_f ok] at hQ
      have hM3 := mMD_lim (mMD_F hM1 f (by omega) A1_3) x1.toNat (D 6 x1.toNat)
      rw [stS_back] at hM3
      refine hQ _ ⟨hM3, (mR_F hR1 f (by omega) : mR (s 68) 0 p), mH_keep hH ?_ ?_⟩ (frM_st (frM_t (frM_st frM_r (by omega)) (frM_F f (by omega) (by omega))) (by omega))
      · rw [stS_ne (by decide), f.2 22 A1_22]; rfl
      · show s 72 = σ 72
        rw [f.1 72 (by decide) (by omega)]; rfl
theorem m_setL {S : ST} (hV : Val S) {σ : Sto} (hI : InvM σ S) {x1 x2 : Int} {Q : Int → Sto → Prop} (hQ : ∀ σ', InvM σ' (f_setL S x1 x2).2 → frM σ σ' → Q (f_setL S x1 x2).1 σ') : CLi l G mX8_setLoad [vR 56, vI x1, vI x2] σ Q := by
  obtain ⟨D, p, hs⟩ := S
  obtain ⟨hM, hR, hH⟩ := id hI
  obtain ⟨hD, hw, hf, -, -⟩ := id hV
  have hM : mMD D σ := hM
  have hR : mR (σ 68) 0 p := hR
  have hD : DOK D := hD
  have hw : WP D p := hw
  have nb := nv_b hD
  unfold f_setL at hQ
  refine clX8_setLoad l G σ Q x1 x2 (sm_noR hD hM (fun q => ⟨fun _ => ?_, fun e => absurd rfl e⟩) (fun q => ⟨fun e => absurd e (by decide), fun _ => by rw [if_f q] at hQ; exact hQ σ hI frM_r⟩))
  rw [if_t q] at hQ
  have hr : 0 ≤ x1 ∧ x1 < D 10 1 := q
  refine sm_in (fun q1 => ⟨fun e => absurd e (by decide), fun _ => ?_⟩) (fun q1 => ⟨fun _ => by rw [if_f (show ¬ inL x2 from q1)] at hQ; exact hQ σ hI frM_r, fun e => absurd rfl e⟩)
  have q1 : inL x2 := q1
  rw [if_t q1] at hQ
  have e5 : σ 66 x1.toNat = D 5 x1.toNat := (hM.2.2.2 _ (by omega)).1
  rw [e5]
  have hM1 := mMD_load hM x1.toNat x2
  have hD1 := DOK_load hD x1.toNat q1
  have hw1 : WP (stS D 5 x1.toNat x2) p := WP_D hw (by simp [stS]) (Or.inl (by simp [stS]))
  have hR1 : mR (stS σ 66 x1.toNat x2 68) 0 p := hR
  refine ⟨by omega, sm_stays hD1 hM1 hw1 hR1 (r := x1.toNat) (by omega) (by omega) (fun s f ok => ⟨fun e => absurd e (by decide), fun _ y hy => ?_⟩) (fun s f ok => ⟨fun _ => ?_, fun e => absurd rfl e⟩)⟩
  · have fr : frM σ (stS s 56 22 y) := frM_st (frM_t (frM_st frM_r (by omega)) (frM_F f (by omega) (by omega))) (by omega)
    have hMs := mMD_22 (mMD_F hM1 f (by omega) A1_3) y
    by_cases c : x2 = D 5 x1.toNat
    · rw [if_pos c.symm] at hy
      have hQ := hQ (stS s 56 22 y)
      simp only [if_pos c] at hQ
      refine hQ ⟨?_, ?_, mH_keep hH ?_ ?_⟩ fr
      · rw [c, stS_self] at hMs; exact hMs
      · exact (mR_F hR1 f (by omega) : mR (s 68) 0 p)
      · rw [stS_eq, hy, f.2 22 A1_22]; rfl
      · show s 72 = σ 72
        rw [f.1 72 (by decide) (by omega)]; rfl
    · rw [if_neg (fun q => c q.symm)] at hy
      simp only [if_neg c] at hQ
      rw [if_t ok] at hQ
      exact hQ _ ⟨hMs, (mR_F hR1 f (by omega) : mR (s 68) 0 p), mH_nil (by rw [stS_eq]; exact hy)⟩ fr
  · by_cases c : x2 = D 5 x1.toNat
    · exfalso
      apply ok
      rw [c, stS_self]
      exact ok_of hw hf (by omega)
    · simp only [if_neg c] at hQ
      rw [if_f ok] at hQ
      have hM3 := mMD_load (mMD_F hM1 f (by omega) A1_3) x1.toNat (D 5 x1.toNat)
      rw [stS_back] at hM3
      refine hQ _ ⟨hM3, (mR_F hR1 f (by omega) : mR (s 68) 0 p), mH_keep hH ?_ ?_⟩ (frM_st (frM_t (frM_st frM_r (by omega)) (frM_F f (by omega) (by omega))) (by omega))
      · rw [stS_ne (by decide), f.2 22 A1_22]; rfl
      · show s 72 = σ 72
        rw [f.1 72 (by decide) (by omega)]; rfl
theorem m_setW {S : ST} (hV : Val S) {σ : Sto} (hI : InvM σ S) {x1 x2 x3 x4 : Int} {Q : Int → Sto → Prop} (hQ : ∀ σ', InvM σ' (f_setW S x1 x2 x3 x4).2 → frM σ σ' → Q (f_setW S x1 x2 x3 x4).1 σ') : CLi l G mX8_setWindow [vR 56, vI x1, vI x2, vI x3, vI x4] σ Q := by
  obtain ⟨D, p, hs⟩ := S
  obtain ⟨hM, hR, hH⟩ := id hI
  obtain ⟨hD, hw, hf, -, -⟩ := id hV
  have hM : mMD D σ := hM
  have hR : mR (σ 68) 0 p := hR
  have hD : DOK D := hD
  have hw : WP D p := hw
  have nb := nv_b hD
  unfold f_setW at hQ
  refine clX8_setWindow l G σ Q x1 x2 x3 x4 (sm_noR hD hM (fun q => ⟨fun _ => ?_, fun e => absurd rfl e⟩) (fun q => ⟨fun e => absurd e (by decide), fun _ => by rw [if_f q] at hQ; exact hQ σ hI frM_r⟩))
  rw [if_t q] at hQ
  have hr : 0 ≤ x1 ∧ x1 < D 10 1 := q
  refine sm_in (fun q1 => ⟨fun e => absurd e (by decide), fun _ => ?_⟩) (fun q1 => ⟨fun _ => by rw [if_f (show ¬ inW x3 x4 from fun z => q1 (by unfold inW at z; omega))] at hQ; exact hQ σ hI frM_r, fun e => absurd rfl e⟩)
  refine sm_in (fun q2 => ⟨fun e => absurd e (by decide), fun _ => ?_⟩) (fun q2 => ⟨fun _ => by rw [if_f (show ¬ inW x3 x4 from fun z => q2 (by unfold inW at z; omega))] at hQ; exact hQ σ hI frM_r, fun e => absurd rfl e⟩)
  have q1 : inW x3 x4 := ⟨q1.1, q2.1, q2.2⟩
  rw [if_t q1] at hQ
  refine ⟨by omega, fun y hy => ?_⟩
  have ey : (2 * x1 + (if x2 = 0 then 0 else 1)).toNat = (2 * x1 + y).toNat := by rw [hy]
  have yb : y = 0 ∨ y = 1 := by rw [hy]; split <;> simp
  rw [ey] at hQ
  have hy2 : (2 * x1 + y).toNat / 2 = x1.toNat ∧ (2 * x1 + y).toNat < 24 := by omega
  refine ⟨by omega, by omega, ?_⟩
  generalize hs2 : (2 * x1 + y).toNat = sn at hQ hy2 ⊢
  obtain ⟨hsr, hs24⟩ := hy2
  have e64 : σ 64 sn = D 3 sn := (hM.2.2.1 sn hs24).2.2.1
  have e65 : σ 65 sn = D 4 sn := (hM.2.2.1 sn hs24).2.2.2
  rw [e64, e65]
  simp only at hQ
  have hM1 := mMD_win hM sn x3 x4
  have hD1 := DOK_win hD sn q1
  have hw1 : WP (stS (stS D 3 sn x3) 4 sn x4) p := WP_D hw (by simp [stS]) (Or.inl (by simp [stS]))
  have eb : stS (stS (stS (stS D 3 sn x3) 4 sn x4) 3 sn (D 3 sn)) 4 sn (D 4 sn) = D := by
    funext a b
    unfold stS
    by_cases c1 : a = 4 ∧ b = sn
    · rw [if_pos c1, c1.1, c1.2]
    · rw [if_neg c1]
      by_cases c2 : a = 3 ∧ b = sn
      · rw [if_pos c2, c2.1, c2.2]
      · rw [if_neg c2, if_neg c1, if_neg c2]
  have es : x3 = D 3 sn ∧ x4 = D 4 sn → stS (stS D 3 sn x3) 4 sn x4 = D := fun c => by
    have : stS (stS D 3 sn x3) 4 sn x4 = stS (stS D 3 sn (D 3 sn)) 4 sn (D 4 sn) := by rw [← c.1, ← c.2]
    rw [this, stS_self, stS_self]
  have hR1 : mR (stS (stS σ 64 sn x3) 65 sn x4 68) 0 p := hR
  have fr0 : frM σ (stS (stS σ 64 sn x3) 65 sn x4) := frM_st (frM_st frM_r (by omega)) (by omega)
  have h22 : stS (stS σ 64 sn x3) 65 sn x4 56 22 = σ 56 22 := rfl
  have h72 : stS (stS σ 64 sn x3) 65 sn x4 72 = σ 72 := rfl
  generalize stS (stS σ 64 sn x3) 65 sn x4 = σ1 at *
  refine sm_stays hD1 hM1 hw1 hR1 (r := x1.toNat) (by omega) (by omega) (fun s f ok => ⟨fun e => absurd e (by decide), fun _ y23 h23 y29 h29 y34 h34 => ?_⟩) (fun s f ok => ⟨fun _ => ?_, fun e => absurd rfl e⟩)
  · have fr : frM σ (stS s 56 22 y29) := frM_st (frM_t fr0 (frM_F f (by omega) (by omega))) (by omega)
    have hMs := mMD_22 (mMD_F hM1 f (by omega) A1_3) y29
    by_cases c : x3 = D 3 sn ∧ x4 = D 4 sn
    · rw [if_pos c.1, if_pos c.2] at h23
      rw [if_pos h23] at h29 h34
      have hQ := hQ (stS s 56 22 y29)
      simp only [if_pos c] at hQ
      rw [h34]
      refine hQ ⟨?_, ?_, mH_keep hH ?_ ?_⟩ fr
      · rw [es c] at hMs; exact hMs
      · exact (mR_F hR1 f (by omega) : mR (s 68) 0 p)
      · rw [stS_eq, h29, f.2 22 A1_22]; exact h22
      · show s 72 = σ 72
        rw [f.1 72 (by decide) (by omega)]; exact h72
    · have h23' : y23 = 1 := by
        rw [h23]
        by_cases c1 : x3 = D 3 sn
        · rw [if_pos c1, if_neg (fun z => c ⟨c1, z⟩)]
        · rw [if_neg c1]
      rw [if_neg (by omega)] at h29 h34
      simp only [if_neg c] at hQ
      rw [if_t ok] at hQ
      rw [h34]
      exact hQ _ ⟨hMs, (mR_F hR1 f (by omega) : mR (s 68) 0 p), mH_nil (by rw [stS_eq]; exact h29)⟩ fr
  · by_cases c : x3 = D 3 sn ∧ x4 = D 4 sn
    · exfalso
      apply ok
      rw [es c]
      exact ok_of hw hf (by omega)
    · simp only [if_neg c] at hQ
      rw [if_f ok] at hQ
      have hM3 := mMD_win (mMD_F hM1 f (by omega) A1_3) sn (D 3 sn) (D 4 sn)
      rw [eb] at hM3
      refine hQ _ ⟨hM3, (mR_F hR1 f (by omega) : mR (s 68) 0 p), mH_keep hH ?_ ?_⟩ (frM_st (frM_st (frM_t fr0 (frM_F f (by omega) (by omega))) (by omega)) (by omega))
      · rw [stS_ne (by decide), stS_ne (by decide), f.2 22 A1_22]; exact h22
      · show s 72 = σ 72
        rw [f.1 72 (by decide) (by omega)]; exact h72
theorem m_setS {S : ST} (hV : Val S) {σ : Sto} (hI : InvM σ S) {x1 : Int} {Q : Int → Sto → Prop} (hQ : ∀ σ', InvM σ' (f_setS S x1).2 → frM σ σ' → Q (f_setS S x1).1 σ') : CLi l G mX8_setService [vR 56, vI x1] σ Q := by
  obtain ⟨D, p, hs⟩ := S
  obtain ⟨hM, hR, hH⟩ := id hI
  obtain ⟨hD, hw, hf, -, -⟩ := id hV
  have hM : mMD D σ := hM
  have hR : mR (σ 68) 0 p := hR
  have hD : DOK D := hD
  have hw : WP D p := hw
  have hf : FEP D p := hf
  have nb := nv_b hD
  unfold f_setS at hQ
  refine clX8_setService l G σ Q x1 (sm_in (fun q1 => ⟨fun e => absurd e (by decide), fun _ => ?_⟩) (fun q1 => ⟨fun _ => by rw [if_f q1] at hQ; exact hQ σ hI frM_r, fun e => absurd rfl e⟩))
  rw [if_t q1] at hQ
  rw [hM.1.1]
  have hM1 := mMD_srv hM x1
  have hD1 := DOK_srv hD q1
  have hw1 : WP (stS D 0 0 x1) p := WP_D hw (by simp [stS]) (Or.inl (by simp [stS]))
  have nvE : nvN (stS D 0 0 x1) = nvN D := by simp [nvN, stS]
  have hR1 : mR (stS σ 56 0 x1 68) 0 p := hR
  have h22 : stS σ 56 0 x1 56 22 = σ 56 22 := rfl
  have h72 : stS σ 56 0 x1 72 = σ 72 := rfl
  have fr0 : frM σ (stS σ 56 0 x1) := frM_st frM_r (by omega)
  generalize stS σ 56 0 x1 = σ1 at *
  have key : ∀ (m k : Nat) (x3 : Int) (s : Sto), k + m = nvN D → x3 = k → mF 69 70 A1 σ1 s → (∀ v, v < k → FE (stS D 0 0 x1) v (p.1 v) (p.2.1 v)) → MWi l G mX8_setService 26 [(0, vR 56), (1, vI x1), (2, vI (D 0 0)), (3, vI x3)] [] s Q := by
    intro m
    induction m with
    | zero =>
      intro k x3 s hm h3 f hA
      have hMs := mMD_F hM1 f (by omega) A1_3
      have e1 := hMs.1.2.1
      have e1' : stS D 0 0 x1 10 0 = D 10 0 := rfl
      have ok : FEP (stS D 0 0 x1) p := fun v hv => by
        by_cases c : v < k
        · exact hA v c
        · by_cases c2 : p.1 v = 0
          · rw [c2]; exact FE_0 hD1 hv _
          · have := (WP_lt hw hv (k := 0) (by omega)).2.2
            omega
      refine vcX8_setService_26 l G s Q x1 (D 0 0) x3 ⟨fun _ y hy => ?_, fun c => absurd (by omega) c⟩
      have fr : frM σ (stS s 56 22 y) := frM_st (frM_t fr0 (frM_F f (by omega) (by omega))) (by omega)
      have hMy := mMD_22 hMs y
      by_cases c : x1 = D 0 0
      · rw [if_pos c.symm] at hy
        have hQ := hQ (stS s 56 22 y)
        simp only [if_pos c] at hQ
        refine hQ ⟨?_, ?_, mH_keep hH ?_ ?_⟩ fr
        · rw [c, stS_self] at hMy; exact hMy
        · exact (mR_F hR1 f (by omega) : mR (s 68) 0 p)
        · rw [stS_eq, hy, f.2 22 A1_22]; exact h22
        · show s 72 = σ 72
          rw [f.1 72 (by decide) (by omega)]; exact h72
      · rw [if_neg (fun q => c q.symm)] at hy
        simp only [if_neg c] at hQ
        rw [if_t ok] at hQ
        exact hQ _ ⟨hMy, (mR_F hR1 f (by omega) : mR (s 68) 0 p), mH_nil (by rw [stS_eq]; exact hy)⟩ fr
    | succ m ih =>
      intro k x3 s hm h3 f hA
      have hMs := mMD_F hM1 f (by omega) A1_3
      have e1 := hMs.1.2.1
      have e1' : stS D 0 0 x1 10 0 = D 10 0 := rfl
      refine vcX8_setService_26 l G s Q x1 (D 0 0) x3 ⟨fun c => absurd c (by omega), fun _ => sm_rowF hD1 hMs hw1 ((mR_F hR1 f (by omega) : mR (s 68) 0 p)) (v := k) (by omega) h3 (fun s2 f2 hF => ⟨fun e => absurd e (by decide), fun _ => ⟨by omega, ih (k + 1) _ _ (by omega) (by omega) (mF_t f f2) (fun v hv => ?_)⟩⟩) (fun s2 f2 hF => ⟨fun _ => ?_, fun e => absurd rfl e⟩)⟩
      · by_cases c : v = k
        · subst c; exact hF
        · exact hA v (by omega)
      · have nok : ¬ FEP (stS D 0 0 x1) p := fun z => hF (z k (by omega))
        have f12 := mF_t f f2
        by_cases c : x1 = D 0 0
        · exfalso
          apply nok
          rw [c, stS_self]
          exact hf
        · simp only [if_neg c] at hQ
          rw [if_f nok] at hQ
          have hM3 := mMD_srv (mMD_F hM1 f12 (by omega) A1_3) (D 0 0)
          rw [stS_back] at hM3
          refine hQ _ ⟨hM3, (mR_F hR1 f12 (by omega) : mR (s2 68) 0 p), mH_keep hH ?_ ?_⟩ (frM_st (frM_t fr0 (frM_F f12 (by omega) (by omega))) (by omega))
          · rw [stS_ni (by decide), f12.2 22 A1_22]; exact h22
          · show s2 72 = σ 72
            rw [f12.1 72 (by decide) (by omega)]; exact h72
  exact key (nvN D) 0 0 σ1 (by omega) rfl mF_r (fun v hv => absurd hv (Nat.not_lt_zero _))
theorem m_addV {S : ST} (hV : Val S) {σ : Sto} (hI : InvM σ S) {x1 x2 x3 x4 x5 : Int} {Q : Int → Sto → Prop} (hQ : ∀ σ', InvM σ' (f_addV S x1 x2 x3 x4 x5).2 → frM σ σ' → Q (f_addV S x1 x2 x3 x4 x5).1 σ') : CLi l G mX8_addVehicle [vR 56, vI x1, vI x2, vI x3, vI x4, vI x5] σ Q := by
  obtain ⟨D, p, hs⟩ := S
  obtain ⟨hM, hR, hH⟩ := id hI
  obtain ⟨hD, hw, hf, -, -⟩ := id hV
  have hM : mMD D σ := hM
  have hR : mR (σ 68) 0 p := hR
  have hD : DOK D := hD
  have nb := nv_b hD
  unfold f_addV at hQ
  have no : ¬ (inP x1 x2 ∧ inL x3 ∧ inW x4 x5) → Q (-1002) σ := fun c => by rw [if_f c] at hQ; exact hQ σ hI frM_r
  refine clX8_addVehicle l G σ Q x1 x2 x3 x4 x5 (sm_place (fun q1 => ⟨fun e => absurd e (by decide), fun _ => ?_⟩) (fun q1 => ⟨fun _ => no (fun z => q1 z.1), fun e => absurd rfl e⟩))
  refine sm_in (fun q2 => ⟨fun e => absurd e (by decide), fun _ => ?_⟩) (fun q2 => ⟨fun _ => no (fun z => q2 z.2.1), fun e => absurd rfl e⟩)
  refine sm_in (fun q3 => ⟨fun e => absurd e (by decide), fun _ => ?_⟩) (fun q3 => ⟨fun _ => no (fun z => q3 (by have := z.2.2; unfold inW at this; omega)), fun e => absurd rfl e⟩)
  refine sm_in (fun q4 => ⟨fun e => absurd e (by decide), fun _ => ?_⟩) (fun q4 => ⟨fun _ => no (fun z => q4 (by have := z.2.2; unfold inW at this; omega)), fun e => absurd rfl e⟩)
  rw [if_t ⟨q1, q2, q3.1, q4⟩] at hQ
  rw [hM.1.2.1]
  have hQ := fun σ' => hQ σ'
  by_cases c : D 10 0 < 4
  · simp only [if_pos c] at hQ
    refine ⟨fun e => absurd e (by omega), fun _ => ⟨by omega, by omega, by omega, ?_⟩⟩
    rw [show D 10 0 + 1 - 1 = D 10 0 by omega, show (D 10 0).toNat = nvN D from rfl]
    refine hQ _ ⟨?_, ?_, mH_nil (by rw [stS_eq])⟩ (frM_st (frM_st (frM_st (frM_st (frM_st (frM_st (frM_st frM_r (by omega)) (by omega)) (by omega)) (by omega)) (by omega)) (by omega)) (by omega))
    · obtain ⟨a, b, c, d⟩ := hM
      refine ⟨?_, fun v hv => ?_, fun s hs => ?_, fun r hr => ?_⟩
      · simp [dAddV, stS]; exact ⟨a.1, a.2.2⟩
      · have := b v hv
        by_cases e : v = nvN D
        · subst e; simp [dAddV, stS]
        · have e2 : ¬ 24 + v = 24 + nvN D := by omega
          simp [dAddV, stS, e]; exact this
      · have := c s hs
        have e2 : ¬ s = 24 + nvN D := by omega
        simp [dAddV, stS, e2]; exact this
      · have := d r hr
        simp [dAddV, stS]; exact this
    · exact hR
  · simp only [if_neg c] at hQ
    exact ⟨fun _ => hQ σ hI frM_r, fun e => absurd (by omega) e⟩
theorem m_addR {S : ST} (hV : Val S) {σ : Sto} (hI : InvM σ S) {x1 x2 x3 x4 x5 x6 : Int} {Q : Int → Sto → Prop} (hQ : ∀ σ', InvM σ' (f_addR S x1 x2 x3 x4 x5 x6).2 → frM σ σ' → Q (f_addR S x1 x2 x3 x4 x5 x6).1 σ') : CLi l G mX8_addRequest [vR 56, vI x1, vI x2, vI x3, vI x4, vI x5, vI x6] σ Q := by
  obtain ⟨D, p, hs⟩ := S
  obtain ⟨hM, hR, hH⟩ := id hI
  obtain ⟨hD, hw, hf, -, -⟩ := id hV
  have hM : mMD D σ := hM
  have hR : mR (σ 68) 0 p := hR
  have hD : DOK D := hD
  have nb := nv_b hD
  unfold f_addR at hQ
  have no : ¬ (inP x1 x2 ∧ inP x3 x4 ∧ inL x5 ∧ inM x6) → Q (-1002) σ := fun c => by rw [if_f c] at hQ; exact hQ σ hI frM_r
  refine clX8_addRequest l G σ Q x1 x2 x3 x4 x5 x6 (sm_place (fun q1 => ⟨fun e => absurd e (by decide), fun _ => ?_⟩) (fun q1 => ⟨fun _ => no (fun z => q1 z.1), fun e => absurd rfl e⟩))
  refine sm_place (fun q2 => ⟨fun e => absurd e (by decide), fun _ => ?_⟩) (fun q2 => ⟨fun _ => no (fun z => q2 z.2.1), fun e => absurd rfl e⟩)
  refine sm_in (fun q3 => ⟨fun e => absurd e (by decide), fun _ => ?_⟩) (fun q3 => ⟨fun _ => no (fun z => q3 z.2.2.1), fun e => absurd rfl e⟩)
  refine sm_in (fun q4 => ⟨fun e => absurd e (by decide), fun _ => ?_⟩) (fun q4 => ⟨fun _ => no (fun z => q4 z.2.2.2), fun e => absurd rfl e⟩)
  rw [if_t ⟨q1, q2, q3, q4⟩] at hQ
  rw [hM.1.2.2]
  have hQ := fun σ' => hQ σ'
  by_cases c : D 10 1 < 12
  · simp only [if_pos c] at hQ
    refine ⟨fun e => absurd e (by omega), fun _ => ⟨by omega, by omega, by omega, by omega, ?_⟩⟩
    have n1 : (2 * D 10 1).toNat = 2 * nrN D := by omega
    have n2 : (2 * D 10 1 + 1).toNat = 2 * nrN D + 1 := by omega
    have n3 : (D 10 1).toNat = nrN D := rfl
    have hr : nrN D < 12 := by omega
    generalize hn : nrN D = n at *
    have e7 : σ 56 7 = (n : Int) := by have := hM.1.2.2; omega
    rw [n1, n2]
    refine vcX8_addRequest_106 l G _ Q x5 x6 _ _ ⟨by omega, fun e => absurd e (by omega), fun _ => ⟨by omega, by omega, ?_⟩⟩
    refine vcX8_addRequest_106 l G _ Q x5 x6 _ _ ⟨by omega, fun e => absurd e (by omega), fun _ => ⟨by omega, by omega, ?_⟩⟩
    refine vcX8_addRequest_106 l G _ Q x5 x6 _ _ ⟨by omega, fun _ => ?_, fun e => absurd (by omega) e⟩
    rw [n1, n2]
    generalize hX : stS (stS (stS (stS (stS (stS (stS (stS σ 62 (2 * n) x1) 63 (2 * n) x2) 62 (2 * n + 1) x3) 63 (2 * n + 1) x4) 64 (2 * n) 0) 65 (2 * n) 5000) 64 (2 * n + 1) 0) 65 (2 * n + 1) 5000 = X
    have eX : X 56 7 = (n : Int) := by rw [← hX]; exact e7
    rw [eX, Int.toNat_natCast]
    refine ⟨by omega, by omega, by omega, ?_⟩
    rw [show (n : Int) + 1 - 1 = D 10 1 by omega]
    have frX : frM σ X := by rw [← hX]; exact frM_st (frM_st (frM_st (frM_st (frM_st (frM_st (frM_st (frM_st frM_r (by omega)) (by omega)) (by omega)) (by omega)) (by omega)) (by omega)) (by omega)) (by omega)
    refine hQ _ ⟨?_, ?_, mH_nil (by rw [stS_eq])⟩ (frM_st (frM_st (frM_st (frM_st frX (by omega)) (by omega)) (by omega)) (by omega))
    · obtain ⟨a, b, c, d⟩ := hM
      rw [← hX]
      refine ⟨?_, fun v hv => ?_, fun s hs => ?_, fun r hr => ?_⟩
      · simp [dAddR, stS]; exact ⟨a.1, a.2.1, by omega⟩
      · have := b v hv
        have e1 : ¬ 24 + v = 2 * n := by omega
        have e2 : ¬ 24 + v = 2 * n + 1 := by omega
        simp [dAddR, stS, hn, e1, e2]; exact this
      · have := c s hs
        by_cases e1 : s = 2 * n
        · subst e1; simp [dAddR, stS, hn]
        · by_cases e2 : s = 2 * n + 1
          · subst e2; simp [dAddR, stS, hn]
          · simp [dAddR, stS, hn, e1, e2]; exact this
      · have := d r hr
        by_cases e1 : r = n
        · subst e1; simp [dAddR, stS, hn]
        · simp [dAddR, stS, hn, e1]; exact this
    · rw [← hX]; exact hR
  · simp only [if_neg c] at hQ
    exact ⟨fun _ => hQ σ hI frM_r, fun e => absurd (by omega) e⟩
end MODELF
