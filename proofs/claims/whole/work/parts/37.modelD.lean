theorem mF_68 {lo hi : Nat} {A : Nat → Prop} {σ σ' : Sto} (f : mF lo hi A σ σ') (hl : 69 ≤ lo) : σ' 68 = σ 68 := f.1 68 (by decide) (by omega)
theorem mR_F {lo hi : Nat} {A : Nat → Prop} {σ σ' : Sto} {p : PL} (h : mR (σ 68) 0 p) (f : mF lo hi A σ σ') (hl : 69 ≤ lo) : mR (σ' 68) 0 p := by rw [mF_68 f hl]; exact h
theorem A0_3 : A0 0 ∧ A0 1 ∧ A0 7 := ⟨trivial, trivial, trivial⟩
theorem A1_3 : A1 0 ∧ A1 1 ∧ A1 7 := by unfold A1; omega
theorem A2_3 : A2 0 ∧ A2 1 ∧ A2 7 := by unfold A2; omega
theorem A3_3 : A3 0 ∧ A3 1 ∧ A3 7 := by unfold A3; omega
theorem A_01 (i : Nat) (_ : A1 i) : A0 i := trivial
theorem A_02 (i : Nat) (_ : A2 i) : A0 i := trivial
theorem A_12 (i : Nat) (h : A2 i) : A1 i := h.1
theorem A_13 (i : Nat) (h : A3 i) : A1 i := h.1
theorem A_23 (i : Nat) (h : A3 i) : A2 i := ⟨h.1, h.2.1⟩
section MODELD
variable {l : Launch} {G : GT} {D : Sto}
theorem sm_takeWith {σ : Sto} {p : PL} (hR : mR (σ 68) 0 p) {v r i j : Nat} (hv : v < 4) (hr : r < 12) (hij : i < j) (hj : j < p.1 v + 2) (hn : p.1 v + 2 ≤ 24) {x1 x2 x3 x4 : Int} (h1 : x1 = v) (h2 : x2 = r) (h3 : x3 = i) (h4 : x4 = j) {Q : Sto → Prop} (hQ : ∀ σ', mF 69 69 A1 σ σ' → mT σ' (p.1 v + 2) (insT (p.2.1 v) r i j) → Q σ') : CLv l G mX8_takeWith [vR 56, vI x1, vI x2, vI x3, vI x4] σ Q := by
  obtain ⟨e1, e2⟩ := hR v hv
  have key : ∀ (m k : Nat) (x5 x6 : Int) (s : Sto), k + m = p.1 v + 2 → x6 = k → x5 = (kpt i j k : Nat) → mF 69 69 A1 σ s → s 56 15 = (p.1 v + 2 : Nat) → (∀ w, w < k → s 69 w = insT (p.2.1 v) r i j w) → MWv l G mX8_takeWith 21 [(0, vR 56), (1, vI x1), (2, vI x2), (3, vI x3), (4, vI x4), (5, vI x5), (6, vI x6)] [] s Q := by
    intro m
    induction m with
    | zero =>
      intro k x5 x6 s hm h6 h5 hf h15 hk
      exact vcX8_takeWith_21 l G s Q x1 x2 x3 x4 x5 x6 ⟨fun _ => hQ s hf ⟨h15, fun w hw => hk w (by omega)⟩, fun c => absurd (by omega) c⟩
    | succ m ih =>
      intro k x5 x6 s hm h6 h5 hf h15 hk
      have e6 : x6.toNat = k := by omega
      have nx : ∀ (z : Int) (x5' : Int), z = (insT (p.2.1 v) r i j k : Nat) → x5' = (kpt i j (k + 1) : Nat) → MWv l G mX8_takeWith 21 [(0, vR 56), (1, vI x1), (2, vI x2), (3, vI x3), (4, vI x4), (5, vI x5'), (6, vI (x6 + 1))] [] (stS s 69 k z) Q := by
        intro z x5' hz h5'
        refine ih (k + 1) _ _ _ (by omega) (by omega) h5' (mF_st hf (by decide) (by omega)) (by rw [stS_ne (by decide)]; exact h15) (fun w hw => ?_)
        by_cases c : w = k
        · subst c; rw [stS_eq, hz]
        · rw [stS_ni c]; exact hk w (by omega)
      have kp : kpt i j (k + 1) = if k = i then kpt i j k else if k = j then kpt i j k else kpt i j k + 1 := by
        unfold kpt
        by_cases c1 : k = i
        · rw [if_pos c1]; ((repeat' split) <;> omega)
        · rw [if_neg c1]
          by_cases c2 : k = j
          · rw [if_pos c2]; ((repeat' split) <;> omega)
          · rw [if_neg c2]; ((repeat' split) <;> omega)
      refine vcX8_takeWith_21 l G s Q x1 x2 x3 x4 x5 x6 ⟨fun c => absurd c (by omega), fun _ => ⟨fun c => ?_, fun c => ⟨fun d => ?_, fun d => ?_⟩⟩⟩
      · have ci : k = i := by omega
        refine ⟨by omega, fun y hy => ?_⟩
        rw [if_neg (by omega)] at hy
        rw [e6]
        refine ⟨by omega, by omega, by omega, nx _ _ ?_ (by rw [h5, kp, if_pos ci])⟩
        rw [ci, insT_i]; omega
      · have cj : k = j := by omega
        refine ⟨by omega, fun y hy => ?_⟩
        rw [if_pos d] at hy
        rw [e6]
        refine ⟨by omega, by omega, by omega, nx _ _ ?_ (by rw [h5, kp, if_neg (by omega), if_pos cj])⟩
        rw [cj, insT_j hij]; omega
      · have ci : k ≠ i := by omega
        have cj : k ≠ j := by omega
        have eo : kpt i j k = oi i j k := by unfold kpt oi; ((repeat' split) <;> omega)
        have ob := oi_b hij hj (by omega : k < p.1 v + 2) ci cj
        rw [e6, show (24 * x1 + x5).toNat = 0 + (24 * v + oi i j k) by omega, mF_at hf (by decide) (by omega), e2 _ ob]
        refine ⟨by omega, by omega, by omega, by omega, by omega, by omega, nx _ _ ?_ (by rw [kp, if_neg ci, if_neg cj]; omega)⟩
        rw [insT_o ci cj]
  refine clX8_takeWith l G σ Q x1 x2 x3 x4 ?_
  rw [show (96 + x1).toNat = 0 + (96 + v) by omega, e1]
  refine ⟨by omega, by omega, by omega, key (p.1 v + 2) 0 0 0 _ (by omega) rfl (by unfold kpt; simp) (mF_s6 mF_r (fun h => h rfl)) (by rw [stS_eq]; omega) (fun w hw => absurd hw (Nat.not_lt_zero _))⟩
theorem sm_lay {σ : Sto} {p p' : PL} (hR : mR (σ 68) 0 p) (hn : ∀ w, w < 4 → p.1 w ≤ 24) {v n : Nat} {t : Nat → Nat} (hv : v < 4) (hT : mT σ n t) (hn2 : n ≤ 24) (he : p'.1 v = n ∧ ∀ k, k < n → p'.2.1 v k = t k) (ho : ∀ w, w ≠ v → p'.1 w = p.1 w ∧ ∀ k, p'.2.1 w k = p.2.1 w k) {x1 : Int} (h1 : x1 = v) {Q : Sto → Prop} (hQ : ∀ σ', mF 68 68 A0 σ σ' → mR (σ' 68) 0 p' → Q σ') : CLv l G mX8_lay [vR 56, vI x1] σ Q := by
  obtain ⟨h15, h69⟩ := hT
  have key : ∀ (m k : Nat) (x2 : Int) (s : Sto), k + m = n → x2 = k → mF 68 68 A0 σ s → s 68 (0 + (96 + v)) = n → (∀ w, w < k → s 68 (0 + (24 * v + w)) = t w) → (∀ a, a ≠ 96 + v → (a < 24 * v ∨ 24 * v + k ≤ a) → s 68 a = σ 68 a) → MWv l G mX8_lay 15 [(0, vR 56), (1, vI x1), (2, vI x2)] [] s Q := by
    intro m
    induction m with
    | zero =>
      intro k x2 s hm h2 hf hs hk hu
      obtain rfl : k = n := by omega
      refine vcX8_lay_15 l G s Q x1 x2 ⟨fun _ => hQ s hf (fun w hw => ?_), fun c => absurd (by rw [hf.2 15 trivial]; omega) c⟩
      by_cases c : w = v
      · subst c
        exact ⟨by rw [hs, he.1], fun a ha => by rw [he.1] at ha; rw [hk a ha, he.2 a ha]⟩
      · obtain ⟨r1, r2⟩ := hR w hw
        obtain ⟨o1, o2⟩ := ho w c
        have := hn w hw
        refine ⟨by rw [hu _ (by omega) (by omega), r1, o1], fun a ha => ?_⟩
        rw [o1] at ha
        rw [hu _ (by omega) (by omega), r2 a ha, o2]
    | succ m ih =>
      intro k x2 s hm h2 hf hs hk hu
      have h15' := hf.2 15 trivial
      refine vcX8_lay_15 l G s Q x1 x2 ⟨fun c => absurd c (by omega), fun _ => ?_⟩
      rw [show x2.toNat = k by omega, show (24 * x1 + x2).toNat = 0 + (24 * v + k) by omega, mF_at hf (by decide) (by omega), h69 k (by omega)]
      refine ⟨by omega, by omega, by omega, by omega, by omega, ih (k + 1) _ _ (by omega) (by omega) (mF_st hf (by decide) (by omega)) (by rw [stS_ni (by omega)]; exact hs) (fun w hw => ?_) (fun a ha hb => by rw [stS_ni (by omega)]; exact hu a ha (by omega))⟩
      by_cases c : w = k
      · subst c; rw [stS_eq]
      · rw [stS_ni (by omega)]; exact hk w (by omega)
  refine clX8_lay l G σ Q x1 ?_
  rw [show (96 + x1).toNat = 0 + (96 + v) by omega]
  exact ⟨by omega, by omega, key n 0 0 _ (by omega) rfl (mF_st mF_r (by decide) (by omega)) (by rw [stS_eq]; exact h15) (fun w hw => absurd hw (Nat.not_lt_zero _)) (fun a ha hb => by rw [stS_ni (by omega)])⟩
theorem sm_takeOut (hD : DOK D) {σ : Sto} (hM : mMD D σ) {p : PL} (hw : WP D p) (hR : mR (σ 68) 0 p) {r : Nat} (hr : r < 12) (ha : p.2.2 r ≠ -1) {x1 : Int} (h1 : x1 = r) {Q : Sto → Prop} (hQ : ∀ σ', mF 68 69 A1 σ σ' → mR (σ' 68) 0 (ptk p r) → Q σ') : CLv l G mX8_takeOut [vR 56, vI x1] σ Q := by
  obtain ⟨v, i, j, hv, hv2, ev, hij, hj, g1, g2, et, hn2⟩ := WP_tk0 hw hr ha
  have hrw := hw.1 v hv
  have n24 := hrw.1
  rw [et] at hQ
  refine clX8_takeOut l G σ Q x1 (sm_vOf hD hM hw hR hr h1 (sm_take hR hv n24 ev (fun s1 f1 hT => ?_)))
  have iff2 : ∀ k, k < p.1 v → (p.2.1 v k / 2 = r ↔ k = i ∨ k = j) := by
    intro k hk
    constructor
    · intro q
      by_cases c : p.2.1 v k % 2 = 0
      · exact Or.inl (hrw.2.2.1 k i hk (by omega) (by omega))
      · exact Or.inr (hrw.2.2.1 k j hk hj (by omega))
    · rintro (rfl | rfl) <;> omega
  have key : ∀ (m k : Nat) (x3 x4 : Int) (s : Sto), k + m = p.1 v → x4 = k → x3 = (kpt i j k : Nat) → mF 69 69 A1 σ s → s 56 15 = (p.1 v : Nat) → (∀ w, w < kpt i j k → s 69 w = rmT (p.2.1 v) i j w) → (∀ w, k ≤ w → w < p.1 v → s 69 w = p.2.1 v w) → MWv l G mX8_takeOut 16 [(0, vR 56), (1, vI x1), (2, vI (p.2.2 r)), (3, vI x3), (4, vI x4)] [] s Q := by
    intro m
    induction m with
    | zero =>
      intro k x3 x4 s hm h4 h3 hf h15 hk hu
      obtain rfl : k = p.1 v := by omega
      have ek : kpt i j (p.1 v) = p.1 v - 2 := by unfold kpt; rw [if_pos (by omega), if_pos (by omega)]; omega
      refine vcX8_takeOut_16 l G s Q x1 (p.2.2 r) x3 x4 ⟨fun _ => ?_, fun c => absurd (by omega) c⟩
      have hf2 : mF 69 69 A1 σ (stS s 56 15 x3) := mF_s6 hf (fun h => h rfl)
      refine sm_lay (p' := ptk0 p r v i j) (mR_F hR hf2 (by omega)) (fun w hw2 => (hw.1 w hw2).1) (n := p.1 v - 2) (t := rmT (p.2.1 v) i j) hv ⟨by rw [stS_eq, h3, ek], fun k hk2 => by rw [stS_ne (by decide)]; exact hk k (by omega)⟩ (by omega) ⟨?_, fun k _ => ?_⟩ (fun w hwv => ⟨?_, fun k => ?_⟩) ev (fun s' f' hR' => hQ s' (mF_t (mF_w hf2 (by omega) (by omega) (fun _ h => h)) (mF_w f' (by omega) (by omega) (fun _ _ => trivial))) hR')
      · show (if v = v then p.1 v - 2 else _) = _
        rw [if_pos rfl]
      · show (if v = v then rmT (p.2.1 v) i j else _) k = _
        rw [if_pos rfl]
      · show (if w = v then p.1 v - 2 else p.1 w) = _
        rw [if_neg hwv]
      · show (if w = v then rmT (p.2.1 v) i j else p.2.1 w) k = _
        rw [if_neg hwv]
    | succ m ih =>
      intro k x3 x4 s hm h4 h3 hf h15 hk hu
      have kle : kpt i j k ≤ k := by unfold kpt; omega
      have tk := hrw.2.1 k (by omega)
      refine vcX8_takeOut_16 l G s Q x1 (p.2.2 r) x3 x4 ⟨fun c => absurd c (by omega), fun _ => ?_⟩
      have e69 : stS s 69 (kpt i j k) (p.2.1 v k) 69 k = p.2.1 v k := by
        by_cases c : k = kpt i j k
        · rw [← c, stS_eq]
        · rw [stS_ni c, hu k (Nat.le_refl _) (by omega)]
      rw [show x4.toNat = k by omega, show x3.toNat = kpt i j k by omega, hu k (Nat.le_refl _) (by omega), e69]
      refine ⟨by omega, by omega, by omega, fun y hy => ⟨by rw [hy]; split <;> omega, by omega, ih (k + 1) _ _ _ (by omega) (by omega) ?_ (mF_st hf (by decide) (by omega)) (by rw [stS_ne (by decide)]; exact h15) (fun w hw2 => ?_) (fun w h1 h2 => by rw [stS_ni (by omega)]; exact hu w (by omega) h2)⟩⟩
      · rw [hy, h3]
        by_cases c : p.2.1 v k / 2 = r
        · rw [if_pos (by omega)]
          have := (iff2 k (by omega)).mp c
          unfold kpt
          ((repeat' split) <;> omega)
        · rw [if_neg (by omega)]
          have : ¬ (k = i ∨ k = j) := fun q => c ((iff2 k (by omega)).mpr q)
          unfold kpt
          ((repeat' split) <;> omega)
      · by_cases c : k = i ∨ k = j
        · have : kpt i j (k + 1) = kpt i j k := by unfold kpt; ((repeat' split) <;> omega)
          rw [this] at hw2
          rw [stS_ni (by omega)]; exact hk w hw2
        · have ek : kpt i j (k + 1) = kpt i j k + 1 := by unfold kpt; ((repeat' split) <;> omega)
          rw [ek] at hw2
          by_cases d : w = kpt i j k
          · subst d
            rw [stS_eq]
            have : kpt i j k = oi i j k := by unfold kpt oi; ((repeat' split) <;> omega)
            unfold rmT
            rw [this, ni_oi hij k (fun q => c (Or.inl q)) (fun q => c (Or.inr q))]
          · rw [stS_ni d]; exact hk w (by omega)
  exact key (p.1 v) 0 0 0 s1 (by omega) rfl (by unfold kpt; simp) f1 hT.1 (fun w hw2 => absurd hw2 (by unfold kpt; omega)) (fun w _ h2 => hT.2 w h2)
theorem sm_lenR (hD : DOK D) {σ : Sto} (hM : mMD D σ) {p : PL} (hw : WP D p) (hR : mR (σ 68) 0 p) {v : Nat} (hv : v < 4) {x1 : Int} (h1 : x1 = v) {Q : Int → Sto → Prop} (hQ : ∀ σ', mF 69 69 A1 σ σ' → Q (rl D v (p.1 v) (p.2.1 v)) σ') : CLi l G mX8_lengthOfRow [vR 56, vI x1] σ Q :=
  clX8_lengthOfRow l G σ Q x1 (sm_take hR hv (hw.1 v hv).1 h1 (fun s f hT => sm_len hD (mMD_F hM f (by omega) A1_3) hv (hw.1 v hv) hT h1 (hQ s f)))
theorem sm_total (hD : DOK D) {σ : Sto} (hM : mMD D σ) {p : PL} (hw : WP D p) (hR : mR (σ 68) 0 p) {Q : Int → Sto → Prop} (hQ : ∀ σ', mF 69 69 A1 σ σ' → Q (tl D p) σ') : CLi l G mX8_total [vR 56] σ Q := by
  have nb := nv_b hD
  have key : ∀ (m k : Nat) (x1 x2 : Int) (s : Sto), k + m = nvN D → x2 = k → x1 = ptot D p k → mF 69 69 A1 σ s → MWi l G mX8_total 4 [(0, vR 56), (1, vI x1), (2, vI x2)] [] s Q := by
    intro m
    induction m with
    | zero =>
      intro k x1 x2 s hm h2 h1 hf
      have e1 := hf.2 1 A1_3.2.1
      have := hM.1.2.1
      refine vcX8_total_4 l G s Q x1 x2 ⟨fun _ => ?_, fun c => absurd (by omega) c⟩
      rw [h1, show k = nvN D by omega]; exact hQ s hf
    | succ m ih =>
      intro k x1 x2 s hm h2 h1 hf
      have e1 := hf.2 1 A1_3.2.1
      have := hM.1.2.1
      have b := ptot_b hD hw k (by omega)
      have c := rl_b hD (v := k) (by omega) (hw.1 k (by omega))
      refine vcX8_total_4 l G s Q x1 x2 ⟨fun c => absurd c (by omega), fun _ => sm_take (mR_F hR hf (by omega)) (by omega) (hw.1 k (by omega)).1 h2 (fun s2 f2 hT => sm_len hD (mMD_F hM (mF_t hf f2) (by omega) A1_3) (by omega) (hw.1 k (by omega)) hT h2 ⟨by omega, by omega, ih (k + 1) _ _ _ (by omega) (by omega) ?_ (mF_t hf f2)⟩)⟩
      rw [h1]; rfl
  exact clX8_total l G σ Q (key (nvN D) 0 0 0 σ (by omega) rfl rfl mF_r)
theorem sm_rowF (hD : DOK D) {σ : Sto} (hM : mMD D σ) {p : PL} (hw : WP D p) (hR : mR (σ 68) 0 p) {v : Nat} (hv : v < 4) {x1 : Int} (h1 : x1 = v) {Q : Int → Sto → Prop} (g1 : ∀ σ', mF 69 70 A1 σ σ' → FE D v (p.1 v) (p.2.1 v) → Q 1 σ') (g0 : ∀ σ', mF 69 70 A1 σ σ' → ¬ FE D v (p.1 v) (p.2.1 v) → Q 0 σ') : CLi l G mX8_isRowFeasible [vR 56, vI x1] σ Q :=
  clX8_isRowFeasible l G σ Q x1 (sm_take hR hv (hw.1 v hv).1 h1 (fun s f hT => sm_feas hD hv (hw.1 v hv) (mMD_F hM f (by omega) A1_3) hT h1
    (fun s2 f2 hF => ⟨Or.inr rfl, g1 s2 (mF_t (mF_w f (by omega) (by omega) (fun _ h => h)) (mF_w f2 (by omega) (by omega) (fun _ _ => trivial))) hF⟩)
    (fun s2 f2 hF => ⟨Or.inl rfl, g0 s2 (mF_t (mF_w f (by omega) (by omega) (fun _ h => h)) (mF_w f2 (by omega) (by omega) (fun _ _ => trivial))) hF⟩)))
theorem sm_stays (hD : DOK D) {σ : Sto} (hM : mMD D σ) {p : PL} (hw : WP D p) (hR : mR (σ 68) 0 p) {r : Nat} (hr : r < 12) {x1 : Int} (h1 : x1 = r) {Q : Int → Sto → Prop} (g1 : ∀ σ', mF 69 70 A1 σ σ' → okR D p r → Q 1 σ') (g0 : ∀ σ', mF 69 70 A1 σ σ' → ¬ okR D p r → Q 0 σ') : CLi l G mX8_staysFeasible [vR 56, vI x1] σ Q := by
  refine clX8_staysFeasible l G σ Q x1 (sm_vOf hD hM hw hR hr h1 ⟨fun c => g1 σ mF_r (Or.inl ?_), fun c => ?_⟩)
  · rcases hw.2.2.1 r hr with q | ⟨v, a, b, e, -⟩
    · exact q
    · omega
  · rcases hw.2.2.1 r hr with q | ⟨v, a, b, e, -⟩
    · omega
    · refine sm_rowF hD hM hw hR a e (fun s f hF y hy => ?_) (fun s f hF y hy => ?_)
      · rw [hy, if_neg (by decide)]
        exact g1 s f (Or.inr (by rw [e, Int.toNat_natCast]; exact hF))
      · rw [hy, if_pos rfl]
        refine g0 s f (fun q => ?_)
        rcases q with q | q
        · omega
        · rw [e, Int.toNat_natCast] at q; exact hF q
theorem sm_sched (hD : DOK D) {σ : Sto} (hM : mMD D σ) {p : PL} (hw : WP D p) (hR : mR (σ 68) 0 p) {v : Nat} (hv : v < 4) (hf : FE D v (p.1 v) (p.2.1 v)) {x1 : Int} (h1 : x1 = v) {Q : Sto → Prop} (hQ : ∀ σ', mF 69 71 A1 σ σ' → mT σ' (p.1 v) (p.2.1 v) → isE D v (p.1 v) (p.2.1 v) (σ' 70) → isL D v (p.1 v) (p.2.1 v) (σ' 71) → Q σ') : CLv l G mX8_schedule [vR 56, vI x1] σ Q := by
  refine clX8_schedule l G σ Q x1 (sm_take hR hv (hw.1 v hv).1 h1 (fun s f hT => ?_))
  have hM1 := mMD_F hM f (by omega) A1_3
  refine sm_early hD hv (hw.1 v hv) hM1 hT h1 (fun s2 f2 hE => ?_) (fun s2 f2 hN => absurd hf.2 hN)
  have hM2 := mMD_F hM1 f2 (by omega) ⟨trivial, trivial, trivial⟩
  have hT2 := mT_F hT f2 (by omega)
  refine sm_late hD hv (hw.1 v hv) hf.2 hM2 hT2 h1 (fun s3 f3 hL => hQ s3 ?_ (mT_F hT2 f3 (by omega)) ?_ hL)
  · exact mF_t (mF_w f (by omega) (by omega) (fun _ h => h)) (mF_t (mF_w f2 (by omega) (by omega) (fun _ _ => trivial)) (mF_w f3 (by omega) (by omega) (fun _ _ => trivial)))
  · rw [f3.1 70 (by decide) (by omega)]; exact hE
end MODELD
