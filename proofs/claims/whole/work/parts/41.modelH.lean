def A22 (i : Nat) : Prop := i ≠ 22
theorem A22_3 : A22 0 ∧ A22 1 ∧ A22 7 := by unfold A22; omega
theorem mR_c {ρ ρ' : Nat → Int} {o o' : Nat} {p : PL} (h : mR ρ o p) (hn : ∀ w, w < 4 → p.1 w ≤ 24) (e : ∀ a, a < 100 → ρ' (o' + a) = ρ (o + a)) : mR ρ' o' p := by
  intro v hv
  obtain ⟨h1, h2⟩ := h v hv
  have := hn v hv
  exact ⟨by rw [e _ (by omega)]; exact h1, fun k hk => by rw [e _ (by omega)]; exact h2 k hk⟩
def SZ (p : PL) : Prop := ∀ w, w < 4 → p.1 w ≤ 24
theorem SZ_w {D : Sto} {p : PL} (h : WP D p) : SZ p := fun w hw => (h.1 w hw).1
section MODELH
variable {l : Launch} {G : GT}
theorem sm_aside {σ : Sto} {p : PL} (hR : mR (σ 68) 0 p) (hn : SZ p) {Q : Sto → Prop} (hQ : ∀ σ', mF 73 73 A0 σ σ' → mR (σ' 73) 0 p → Q σ') : CLv l G mX8_putAside [vR 56] σ Q := by
  have key : ∀ (m k : Nat) (x1 : Int) (s : Sto), k + m = 100 → x1 = k → mF 73 73 A0 σ s → (∀ a, a < k → s 73 a = σ 68 a) → MWv l G mX8_putAside 2 [(0, vR 56), (1, vI x1)] [] s Q := by
    intro m
    induction m with
    | zero =>
      intro k x1 s hm h1 f hk
      exact vcX8_putAside_2 l G s Q x1 ⟨fun _ => hQ s f (mR_c hR hn (fun a ha => by rw [Nat.zero_add]; exact hk a (by omega))), fun c => absurd (by omega) c⟩
    | succ m ih =>
      intro k x1 s hm h1 f hk
      refine vcX8_putAside_2 l G s Q x1 ⟨fun c => absurd c (by omega), fun _ => ⟨by omega, by omega, ih (k + 1) _ _ (by omega) (by omega) (mF_st f (by decide) (by omega)) (fun a ha => ?_)⟩⟩
      rw [show x1.toNat = k by omega, mF_at f (by decide) (by omega)]
      by_cases c : a = k
      · subst c; rw [stS_eq]
      · rw [stS_ni c]; exact hk a (by omega)
  exact clX8_putAside l G σ Q (key 100 0 0 σ (by omega) rfl mF_r (fun a ha => absurd ha (Nat.not_lt_zero _)))
theorem sm_back {σ : Sto} {p : PL} (hR : mR (σ 73) 0 p) (hn : SZ p) {Q : Sto → Prop} (hQ : ∀ σ', mF 68 68 A0 σ σ' → mR (σ' 68) 0 p → Q σ') : CLv l G mX8_takeBack [vR 56] σ Q := by
  have key : ∀ (m k : Nat) (x1 : Int) (s : Sto), k + m = 100 → x1 = k → mF 68 68 A0 σ s → (∀ a, a < k → s 68 a = σ 73 a) → MWv l G mX8_takeBack 2 [(0, vR 56), (1, vI x1)] [] s Q := by
    intro m
    induction m with
    | zero =>
      intro k x1 s hm h1 f hk
      exact vcX8_takeBack_2 l G s Q x1 ⟨fun _ => hQ s f (mR_c hR hn (fun a ha => by rw [Nat.zero_add]; exact hk a (by omega))), fun c => absurd (by omega) c⟩
    | succ m ih =>
      intro k x1 s hm h1 f hk
      refine vcX8_takeBack_2 l G s Q x1 ⟨fun c => absurd c (by omega), fun _ => ⟨by omega, by omega, ih (k + 1) _ _ (by omega) (by omega) (mF_st f (by decide) (by omega)) (fun a ha => ?_)⟩⟩
      rw [show x1.toNat = k by omega, mF_at f (by decide) (by omega)]
      by_cases c : a = k
      · subst c; rw [stS_eq]
      · rw [stS_ni c]; exact hk a (by omega)
  exact clX8_takeBack l G σ Q (key 100 0 0 σ (by omega) rfl mF_r (fun a ha => absurd ha (Nat.not_lt_zero _)))
theorem sm_keep {σ : Sto} {hs : List PL} (hH : mH σ hs) (hl : hs.length ≤ 10) (hz : ∀ h, h ∈ hs → SZ h) {p : PL} (hR : mR (σ 73) 0 p) (hn : SZ p) {Q : Sto → Prop} (hQ : ∀ σ', mF 72 72 A22 σ σ' → mH σ' (recH hs p) → Q σ') : CLv l G mX8_keep [vR 56] σ Q := by
  have fin : ∀ (s0 : Sto) (hs' : List PL), mF 72 72 A22 σ s0 → mH s0 hs' → hs'.length < 10 → (∀ h, h ∈ hs' → SZ h) → recH hs p = hs' ++ [p] → MWv l G mX8_keep 55 [(0, vR 56), (1, vI 0)] [] s0 Q := by
    intro s0 hs' f0 h0 hl' hz' er
    have key : ∀ (m k : Nat) (x1 : Int) (s : Sto), k + m = 100 → x1 = k → mF 72 72 A0 s0 s → (∀ a, a < k → s 72 (100 * hs'.length + a) = s0 73 a) → (∀ a, a < 100 * hs'.length → s 72 a = s0 72 a) → MWv l G mX8_keep 55 [(0, vR 56), (1, vI x1)] [] s Q := by
      intro m
      induction m with
      | zero =>
        intro k x1 s hm h1 f hk hu
        have e22 := f.2 22 trivial
        have e22' := h0.1
        refine vcX8_keep_55 l G s Q x1 ⟨fun _ => ⟨by omega, hQ _ (mF_s6 (mF_t f0 (mF_w f (Nat.le_refl _) (Nat.le_refl _) (fun _ _ => trivial))) (fun z => z rfl)) ⟨?_, fun i x hx => ?_⟩⟩, fun c => absurd (by omega) c⟩
        · rw [stS_eq, er, List.length_append, List.length_singleton, e22, e22']; omega
        · show mR (s 72) (100 * i) x
          rw [er] at hx
          by_cases c : i < hs'.length
          · rw [List.getElem?_append_left c] at hx
            refine mR_c (h0.2 i x hx) (hz' x (List.mem_of_getElem? hx)) (fun a ha => hu _ (by omega))
          · have hi : i = hs'.length := by
              have := (List.getElem?_eq_some_iff.mp hx).1
              rw [List.length_append, List.length_singleton] at this
              omega
            rw [List.getElem?_append_right (by omega), hi, Nat.sub_self] at hx
            cases hx
            rw [hi]
            refine mR_c hR hn (fun a ha => ?_)
            rw [hk a (by omega), Nat.zero_add]
            exact mF_at f0 (by decide) (by omega) a
      | succ m ih =>
        intro k x1 s hm h1 f hk hu
        have e22 := f.2 22 trivial
        have e22' := h0.1
        refine vcX8_keep_55 l G s Q x1 ⟨fun c => absurd c (by omega), fun _ => ?_⟩
        rw [show x1.toNat = k by omega, show (100 * s 56 22 + x1).toNat = 100 * hs'.length + k by omega, show s 73 k = s0 73 k from mF_at f (by decide) (by omega) k]
        refine ⟨by omega, by omega, by omega, by omega, by omega, ih (k + 1) _ _ (by omega) (by omega) (mF_st f (by decide) (by omega)) (fun a ha => ?_) (fun a ha => by rw [stS_ni (by omega)]; exact hu a ha)⟩
        by_cases c : a = k
        · subst c; rw [stS_eq]
        · rw [stS_ni (by omega)]; exact hk a (by omega)
    exact key 100 0 0 s0 (by omega) rfl mF_r (fun a ha => absurd ha (Nat.not_lt_zero _)) (fun a ha => rfl)
  have e22 := hH.1
  refine clX8_keep l G σ Q ⟨fun c => ⟨by omega, ?_⟩, fun c => ?_⟩
  · have hl10 : hs.length = 10 := by omega
    have f0 : mF 72 72 A22 σ (stS σ 56 22 (σ 56 22 - 1)) := mF_s6 mF_r (fun z => z rfl)
    have e9 : stS σ 56 22 (σ 56 22 - 1) 56 22 = 9 := by rw [stS_eq]; omega
    have key : ∀ (m k : Nat) (x1 : Int) (s : Sto), k + m = 900 → x1 = k → mF 72 72 A22 σ s → s 56 22 = 9 → (∀ a, a < k → s 72 a = σ 72 (a + 100)) → (∀ a, k ≤ a → s 72 a = σ 72 a) → MWv l G mX8_keep 21 [(0, vR 56), (1, vI x1)] [] s Q := by
      intro m
      induction m with
      | zero =>
        intro k x1 s hm h1 f h9 hk hu
        refine vcX8_keep_21 l G s Q x1 ⟨by omega, fun _ => ?_, fun c => absurd (by omega) c⟩
        refine fin s hs.tail f ⟨by rw [List.length_tail, h9]; omega, fun i x hx => ?_⟩ (by rw [List.length_tail]; omega) (fun h hh => hz h (List.mem_of_mem_tail hh)) (by unfold recH; rw [if_pos hl10])
        have hi := (List.getElem?_eq_some_iff.mp hx).1
        rw [List.length_tail] at hi
        rw [List.getElem?_tail] at hx
        refine mR_c (hH.2 (i + 1) x hx) (hz x (List.mem_of_getElem? hx)) (fun a ha => ?_)
        rw [hk _ (by omega)]
        rw [show 100 * i + a + 100 = 100 * (i + 1) + a by omega]
      | succ m ih =>
        intro k x1 s hm h1 f h9 hk hu
        refine vcX8_keep_21 l G s Q x1 ⟨by omega, fun c => absurd c (by omega), fun _ => ?_⟩
        rw [show x1.toNat = k by omega, show (x1 + 100).toNat = k + 100 by omega, hu (k + 100) (by omega)]
        refine ⟨by omega, by omega, by omega, by omega, ih (k + 1) _ _ (by omega) (by omega) (mF_st f (by decide) (by omega)) (by rw [stS_ne (by decide)]; exact h9) (fun a ha => ?_) (fun a ha => by rw [stS_ni (by omega)]; exact hu a (by omega))⟩
        by_cases c : a = k
        · subst c; rw [stS_eq]
        · rw [stS_ni c]; exact hk a (by omega)
    exact key 900 0 0 _ (by omega) rfl f0 e9 (fun a ha => absurd ha (Nat.not_lt_zero _)) (fun a ha => by rw [stS_ne (by decide)])
  · exact fin σ hs mF_r hH (by omega) hz (by unfold recH; rw [if_neg (by omega)])
theorem SZ_h {S : ST} (hV : Val S) : ∀ h, h ∈ S.2.2 → SZ h := fun h hh => SZ_w (hV.2.2.2.1 h hh).1
theorem op_of {D : Sto} {p : PL} (hw : WP D p) {r : Nat} (hr : r < 12) (c : p.2.2 r < 0) : p.2.2 r = -1 := by
  rcases hw.2.2.1 r hr with q | ⟨v, a, b', e, -⟩
  · exact q
  · omega
theorem as_of {D : Sto} {p : PL} (hw : WP D p) {r : Nat} (hr : r < 12) (c : ¬ p.2.2 r = -1) : 0 ≤ p.2.2 r ∧ p.2.2 r < 4 ∧ p.2.2 r < D 10 0 := by
  rcases hw.2.2.1 r hr with q | ⟨v, a, b', e, -⟩
  · exact absurd q c
  · omega
theorem sm_obar {S : ST} (hV : Val S) {σ : Sto} (hI : InvM σ S) {x1 : Int} {Q : Int → Sto → Prop} (h0 : f_oe S x1 = 0 → isRq S.1 x1 → S.2.1.2.2 x1.toNat = -1 → Q 0 σ) (h1 : f_oe S x1 < 0 → Q (f_oe S x1) σ) : CLi l G mX8_openBarred [vR 56, vI x1] σ Q := by
  obtain ⟨hM, hR, hH⟩ := id hI
  obtain ⟨hD, hw, hf, -, -⟩ := id hV
  have nb := nv_b hD
  unfold f_oe at h0 h1
  refine clX8_openBarred l G σ Q x1 (sm_noR hD hM (fun q => ⟨fun _ => ?_, fun e => absurd rfl e⟩) (fun q => ⟨fun e => absurd e (by decide), fun _ => by rw [if_f q] at h1; exact h1 (by decide)⟩))
  rw [if_t q] at h0 h1
  have hr : 0 ≤ x1 ∧ x1 < S.1 10 1 := q
  refine sm_vOf hD hM hw hR (r := x1.toNat) (by omega) (by omega) (fun y hy => ?_)
  by_cases c : S.2.1.2.2 x1.toNat = -1
  · rw [if_pos (by omega)] at hy
    rw [hy]; exact h0 (if_pos c) q c
  · have := as_of hw (r := x1.toNat) (by omega) c
    rw [if_neg (by omega)] at hy
    rw [if_neg c] at h1
    rw [hy]; exact h1 (by decide)
theorem m_ins {S : ST} (hV : Val S) {σ : Sto} (hI : InvM σ S) {x1 x2 x3 x4 : Int} {Q : Int → Sto → Prop} (hQ : ∀ σ', InvM σ' (f_ins S x1 x2 x3 x4).2 → frM σ σ' → Q (f_ins S x1 x2 x3 x4).1 σ') : CLi l G mX8_insert [vR 56, vI x1, vI x2, vI x3, vI x4] σ Q := by
  obtain ⟨hM, hR, hH⟩ := id hI
  obtain ⟨hD, hw, hf, -, hl⟩ := id hV
  have nb := nv_b hD
  unfold f_ins at hQ
  refine clX8_insert l G σ Q x1 x2 x3 x4 (sm_ibar hV hI (fun s f e0 q1 q2 q3 ho hT => ⟨fun _ => ?_, fun c => absurd (by decide) c⟩) (fun s f e0 => ⟨fun c => absurd c (by omega), fun _ => ?_⟩))
  · rw [if_pos e0] at hQ
    have hr : 0 ≤ x1 ∧ x1 < S.1 10 1 := q1
    have hv : 0 ≤ x2 ∧ x2 < S.1 10 0 := q2
    have hv4 : x2.toNat < 4 := by omega
    have v1 : x2 = x2.toNat := by omega
    have hr12 : x1.toNat < 12 := by omega
    have r1 : x1 = x1.toNat := by omega
    have hrw := hw.1 _ hv4
    have hij : x3.toNat < x4.toNat := by omega
    have hj : x4.toNat < S.2.1.1 x2.toNat + 2 := by omega
    have room := RW_room hrw hr12 (WP_open hw ho hv4)
    have hwi := RW_ins hrw hr12 (WP_open hw ho hv4) hij hj
    have e := rl_ins S.1 (v := x2.toNat) (t := S.2.1.2.1 x2.toNat) (r := x1.toNat) hij hj
    have b1 := rl_b hD hv4 hwi
    have b2 := rl_b hD hv4 hrw
    have i1 := InvM_1 hI f (by omega) (by omega)
    refine sm_lenR hD i1.1 hw i1.2.1 hv4 v1 (fun s2 f2 => ?_)
    have i2 := InvM_1 i1 f2 (by omega) (by omega)
    refine sm_aside i2.2.1 (SZ_w hw) (fun s3 f3 a3 => ?_)
    have h3 : mH s3 S.2.2 := mH_keep i2.2.2 (f3.2 22 trivial) (f3.1 72 (by decide) (by omega))
    refine sm_keep h3 hl (SZ_h hV) a3 (SZ_w hw) (fun s4 f4 h4 => ?_)
    have M4 := mMD_F (mMD_F i2.1 f3 (by omega) A0_3) f4 (by omega) A22_3
    have R4 : mR (s4 68) 0 S.2.1 := mR_F (mR_F i2.2.1 f3 (by omega)) f4 (by omega)
    refine sm_takeWith R4 hv4 hr12 hij hj room v1 r1 (by omega) (by omega) (fun s5 f5 T5 => ?_)
    refine sm_lay (p' := pput S.2.1 x1.toNat x2.toNat x3.toNat x4.toNat) (mR_F R4 f5 (by omega)) (SZ_w hw) hv4 T5 room ⟨?_, fun k _ => ?_⟩ (fun u hu => ⟨?_, fun k => ?_⟩) v1 (fun s6 f6 R6 => ?_)
    · show (if x2.toNat = x2.toNat then S.2.1.1 x2.toNat + 2 else _) = _
      rw [if_pos rfl]
    · show (if x2.toNat = x2.toNat then insT (S.2.1.2.1 x2.toNat) x1.toNat x3.toNat x4.toNat else _) k = _
      rw [if_pos rfl]
    · show (if u = x2.toNat then S.2.1.1 x2.toNat + 2 else S.2.1.1 u) = _
      rw [if_neg hu]
    · show (if u = x2.toNat then insT (S.2.1.2.1 x2.toNat) x1.toNat x3.toNat x4.toNat else S.2.1.2.1 u) k = _
      rw [if_neg hu]
    · have M6 := mMD_F (mMD_F M4 f5 (by omega) A1_3) f6 (by omega) A0_3
      have T6 : mT s6 (S.2.1.1 x2.toNat + 2) (insT (S.2.1.2.1 x2.toNat) x1.toNat x3.toNat x4.toNat) := ⟨by rw [f6.2 15 trivial]; exact T5.1, fun k hk => by rw [mF_at f6 (by decide) (by omega)]; exact T5.2 k hk⟩
      have h6 : mH s6 (recH S.2.2 S.2.1) := mH_keep (mH_keep h4 (f5.2 22 A1_22) (f5.1 72 (by decide) (by omega))) (f6.2 22 trivial) (f6.1 72 (by decide) (by omega))
      refine sm_len hD M6 hv4 hwi T6 v1 ⟨by omega, ?_⟩
      rw [e, show ∀ a b : Int, a + b - a = b by omega]
      exact hQ s6 ⟨M6, R6, h6⟩ (frM_t (frM_t (frM_t (frM_t (frM_t (frM_F f (by omega) (by omega)) (frM_F f2 (by omega) (by omega))) (frM_F f3 (by omega) (by omega))) (frM_F f4 (by omega) (by omega))) (frM_F f5 (by omega) (by omega))) (frM_F f6 (by omega) (by omega)))
  · rw [if_neg (by omega)] at hQ
    exact hQ s (InvM_1 hI f (by omega) (by omega)) (frM_F f (by omega) (by omega))
theorem m_asT {S : ST} (hV : Val S) {σ : Sto} (hI : InvM σ S) {x1 x2 : Int} {Q : Int → Sto → Prop} (hQ : ∀ σ', InvM σ' (f_asT S x1 x2).2 → frM σ σ' → Q (f_asT S x1 x2).1 σ') : CLi l G mX8_assignTo [vR 56, vI x1, vI x2] σ Q := by
  obtain ⟨hM, hR, hH⟩ := id hI
  obtain ⟨hD, hw, hf, -, hl⟩ := id hV
  have nb := nv_b hD
  have hQ0 := hQ σ
  unfold f_asT f_oe2 f_oe at hQ hQ0
  refine clX8_assignTo l G σ Q x1 x2 (sm_noR hD hM (fun q1 => ⟨fun _ => ?_, fun e => absurd rfl e⟩) (fun q1 => ⟨fun e => absurd e (by decide), fun _ => ?_⟩))
  · refine sm_noV hD hM (fun q2 => ⟨fun _ => ?_, fun e => absurd rfl e⟩) (fun q2 => ⟨fun e => absurd e (by decide), fun _ => by rw [if_f q2] at hQ0; exact hQ0 hI frM_r⟩)
    rw [if_t q2, if_t q1] at hQ0 hQ
    have hr : 0 ≤ x1 ∧ x1 < S.1 10 1 := q1
    have hv : 0 ≤ x2 ∧ x2 < S.1 10 0 := q2
    have hv4 : x2.toNat < 4 := by omega
    have v1 : x2 = x2.toNat := by omega
    have hr12 : x1.toNat < 12 := by omega
    have r1 : x1 = x1.toNat := by omega
    refine sm_vOf hD hM hw hR hr12 r1 ⟨fun c => ?_, fun c => ?_⟩
    · have ho := op_of hw hr12 c
      simp only [if_pos ho] at hQ
      unfold bst at hQ
      refine sm_aside hR (SZ_w hw) (fun s1 f1 a1 => ?_)
      have h1 : mH s1 S.2.2 := mH_keep hH (f1.2 22 trivial) (f1.1 72 (by decide) (by omega))
      have M1 := mMD_F hM f1 (by omega) A0_3
      refine sm_pBest hD M1 hw (mR_F hR f1 (by omega)) hv4 (by omega) hr12 ho r1 v1 (fun s2 f2 eN => ⟨fun _ => ?_, fun z => absurd rfl z⟩) (fun s2 a f2 eS R2 e21 => ⟨fun z => absurd z (by decide), fun _ => ?_⟩)
      · simp only [eN] at hQ
        exact hQ s2 ⟨mMD_F M1 f2 (by omega) A2_3, mR_F (mR_F hR f1 (by omega)) f2 (by omega), mH_F h1 f2 (by omega) (by omega) A2_22⟩ (frM_t (frM_F f1 (by omega) (by omega)) (frM_F f2 (by omega) (by omega)))
      · simp only [eS] at hQ
        have h2 : mH s2 S.2.2 := mH_F h1 f2 (by omega) (by omega) A2_22
        refine sm_keep h2 hl (SZ_h hV) (p := S.2.1) (by rw [f2.1 73 (by decide) (by omega)]; exact a1) (SZ_w hw) (fun s3 f3 h3 => ?_)
        rw [f3.2 21 (by unfold A22; omega), e21]
        exact hQ s3 ⟨mMD_F (mMD_F M1 f2 (by omega) A2_3) f3 (by omega) A22_3, mR_F R2 f3 (by omega), h3⟩ (frM_t (frM_t (frM_F f1 (by omega) (by omega)) (frM_F f2 (by omega) (by omega))) (frM_F f3 (by omega) (by omega)))
    · have ho : ¬ S.2.1.2.2 x1.toNat = -1 := by omega
      simp only [if_neg ho] at hQ0
      exact hQ0 hI frM_r
  · by_cases q2 : isVh S.1 x2
    · rw [if_t q2, if_f q1] at hQ0; exact hQ0 hI frM_r
    · rw [if_f q2] at hQ0; exact hQ0 hI frM_r
theorem m_asg {S : ST} (hV : Val S) {σ : Sto} (hI : InvM σ S) {x1 : Int} {Q : Int → Sto → Prop} (hQ : ∀ σ', InvM σ' (f_asg S x1).2 → frM σ σ' → Q (f_asg S x1).1 σ') : CLi l G mX8_assign [vR 56, vI x1] σ Q := by
  obtain ⟨hM, hR, hH⟩ := id hI
  obtain ⟨hD, hw, hf, -, hl⟩ := id hV
  have nb := nv_b hD
  unfold f_asg at hQ
  refine clX8_assign l G σ Q x1 (sm_obar hV hI (fun e0 q ho => ⟨fun _ => ?_, fun c => absurd (by decide) c⟩) (fun e0 => ⟨fun c => absurd c (by omega), fun _ => by rw [if_neg (by omega)] at hQ; exact hQ σ hI frM_r⟩))
  rw [if_pos e0] at hQ
  have hr : 0 ≤ x1 ∧ x1 < S.1 10 1 := q
  have hr12 : x1.toNat < 12 := by omega
  have r1 : x1 = x1.toNat := by omega
  refine sm_aside hR (SZ_w hw) (fun s1 f1 a1 => ?_)
  have h1 : mH s1 S.2.2 := mH_keep hH (f1.2 22 trivial) (f1.1 72 (by decide) (by omega))
  have M1 := mMD_F hM f1 (by omega) A0_3
  refine sm_pAny hD M1 hw (mR_F hR f1 (by omega)) hr12 ho r1 (fun s2 f2 eN => ⟨fun z => absurd z (by decide), fun _ => ?_⟩) (fun s2 a f2 eS R2 => ⟨fun _ => ?_, fun z => absurd (Int.natCast_nonneg _) z⟩)
  · simp only [eN] at hQ
    exact hQ s2 ⟨mMD_F M1 f2 (by omega) A2_3, mR_F (mR_F hR f1 (by omega)) f2 (by omega), mH_F h1 f2 (by omega) (by omega) A2_22⟩ (frM_t (frM_F f1 (by omega) (by omega)) (frM_F f2 (by omega) (by omega)))
  · simp only [eS] at hQ
    have h2 : mH s2 S.2.2 := mH_F h1 f2 (by omega) (by omega) A2_22
    refine sm_keep h2 hl (SZ_h hV) (p := S.2.1) (by rw [f2.1 73 (by decide) (by omega)]; exact a1) (SZ_w hw) (fun s3 f3 h3 => ?_)
    exact hQ s3 ⟨mMD_F (mMD_F M1 f2 (by omega) A2_3) f3 (by omega) A22_3, mR_F R2 f3 (by omega), h3⟩ (frM_t (frM_t (frM_F f1 (by omega) (by omega)) (frM_F f2 (by omega) (by omega))) (frM_F f3 (by omega) (by omega)))
theorem ptot_d {D : Sto} {p p' : PL} {v : Nat} (ho : ∀ w, w ≠ v → p'.1 w = p.1 w ∧ p'.2.1 w = p.2.1 w) : ∀ m, ptot D p m - ptot D p' m = if v < m then rl D v (p.1 v) (p.2.1 v) - rl D v (p'.1 v) (p'.2.1 v) else 0
  | 0 => by simp [ptot]
  | m + 1 => by
    have ih := ptot_d (D := D) ho m
    simp only [ptot]
    by_cases c : m = v
    · subst c
      rw [if_neg (Nat.lt_irrefl _)] at ih
      rw [if_pos (by omega)]
      omega
    · rw [(ho m c).1, (ho m c).2]
      by_cases d : v < m
      · rw [if_pos d] at ih; rw [if_pos (by omega)]; omega
      · rw [if_neg d] at ih; rw [if_neg (by omega)]; omega
theorem m_rem {S : ST} (hV : Val S) {σ : Sto} (hI : InvM σ S) {x1 : Int} {Q : Int → Sto → Prop} (hQ : ∀ σ', InvM σ' (f_rem S x1).2 → frM σ σ' → Q (f_rem S x1).1 σ') : CLi l G mX8_remove [vR 56, vI x1] σ Q := by
  obtain ⟨hM, hR, hH⟩ := id hI
  obtain ⟨hD, hw, hf, -, hl⟩ := id hV
  have nb := nv_b hD
  unfold f_rem at hQ
  refine clX8_remove l G σ Q x1 (sm_noR hD hM (fun q => ⟨fun _ => ?_, fun e => absurd rfl e⟩) (fun q => ⟨fun e => absurd e (by decide), fun _ => by rw [if_f q] at hQ; exact hQ σ hI frM_r⟩))
  rw [if_t q] at hQ
  have hr : 0 ≤ x1 ∧ x1 < S.1 10 1 := q
  have hr12 : x1.toNat < 12 := by omega
  have r1 : x1 = x1.toNat := by omega
  refine sm_vOf hD hM hw hR hr12 r1 ⟨fun c => ?_, fun c => ?_⟩
  · have ha : ¬ S.2.1.2.2 x1.toNat = -1 := by omega
    simp only [if_neg ha] at hQ
    obtain ⟨v, i, j, hv, hv2, ev, hij, hj, g1, g2, et, hn2⟩ := WP_tk0 hw hr12 ha
    have hw2 := (WP_tk hw hr12).1
    have b1 := rl_b hD hv (hw.1 v hv)
    have b2 := rl_b hD hv (hw2.1 v hv)
    have ed := ptot_d (D := S.1) (p := S.2.1) (p' := ptk S.2.1 x1.toNat) (v := v) (fun w hwv => by
      rw [et]
      exact ⟨by show (if w = v then S.2.1.1 v - 2 else S.2.1.1 w) = _; rw [if_neg hwv], by show (if w = v then rmT (S.2.1.2.1 v) i j else S.2.1.2.1 w) = _; rw [if_neg hwv]⟩) (nvN S.1)
    rw [if_pos (by omega)] at ed
    refine sm_lenR hD hM hw hR hv ev (fun s1 f1 => ?_)
    have i1 := InvM_1 hI f1 (by omega) (by omega)
    refine sm_aside i1.2.1 (SZ_w hw) (fun s2 f2 a2 => ?_)
    have h2 : mH s2 S.2.2 := mH_keep i1.2.2 (f2.2 22 trivial) (f2.1 72 (by decide) (by omega))
    refine sm_keep h2 hl (SZ_h hV) a2 (SZ_w hw) (fun s3 f3 h3 => ?_)
    have M3 := mMD_F (mMD_F i1.1 f2 (by omega) A0_3) f3 (by omega) A22_3
    have R3 : mR (s3 68) 0 S.2.1 := mR_F (mR_F i1.2.1 f2 (by omega)) f3 (by omega)
    refine sm_takeOut hD M3 hw R3 hr12 ha r1 (fun s4 f4 R4 => ?_)
    have M4 := mMD_F M3 f4 (by omega) A1_3
    refine sm_lenR hD M4 hw2 R4 hv ev (fun s5 f5 => ⟨by omega, ?_⟩)
    rw [show rl S.1 v (S.2.1.1 v) (S.2.1.2.1 v) - rl S.1 v ((ptk S.2.1 x1.toNat).1 v) ((ptk S.2.1 x1.toNat).2.1 v) = tl S.1 S.2.1 - tl S.1 (ptk S.2.1 x1.toNat) by unfold tl; omega]
    exact hQ s5 ⟨mMD_F M4 f5 (by omega) A1_3, mR_F R4 f5 (by omega), mH_F (mH_F h3 f4 (by omega) (by omega) A1_22) f5 (by omega) (by omega) A1_22⟩ (frM_t (frM_t (frM_t (frM_t (frM_F f1 (by omega) (by omega)) (frM_F f2 (by omega) (by omega))) (frM_F f3 (by omega) (by omega))) (frM_F f4 (by omega) (by omega))) (frM_F f5 (by omega) (by omega)))
  · have ho := op_of hw hr12 (by omega)
    simp only [if_pos ho] at hQ
    exact hQ σ hI frM_r
end MODELH
