def osv (t : Nat → Nat) : Nat → Nat
  | 0 => 0
  | k + 1 => osv t k ||| 2 ^ (t k / 2)
theorem osv_tb (t : Nat → Nat) (b : Nat) : ∀ k, (osv t k).testBit b = true ↔ ∃ i, i < k ∧ t i / 2 = b
  | 0 => by simp [osv]
  | k + 1 => by
    have ih := osv_tb t b k
    simp only [osv, Nat.testBit_or, Bool.or_eq_true, ih, Nat.testBit_two_pow, decide_eq_true_eq]
    constructor
    · rintro (⟨i, hi, e⟩ | e)
      · exact ⟨i, by omega, e⟩
      · exact ⟨k, by omega, e⟩
    · rintro ⟨i, hi, e⟩
      by_cases c : i = k
      · subst c; exact Or.inr e
      · exact Or.inl ⟨i, by omega, e⟩
theorem bsv_tb (p : PL) (v b : Nat) : ∀ k, (bsv p v k).testBit b = true ↔ b < k ∧ p.2.2 b = v
  | 0 => by simp [bsv]
  | k + 1 => by
    have ih := bsv_tb p v b k
    simp only [bsv]
    by_cases c : p.2.2 k = v
    · rw [if_pos c]
      simp only [Nat.testBit_or, Bool.or_eq_true, ih, Nat.testBit_two_pow, decide_eq_true_eq]
      constructor
      · rintro (⟨i, e⟩ | e)
        · exact ⟨by omega, e⟩
        · subst e; exact ⟨by omega, c⟩
      · rintro ⟨i, e⟩
        by_cases d : k = b
        · exact Or.inr d
        · exact Or.inl ⟨by omega, e⟩
    · rw [if_neg c, ih]
      constructor
      · rintro ⟨i, e⟩; exact ⟨by omega, e⟩
      · rintro ⟨i, e⟩
        by_cases d : b = k
        · subst d; exact absurd e c
        · exact ⟨by omega, e⟩
theorem osv_bsv {D : Sto} {p : PL} (hw : WP D p) {v : Nat} (hv : v < 4) : osv (p.2.1 v) (p.1 v) = bsv p v 12 := by
  apply Nat.eq_of_testBit_eq
  intro b
  have : (osv (p.2.1 v) (p.1 v)).testBit b = true ↔ (bsv p v 12).testBit b = true := by
    rw [osv_tb, bsv_tb]
    constructor
    · rintro ⟨i, hi, e⟩
      have a := (hw.1 v hv).2.1 i hi
      have b' := hw.2.1 v hv i hi
      rw [e] at b'
      exact ⟨by omega, b'⟩
    · rintro ⟨hb, e⟩
      rcases hw.2.2.1 b hb with q | ⟨w, hw4, -, ew, i, j, hij, hj, g1, -⟩
      · omega
      · have : w = v := by omega
        subst this
        exact ⟨i, by omega, by omega⟩
  cases h1 : (osv (p.2.1 v) (p.1 v)).testBit b <;> cases h2 : (bsv p v 12).testBit b <;> simp_all
section MODELG
variable {l : Launch} {G : GT}
theorem m_count {S : ST} (hV : Val S) {σ : Sto} (hI : InvM σ S) {x1 : Int} {Q : Int → Sto → Prop} (hQ : ∀ σ', InvM σ' S → frM σ σ' → Q (f_count S x1) σ') : CLi l G mX8_count [vR 56, vI x1] σ Q := by
  obtain ⟨D, p, hs⟩ := S
  obtain ⟨hM, hR, hH⟩ := id hI
  obtain ⟨hD, hw, hf, -, -⟩ := id hV
  have hM : mMD D σ := hM
  have hR : mR (σ 68) 0 p := hR
  have hD : DOK D := hD
  have hw : WP D p := hw
  have nb := nv_b hD
  have hQ0 := hQ σ hI frM_r
  have e1 := hM.1.2.1
  have e7 := hM.1.2.2
  have ob : ∀ k : Nat, 0 ≤ opn p k ∧ opn p k ≤ k := by
    intro k
    induction k with
    | zero => simp [opn]
    | succ k ih => simp only [opn]; split <;> omega
  have key : ∀ (m k : Nat) (x2 x3 : Int), k + m = nrN D → x3 = k → x2 = opn p k → MWi l G mX8_count 4 [(0, vR 56), (1, vI x1), (2, vI x2), (3, vI x3)] [] σ Q := by
    intro m
    induction m with
    | zero =>
      intro k x2 x3 hm h3 h2
      obtain rfl : k = nrN D := by omega
      refine vcX8_count_4 l G σ Q x1 x2 x3 ⟨fun _ => ⟨fun c => ?_, fun c => ?_, fun c => ?_, fun c => ?_, fun c => ?_, fun c => ?_, fun c => ?_⟩, fun c => absurd (by omega) c⟩
      · rw [e1]; simpa [f_count, c] using hQ0
      · rw [e7]; simpa [f_count, c] using hQ0
      · rw [h2]; simpa [f_count, c] using hQ0
      · refine sm_total hD hM hw hR (fun s f => ?_)
        have := hQ s (InvM_1 hI f (by omega) (by omega)) (frM_F f (by omega) (by omega))
        simpa [f_count, c] using this
      · rw [hM.1.1]; simpa [f_count, c] using hQ0
      · rw [hH.1]; simpa [f_count, c] using hQ0
      · have : f_count (D, p, hs) x1 = -1002 := by
          unfold f_count
          rw [if_neg (by omega), if_neg (by omega), if_neg (by omega), if_neg (by omega), if_neg (by omega), if_neg (by omega)]
        rwa [this] at hQ0
    | succ m ih =>
      intro k x2 x3 hm h3 h2
      have b := ob k
      refine vcX8_count_4 l G σ Q x1 x2 x3 ⟨fun c => absurd c (by omega), fun _ => sm_vOf hD hM hw hR (r := k) (by omega) h3 (fun y hy => ⟨by rw [hy]; split <;> omega, by omega, ih (k + 1) _ _ (by omega) (by omega) ?_⟩)⟩
      simp only [opn]
      rcases hw.2.2.1 k (by omega) with q | ⟨v, a, b', e, -⟩
      · rw [if_pos q]; rw [if_neg (by omega)] at hy; omega
      · rw [if_neg (by omega)]; rw [if_pos (by omega)] at hy; omega
  exact clX8_count l G σ Q x1 (key (nrN D) 0 0 0 (by omega) rfl rfl)
theorem m_req {S : ST} (hV : Val S) {σ : Sto} (hI : InvM σ S) {x1 x2 : Int} {Q : Int → Sto → Prop} (hQ : ∀ σ', InvM σ' S → frM σ σ' → Q (f_req S x1 x2) σ') : CLi l G mX8_request [vR 56, vI x1, vI x2] σ Q := by
  obtain ⟨D, p, hs⟩ := S
  obtain ⟨hM, hR, hH⟩ := id hI
  obtain ⟨hD, hw, hf, -, -⟩ := id hV
  have hM : mMD D σ := hM
  have hR : mR (σ 68) 0 p := hR
  have hD : DOK D := hD
  have hw : WP D p := hw
  have nb := nv_b hD
  have hQ := hQ σ hI frM_r
  unfold f_req at hQ
  refine clX8_request l G σ Q x1 x2 (sm_noR hD hM (fun q => ⟨fun _ => ?_, fun e => absurd rfl e⟩) (fun q => ⟨fun e => absurd e (by decide), fun _ => by rw [if_f q] at hQ; exact hQ⟩))
  rw [if_t q] at hQ
  have hr : 0 ≤ x1 ∧ x1 < D 10 1 := q
  have hr12 : x1.toNat < 12 := by omega
  have r1 : x1 = x1.toNat := by omega
  have en1 : (2 * x1).toNat = 2 * x1.toNat := by omega
  have en2 : (2 * x1 + 1).toNat = 2 * x1.toNat + 1 := by omega
  obtain ⟨a1, a2⟩ := hM.2.2.2 _ hr12
  have w1 := hM.2.2.1 (2 * x1.toNat) (by omega)
  have w2 := hM.2.2.1 (2 * x1.toNat + 1) (by omega)
  rw [en1, en2]
  refine ⟨fun c => sm_vOf hD hM hw hR hr12 r1 ⟨fun c2 => sm_vOf hD hM hw hR hr12 r1 ?_, fun c2 => ?_⟩, fun c => ⟨by omega, ?_⟩, fun c => ⟨by omega, ?_⟩, fun c => ⟨by omega, by omega, ?_⟩, fun c => ⟨by omega, by omega, ?_⟩, fun c => ⟨by omega, by omega, by omega, ?_⟩, fun c => ⟨by omega, by omega, by omega, ?_⟩, fun c => ⟨by omega, by omega, sm_betw hD hM (a := 2 * x1.toNat) (b := 2 * x1.toNat + 1) (by omega) (by omega) (by omega) (by omega) ?_⟩, fun c => ?_⟩
  · have : ¬ p.2.2 x1.toNat = -1 := by omega
    simpa [c, this] using hQ
  · have : p.2.2 x1.toNat = -1 := by
      rcases hw.2.2.1 x1.toNat hr12 with q | ⟨v, a, b', e, -⟩
      · exact q
      · omega
    simpa [c, this] using hQ
  · rw [a1]; simpa [c] using hQ
  · rw [a2]; simpa [c] using hQ
  · rw [w1.2.2.1]; simpa [c] using hQ
  · rw [w1.2.2.2]; simpa [c] using hQ
  · rw [w2.2.2.1]; simpa [c] using hQ
  · rw [w2.2.2.2]; simpa [c] using hQ
  · simpa [c] using hQ
  · rw [if_neg (by omega), if_neg (by omega), if_neg (by omega), if_neg (by omega), if_neg (by omega), if_neg (by omega), if_neg (by omega), if_neg (by omega)] at hQ
    exact hQ
theorem m_veh {S : ST} (hV : Val S) {σ : Sto} (hI : InvM σ S) {x1 x2 : Int} {Q : Int → Sto → Prop} (hQ : ∀ σ', InvM σ' S → frM σ σ' → Q (f_veh S x1 x2) σ') : CLi l G mX8_vehicle [vR 56, vI x1, vI x2] σ Q := by
  obtain ⟨D, p, hs⟩ := S
  obtain ⟨hM, hR, hH⟩ := id hI
  obtain ⟨hD, hw, hf, -, -⟩ := id hV
  have hM : mMD D σ := hM
  have hR : mR (σ 68) 0 p := hR
  have hD : DOK D := hD
  have hw : WP D p := hw
  have nb := nv_b hD
  unfold f_veh at hQ
  refine clX8_vehicle l G σ Q x1 x2 (sm_noV hD hM (fun q => ⟨fun _ => ?_, fun e => absurd rfl e⟩) (fun q => ⟨fun e => absurd e (by decide), fun _ => by have hQ := hQ σ hI frM_r; rw [if_f q] at hQ; exact hQ⟩))
  rw [if_t q] at hQ
  have hv : 0 ≤ x1 ∧ x1 < D 10 0 := q
  have hv4 : x1.toNat < 4 := by omega
  have v1 : x1 = x1.toNat := by omega
  have hrw := hw.1 _ hv4
  have n24 := hrw.1
  refine sm_take hR hv4 n24 v1 (fun s f hT => ?_)
  have hQ0 := hQ s (InvM_1 hI f (by omega) (by omega)) (frM_F f (by omega) (by omega))
  have hMs := mMD_F hM f (by omega) A1_3
  obtain ⟨-, -, b1, b2, b3⟩ := hMs.2.1 _ hv4
  have hT0 := id hT
  obtain ⟨h15, h69⟩ := hT
  have key : ∀ (m k : Nat) (x3 x4 : Int), k + m = p.1 x1.toNat → x4 = k → x3 = (osv (p.2.1 x1.toNat) k : Nat) → MWi l G mX8_vehicle 22 [(0, vR 56), (1, vI x1), (2, vI x2), (3, vI x3), (4, vI x4)] [] s Q := by
    intro m
    induction m with
    | zero =>
      intro k x3 x4 hm h4 h3
      obtain rfl : k = p.1 x1.toNat := by omega
      refine vcX8_vehicle_22 l G s Q x1 x2 x3 x4 ⟨fun _ => ⟨fun c => ⟨by omega, ?_⟩, fun c => ⟨by omega, ?_⟩, fun c => ⟨by omega, ?_⟩, fun c => ?_, fun c => sm_len hD hMs hv4 hrw hT0 v1 ?_, fun c => sm_load hD hMs hrw hT0 ?_, fun c => ?_, fun c => ?_⟩, fun c => absurd (by omega) c⟩
      · rw [b1]; simpa [c] using hQ0
      · rw [b2]; simpa [c] using hQ0
      · rw [b3]; simpa [c] using hQ0
      · rw [h15]; simpa [c] using hQ0
      · simpa [c] using hQ0
      · simpa [c] using hQ0
      · rw [h3, osv_bsv hw hv4]; simpa [c] using hQ0
      · rw [if_neg (by omega), if_neg (by omega), if_neg (by omega), if_neg (by omega), if_neg (by omega), if_neg (by omega), if_neg (by omega)] at hQ0
        exact hQ0
    | succ m ih =>
      intro k x3 x4 hm h4 h3
      have tk := hrw.2.1 k (by omega)
      refine vcX8_vehicle_22 l G s Q x1 x2 x3 x4 ⟨fun c => absurd c (by omega), fun _ => ?_⟩
      rw [show x4.toNat = k by omega, h69 k (by omega), show ((p.2.1 x1.toNat k : Int) / 2).toNat = p.2.1 x1.toNat k / 2 by omega]
      refine ⟨by omega, by omega, by omega, by omega, Int.natCast_nonneg _, by omega, ih (k + 1) _ _ (by omega) (by omega) ?_⟩
      rw [h3, Int.toNat_natCast, Int.toNat_natCast]; rfl
  exact key (p.1 x1.toNat) 0 0 0 (by omega) rfl rfl
theorem m_stop {S : ST} (hV : Val S) {σ : Sto} (hI : InvM σ S) {x1 x2 x3 : Int} {Q : Int → Sto → Prop} (hQ : ∀ σ', InvM σ' S → frM σ σ' → Q (f_stop S x1 x2 x3) σ') : CLi l G mX8_stop [vR 56, vI x1, vI x2, vI x3] σ Q := by
  obtain ⟨D, p, hs⟩ := S
  obtain ⟨hM, hR, hH⟩ := id hI
  obtain ⟨hD, hw, hf, -, -⟩ := id hV
  have hM : mMD D σ := hM
  have hR : mR (σ 68) 0 p := hR
  have hD : DOK D := hD
  have hw : WP D p := hw
  have hf : FEP D p := hf
  have nb := nv_b hD
  unfold f_stop at hQ
  refine clX8_stop l G σ Q x1 x2 x3 (sm_noV hD hM (fun q => ⟨fun _ => ?_, fun e => absurd rfl e⟩) (fun q => ⟨fun e => absurd e (by decide), fun _ => by have hQ := hQ σ hI frM_r; rw [if_f (fun z => q z.1)] at hQ; exact hQ⟩))
  have hv : 0 ≤ x1 ∧ x1 < D 10 0 := q
  have hv4 : x1.toNat < 4 := by omega
  have v1 : x1 = x1.toNat := by omega
  generalize x1.toNat = v at *
  have hrw := hw.1 _ hv4
  have n24 := hrw.1
  rw [show (96 + x1).toNat = 0 + (96 + v) by omega, (hR v hv4).1]
  refine ⟨by omega, by omega, by omega, sm_in (fun q1 => ⟨fun e => absurd e (by decide), fun _ => ?_⟩) (fun q1 => ⟨fun _ => by have hQ := hQ σ hI frM_r; rw [if_f (fun z => q1 (by have := z.2; show 0 ≤ x2 ∧ x2 ≤ _; dsimp only at this; omega))] at hQ; exact hQ, fun e => absurd rfl e⟩)⟩
  rw [if_t (show isVh D x1 ∧ 0 ≤ x2 ∧ x2 < (p.1 v : Nat) from ⟨q, by omega, by omega⟩)] at hQ
  have hk : x2.toNat < p.1 v := by omega
  have k1 : x2 = x2.toNat := by omega
  generalize x2.toNat = k at *
  refine sm_sched hD hM hw hR hv4 (hf v hv4) v1 (fun s f hT hE hL => ?_)
  have hQ := hQ s (InvM_1 hI f (by omega) (by omega)) (frM_F f (by omega) (by omega))
  have hMs := mMD_F hM f (by omega) A1_3
  obtain ⟨h15, h69⟩ := id hT
  generalize p.1 v = n at *
  generalize p.2.1 v = t at *
  have ee : ∀ i, i < n → s 70 i = eS D v n t i := fun i hi => eS_eq hE hi
  have el : ∀ i, i < n → s 71 i = lS D v n t i := fun i hi => lS_eq hL hi
  have eb : ∀ i, i < n → 0 ≤ s 70 i ∧ s 70 i ≤ 5000 := fun i hi => SC_0 hD hrw hE.1 i hi
  have lb : ∀ i, i < n → 0 ≤ s 71 i ∧ s 71 i ≤ 5000 := fun i hi => SC_0 hD hrw hL.1 i hi
  have sv := hD.1
  have b8 := hD.2.2.2.2.1 v hv4
  have key : ∀ (m c : Nat) (x4 x5 : Int), c + m = k + 1 → x5 = c → x4 = ld D t c → MWi l G mX8_stop 42 [(0, vR 56), (1, vI x1), (2, vI x2), (3, vI x3), (4, vI x4), (5, vI x5)] [] s Q := by
    intro m
    induction m with
    | zero =>
      intro c x4 x5 hm h5 h4
      obtain rfl : c = k + 1 := by omega
      have tk := hrw.2.1 k hk
      have t0 := hrw.2.1 0 (by omega)
      have ebk := eb k hk
      refine vcX8_stop_42 l G s Q x1 x2 x3 x4 x5 ⟨fun _ => ⟨fun c0 => ?_, fun c0 => ?_⟩, fun c => absurd (by omega) c⟩
      · have k0 : k = 0 := by omega
        have d0 := ds_0 D (24 + v) (t 0)
        have d1 := ds_le hD (a := 24 + v) (b := t 0) (by omega) (by omega)
        rw [show x1.toNat = v by omega, (hMs.2.1 v hv4).2.2.2.1, show x2.toNat = k by omega]
        refine ⟨by omega, sm_from hD hMs hv4 t0 v1 (h69 0 (by omega)) ?_⟩
        rw [h69 k hk]
        refine ⟨by omega, fun c => ⟨by omega, by omega, ?_⟩, fun c => ⟨by omega, by omega, ?_⟩, fun c => ⟨by omega, ?_⟩, fun c => ⟨by omega, ?_⟩, fun c => ?_, fun c => ⟨by omega, by omega, ?_⟩, fun c => ?_⟩
        · rw [show (t k : Int) / 2 = ((t k / 2 : Nat) : Int) by omega]; simpa [c] using hQ
        · rw [show (t k : Int) % 2 = ((t k % 2 : Nat) : Int) by omega]; simpa [c] using hQ
        · rw [ee k hk]; simpa [c] using hQ
        · rw [el k hk]; simpa [c] using hQ
        · rw [h4]; simpa [c] using hQ
        · rw [ee k hk, show D 8 v + ds D (24 + v) (t 0) = cms D v t (eS D v n t) k by unfold cms; rw [if_pos k0]]; simpa [c] using hQ
        · rw [if_neg (by omega), if_neg (by omega), if_neg (by omega), if_neg (by omega), if_neg (by omega), if_neg (by omega)] at hQ
          exact hQ
      · have k0 : k ≠ 0 := by omega
        have tk1 := hrw.2.1 (k - 1) (by omega)
        have ebk1 := eb (k - 1) (by omega)
        have d0 := ds_0 D (t (k - 1)) (t k)
        have d1 := ds_le hD (a := t (k - 1)) (b := t k) (by omega) (by omega)
        rw [show (x2 - 1).toNat = k - 1 by omega, show x2.toNat = k by omega, hMs.1.1]
        refine ⟨by omega, by omega, by omega, by omega, sm_betw hD hMs tk1 tk (h69 (k - 1) (by omega)) (h69 k hk) ?_⟩
        rw [h69 k hk]
        refine ⟨by omega, fun c => ⟨by omega, ?_⟩, fun c => ⟨by omega, ?_⟩, fun c => ?_, fun c => ?_, fun c => ?_, fun c => ⟨by omega, ?_⟩, fun c => ?_⟩
        · rw [show (t k : Int) / 2 = ((t k / 2 : Nat) : Int) by omega]; simpa [c] using hQ
        · rw [show (t k : Int) % 2 = ((t k % 2 : Nat) : Int) by omega]; simpa [c] using hQ
        · rw [ee k hk]; simpa [c] using hQ
        · rw [el k hk]; simpa [c] using hQ
        · rw [h4]; simpa [c] using hQ
        · rw [ee k hk, ee (k - 1) (by omega), show eS D v n t (k - 1) + D 0 0 + ds D (t (k - 1)) (t k) = cms D v t (eS D v n t) k by unfold cms; rw [if_neg k0]]; simpa [c] using hQ
        · rw [if_neg (by omega), if_neg (by omega), if_neg (by omega), if_neg (by omega), if_neg (by omega), if_neg (by omega)] at hQ
          exact hQ
    | succ m ih =>
      intro c x4 x5 hm h5 h4
      have tc := hrw.2.1 c (by omega)
      have b := ld_b hD (t := t) c (fun i hi => hrw.2.1 i (by omega))
      have db := hD.2.2.2.1 (t c / 2) (by omega)
      have e5 := (hMs.2.2.2 (t c / 2) (by omega)).1
      refine vcX8_stop_42 l G s Q x1 x2 x3 x4 x5 ⟨fun q => absurd q (by omega), fun _ => ?_⟩
      rw [show x5.toNat = c by omega, h69 c (by omega), show ((t c : Int) / 2).toNat = t c / 2 by omega, e5]
      refine ⟨by omega, by omega, ⟨fun _ => ⟨by omega, trivial⟩, fun _ => ⟨by omega, by omega, trivial⟩⟩, fun y hy => ⟨by rw [hy]; split <;> omega, by omega, ih (c + 1) _ _ (by omega) (by omega) ?_⟩⟩
      rw [h4, hy]
      simp only [ld]
      by_cases c : t c % 2 = 0
      · rw [if_pos c, if_pos (by omega)]
      · rw [if_neg c, if_neg (by omega)]
  exact key (k + 1) 0 0 0 (by omega) rfl rfl
theorem m_ride {S : ST} (hV : Val S) {σ : Sto} (hI : InvM σ S) {x1 x2 : Int} {Q : Int → Sto → Prop} (hQ : ∀ σ', InvM σ' S → frM σ σ' → Q (f_ride S x1 x2) σ') : CLi l G mX8_rideTime [vR 56, vI x1, vI x2] σ Q := by
  obtain ⟨D, p, hs⟩ := S
  obtain ⟨hM, hR, hH⟩ := id hI
  obtain ⟨hD, hw, hf, -, -⟩ := id hV
  have hM : mMD D σ := hM
  have hR : mR (σ 68) 0 p := hR
  have hD : DOK D := hD
  have hw : WP D p := hw
  have hf : FEP D p := hf
  have nb := nv_b hD
  unfold f_ride at hQ
  refine clX8_rideTime l G σ Q x1 x2 (sm_noR hD hM (fun q => ⟨fun _ => ?_, fun e => absurd rfl e⟩) (fun q => ⟨fun e => absurd e (by decide), fun _ => by have hQ := hQ σ hI frM_r; rw [if_f q] at hQ; exact hQ⟩))
  rw [if_t q] at hQ
  have hr : 0 ≤ x1 ∧ x1 < D 10 1 := q
  have hr12 : x1.toNat < 12 := by omega
  have r1 : x1 = x1.toNat := by omega
  generalize x1.toNat = r at *
  by_cases c : p.2.2 r = -1
  · refine sm_vOf hD hM hw hR hr12 r1 ⟨fun z => absurd z (by omega), fun _ => ?_⟩
    have hQ := hQ σ hI frM_r
    simpa [c] using hQ
  obtain ⟨v, i, j, hv, hv2, ev, hij, hj, g1, g2, -, -⟩ := WP_tk0 hw hr12 c
  refine sm_vOf hD hM hw hR hr12 r1 ⟨fun _ => ?_, fun z => absurd (by omega) z⟩
  have hrw := hw.1 v hv
  refine sm_sched hD hM hw hR hv (hf v hv) ev (fun s f hT hE hL => ?_)
  have hQ := hQ s (InvM_1 hI f (by omega) (by omega)) (frM_F f (by omega) (by omega))
  have hMs := mMD_F hM f (by omega) A1_3
  simp only [if_neg c, ev, Int.toNat_natCast] at hQ
  rw [px_eq _ hrw.2.2.1 hj g2, px_eq _ hrw.2.2.1 (by omega) g1] at hQ
  have eb : ∀ i, i < p.1 v → 0 ≤ s 70 i ∧ s 70 i ≤ 5000 := fun i hi => SC_0 hD hrw hE.1 i hi
  have lb : ∀ i, i < p.1 v → 0 ≤ s 71 i ∧ s 71 i ≤ 5000 := fun i hi => SC_0 hD hrw hL.1 i hi
  have ebi := eb i (by omega)
  have ebj := eb j hj
  have lbi := lb i (by omega)
  have lbj := lb j hj
  have sv := hD.1
  have n24 := hrw.1
  refine ⟨by omega, sm_plOf hrw.1 hT hrw.2.2.1 (i := i) (by omega) (by omega) ⟨by omega, sm_plOf hrw.1 hT hrw.2.2.1 hj (by omega) ?_⟩⟩
  rw [Int.toNat_natCast, Int.toNat_natCast, hMs.1.1]
  refine ⟨⟨fun _ => ⟨by omega, by omega, by omega, trivial⟩, fun _ => ⟨by omega, by omega, by omega, trivial⟩⟩, fun y hy => ⟨by rw [hy]; split <;> omega, ?_⟩⟩
  rw [hy]
  by_cases c2 : x2 = 0
  · rw [if_pos c2, eS_eq hE hj, eS_eq hE (show i < p.1 v by omega)]
    simpa [c2] using hQ
  · rw [if_neg c2, lS_eq hL hj, lS_eq hL (show i < p.1 v by omega)]
    simpa [c2] using hQ
theorem m_depot {S : ST} (hV : Val S) {σ : Sto} (hI : InvM σ S) {x1 x2 : Int} {Q : Int → Sto → Prop} (hQ : ∀ σ', InvM σ' S → frM σ σ' → Q (f_depot S x1 x2) σ') : CLi l G mX8_depotTime [vR 56, vI x1, vI x2] σ Q := by
  obtain ⟨D, p, hs⟩ := S
  obtain ⟨hM, hR, hH⟩ := id hI
  obtain ⟨hD, hw, hf, -, -⟩ := id hV
  have hM : mMD D σ := hM
  have hR : mR (σ 68) 0 p := hR
  have hD : DOK D := hD
  have hw : WP D p := hw
  have hf : FEP D p := hf
  have nb := nv_b hD
  unfold f_depot at hQ
  refine clX8_depotTime l G σ Q x1 x2 (sm_noV hD hM (fun q => ⟨fun _ => ?_, fun e => absurd rfl e⟩) (fun q => ⟨fun e => absurd e (by decide), fun _ => by have hQ := hQ σ hI frM_r; rw [if_f q] at hQ; exact hQ⟩))
  rw [if_t q] at hQ
  have hv : 0 ≤ x1 ∧ x1 < D 10 0 := q
  have hv4 : x1.toNat < 4 := by omega
  have v1 : x1 = x1.toNat := by omega
  generalize x1.toNat = v at *
  have hrw := hw.1 _ hv4
  have n24 := hrw.1
  refine sm_sched hD hM hw hR hv4 (hf v hv4) v1 (fun s f hT hE hL => ?_)
  have hQ := hQ s (InvM_1 hI f (by omega) (by omega)) (frM_F f (by omega) (by omega))
  have hMs := mMD_F hM f (by omega) A1_3
  obtain ⟨h15, h69⟩ := id hT
  simp only at hQ
  generalize p.1 v = n at *
  generalize p.2.1 v = t at *
  refine ⟨fun c => ?_, fun c => ?_⟩
  · have : n = 0 := by omega
    simpa [this] using hQ
  · have hn : n ≠ 0 := by omega
    have sv := hD.1
    have eb := SC_0 hD hrw hE.1 (n - 1) (by omega)
    have lb := SC_0 hD hrw hL.1 0 (by omega)
    have t0 := hrw.2.1 0 (by omega)
    have tn := hrw.2.1 (n - 1) (by omega)
    have d0 := ds_0 D (24 + v) (t 0)
    have d1 := ds_le hD (a := 24 + v) (b := t 0) (by omega) (by omega)
    have d2 := ds_0 D (24 + v) (t (n - 1))
    have d3 := ds_le hD (a := 24 + v) (b := t (n - 1)) (by omega) (by omega)
    have en : (s 56 15 - 1).toNat = n - 1 := by omega
    rw [if_neg hn] at hQ
    refine ⟨fun c2 => sm_from hD hMs hv4 t0 v1 (h69 0 (by omega)) ⟨by omega, ?_⟩, fun c2 => ?_⟩
    · rw [if_pos c2] at hQ
      rw [lS_eq hL (show 0 < n by omega)]; exact hQ
    · rw [en, hMs.1.1]
      refine ⟨by omega, by omega, by omega, sm_from hD hMs hv4 tn v1 (h69 (n - 1) (by omega)) ⟨by omega, ?_⟩⟩
      rw [if_neg c2] at hQ
      rw [eS_eq hE (show n - 1 < n by omega)]
      have : eS D v n t (n - 1) + D 0 0 + ds D (24 + v) (t (n - 1)) = eS D v n t (n - 1) + f_depot.D9 D v (t (n - 1)) := by
        unfold f_depot.D9; rw [ds_s D (t (n - 1))]; omega
      rw [this]; exact hQ
theorem sm_ibar {S : ST} (hV : Val S) {σ : Sto} (hI : InvM σ S) {x1 x2 x3 x4 : Int} {Q : Int → Sto → Prop}
    (h0 : ∀ σ', mF 69 70 A1 σ σ' → f_ie S x1 x2 x3 x4 = 0 → isRq S.1 x1 → isVh S.1 x2 → (0 ≤ x3 ∧ x3 < x4 ∧ x4 ≤ S.2.1.1 x2.toNat + 1) → S.2.1.2.2 x1.toNat = -1 → mT σ' (S.2.1.1 x2.toNat + 2) (insT (S.2.1.2.1 x2.toNat) x1.toNat x3.toNat x4.toNat) → Q 0 σ') (h1 : ∀ σ', mF 69 70 A1 σ σ' → f_ie S x1 x2 x3 x4 < 0 → Q (f_ie S x1 x2 x3 x4) σ') : CLi l G mX8_insertBarred [vR 56, vI x1, vI x2, vI x3, vI x4] σ Q := by
  obtain ⟨D, p, hs⟩ := S
  obtain ⟨hM, hR, hH⟩ := id hI
  obtain ⟨hD, hw, hf, -, -⟩ := id hV
  have hM : mMD D σ := hM
  have hR : mR (σ 68) 0 p := hR
  have hD : DOK D := hD
  have hw : WP D p := hw
  have nb := nv_b hD
  unfold f_ie at h0 h1
  have no1 : ¬ (isRq D x1 ∧ isVh D x2) → Q (-1001) σ := fun c => by
    have h1 := h1 σ mF_r
    rw [if_f c] at h1
    exact h1 (by decide)
  refine clX8_insertBarred l G σ Q x1 x2 x3 x4 (sm_noR hD hM (fun q1 => ⟨fun _ => ?_, fun e => absurd rfl e⟩) (fun q1 => ⟨fun e => absurd e (by decide), fun _ => no1 (fun z => q1 z.1)⟩))
  refine sm_noV hD hM (fun q2 => ⟨fun _ => ?_, fun e => absurd rfl e⟩) (fun q2 => ⟨fun e => absurd e (by decide), fun _ => no1 (fun z => q2 z.2)⟩)
  rw [if_t ⟨q1, q2⟩] at h0 h1
  have hr : 0 ≤ x1 ∧ x1 < D 10 1 := q1
  have hv : 0 ≤ x2 ∧ x2 < D 10 0 := q2
  have hv4 : x2.toNat < 4 := by omega
  have v1 : x2 = x2.toNat := by omega
  have hr12 : x1.toNat < 12 := by omega
  have r1 : x1 = x1.toNat := by omega
  have hrw := hw.1 _ hv4
  have n24 := hrw.1
  rw [show (96 + x2).toNat = 0 + (96 + x2.toNat) by omega, (hR x2.toNat hv4).1]
  have no2 : ¬ (0 ≤ x3 ∧ x3 < x4 ∧ x4 ≤ p.1 x2.toNat + 1) → Q (-1002) σ := fun c => by
    have h1 := h1 σ mF_r
    rw [if_f c] at h1
    exact h1 (by decide)
  refine ⟨by omega, by omega, sm_in (fun q3 => ⟨fun e => absurd e (by decide), fun _ => ?_⟩) (fun q3 => ⟨fun _ => no2 (fun z => q3 (by omega)), fun e => absurd rfl e⟩)⟩
  rw [(hR x2.toNat hv4).1]
  refine ⟨by omega, by omega, sm_in (fun q4 => ⟨fun e => absurd e (by decide), fun _ => ?_⟩) (fun q4 => ⟨fun _ => no2 (fun z => q4 (by omega)), fun e => absurd rfl e⟩)⟩
  have q34 : 0 ≤ x3 ∧ x3 < x4 ∧ x4 ≤ (p.1 x2.toNat : Int) + 1 := by omega
  rw [if_t q34] at h0 h1
  refine sm_vOf hD hM hw hR hr12 r1 ⟨fun c => ?_, fun c => ?_⟩
  · have ho : p.2.2 x1.toNat = -1 := by
      rcases hw.2.2.1 x1.toNat hr12 with q | ⟨v, a, b', e, -⟩
      · exact q
      · omega
    rw [if_pos ho] at h0 h1
    have room := RW_room hrw hr12 (WP_open hw ho hv4)
    have hij : x3.toNat < x4.toNat := by omega
    have hj : x4.toNat < p.1 x2.toNat + 2 := by omega
    refine sm_takeWith hR hv4 hr12 hij hj room v1 r1 (by omega) (by omega) (fun s f hT => ?_)
    have hMs := mMD_F hM f (by omega) A1_3
    refine sm_feas hD hv4 (RW_ins hrw hr12 (WP_open hw ho hv4) hij hj) hMs hT v1 (fun s2 f2 hF y hy => ?_) (fun s2 f2 hF y hy => ?_)
    · rw [if_neg (by decide)] at hy
      rw [hy]
      exact h0 s2 (mF_t (mF_w f (by omega) (by omega) (fun _ h => h)) (mF_w f2 (by omega) (by omega) A_01)) (if_t hF) q1 q2 q34 ho (mT_F hT f2 (by omega))
    · rw [if_pos rfl] at hy
      rw [hy]
      have h1 := h1 s2 (mF_t (mF_w f (by omega) (by omega) (fun _ h => h)) (mF_w f2 (by omega) (by omega) A_01))
      rw [if_f hF] at h1
      exact h1 (by decide)
  · have ho : ¬ p.2.2 x1.toNat = -1 := by omega
    have h1 := h1 σ mF_r
    rw [if_neg ho] at h1
    exact h1 (by decide)
theorem m_cost {S : ST} (hV : Val S) {σ : Sto} (hI : InvM σ S) {x1 x2 x3 x4 : Int} {Q : Int → Sto → Prop} (hQ : ∀ σ', InvM σ' S → frM σ σ' → Q (f_cost S x1 x2 x3 x4) σ') : CLi l G mX8_cost [vR 56, vI x1, vI x2, vI x3, vI x4] σ Q := by
  obtain ⟨hM, hR, hH⟩ := id hI
  obtain ⟨hD, hw, hf, -, -⟩ := id hV
  have nb := nv_b hD
  unfold f_cost at hQ
  refine clX8_cost l G σ Q x1 x2 x3 x4 (sm_ibar hV hI (fun s f e0 q1 q2 q3 ho hT => ⟨fun _ => ?_, fun c => absurd (by decide) c⟩) (fun s f e0 => ⟨fun c => absurd c (by omega), fun _ => ?_⟩))
  · have hr : 0 ≤ x1 ∧ x1 < S.1 10 1 := q1
    have hv : 0 ≤ x2 ∧ x2 < S.1 10 0 := q2
    have hv4 : x2.toNat < 4 := by omega
    have v1 : x2 = x2.toNat := by omega
    have hr12 : x1.toNat < 12 := by omega
    have hrw := hw.1 _ hv4
    have hij : x3.toNat < x4.toNat := by omega
    have hj : x4.toNat < S.2.1.1 x2.toNat + 2 := by omega
    have hwi := RW_ins hrw hr12 (WP_open hw ho hv4) hij hj
    have hMs := mMD_F hM f (by omega) A1_3
    have e := rl_ins S.1 (v := x2.toNat) (t := S.2.1.2.1 x2.toNat) (r := x1.toNat) hij hj
    have b1 := rl_b hD hv4 hwi
    have b2 := rl_b hD hv4 hrw
    refine sm_len hD hMs hv4 hwi hT v1 (sm_lenR hD hMs hw (mR_F hR f (by omega)) hv4 v1 (fun s2 f2 => ⟨by omega, ?_⟩))
    have f12 := mF_t f (mF_w f2 (by omega) (by omega) (fun _ h => h) : mF 69 70 A1 s s2)
    have hQ := hQ s2 (InvM_1 hI f12 (by omega) (by omega)) (frM_F f12 (by omega) (by omega))
    rw [if_pos e0] at hQ
    rw [e]
    rw [show ∀ a b : Int, a + b - a = b by omega]; exact hQ
  · have hQ := hQ s (InvM_1 hI f (by omega) (by omega)) (frM_F f (by omega) (by omega))
    rw [if_neg (by omega)] at hQ
    exact hQ
theorem m_best {S : ST} (hV : Val S) {σ : Sto} (hI : InvM σ S) {x1 x2 : Int} {Q : Int → Sto → Prop} (hQ : ∀ σ', InvM σ' S → frM σ σ' → Q (f_best S x1 x2) σ') : CLi l G mX8_best [vR 56, vI x1, vI x2] σ Q := by
  obtain ⟨D, p, hs⟩ := S
  obtain ⟨hM, hR, hH⟩ := id hI
  obtain ⟨hD, hw, hf, -, -⟩ := id hV
  have hM : mMD D σ := hM
  have hR : mR (σ 68) 0 p := hR
  have hD : DOK D := hD
  have hw : WP D p := hw
  have nb := nv_b hD
  have hQ0 := hQ σ hI frM_r
  unfold f_best f_oe2 f_oe at hQ hQ0
  refine clX8_best l G σ Q x1 x2 (sm_noR hD hM (fun q1 => ⟨fun _ => ?_, fun e => absurd rfl e⟩) (fun q1 => ⟨fun e => absurd e (by decide), fun _ => ?_⟩))
  · refine sm_noV hD hM (fun q2 => ⟨fun _ => ?_, fun e => absurd rfl e⟩) (fun q2 => ⟨fun e => absurd e (by decide), fun _ => by rw [if_f q2] at hQ0; exact hQ0⟩)
    rw [if_t q2, if_t q1] at hQ0 hQ
    have hr : 0 ≤ x1 ∧ x1 < D 10 1 := q1
    have hv : 0 ≤ x2 ∧ x2 < D 10 0 := q2
    have hv4 : x2.toNat < 4 := by omega
    have v1 : x2 = x2.toNat := by omega
    have hr12 : x1.toNat < 12 := by omega
    have r1 : x1 = x1.toNat := by omega
    refine sm_vOf hD hM hw hR hr12 r1 ⟨fun c => ?_, fun c => ?_⟩
    · have ho : p.2.2 x1.toNat = -1 := by
        rcases hw.2.2.1 x1.toNat hr12 with q | ⟨v, a, b', e, -⟩
        · exact q
        · omega
      refine sm_fBest hD hM hw hR hv4 hr12 ho r1 v1 (fun y s f hA => ?_)
      have hQ := hQ s (InvM_2 hI f (by omega) (by omega)) (frM_F f (by omega) (by omega))
      simp only [if_pos ho] at hQ
      unfold bst at hQ
      cases ea : sc D x2.toNat (p.1 x2.toNat) (p.2.1 x2.toNat) x1.toNat none with
      | none =>
        rw [ea] at hA
        have hA : y = 0 := hA
        simp only [ea] at hQ
        exact ⟨fun z => absurd hA z, fun z hz => by rw [if_pos hA] at hz; rw [hz]; exact hQ⟩
      | some a =>
        rw [ea] at hA
        obtain ⟨hy, e1, e2, -⟩ := hA
        simp only [ea] at hQ
        obtain ⟨c', w, i, j⟩ := a
        have ev : w = x2.toNat := sc_v ea
        subst ev
        obtain ⟨-, -, hij, hj, -, -⟩ := AOK_sc (D := D) (p := p) (r := x1.toNat) hv4 (by omega) (acc := none) (fun _ _ _ _ h => by cases h) c' _ i j ea
        have room := RW_room (hw.1 _ hv4) hr12 (WP_open hw ho hv4)
        have e1 : s 56 19 = (i : Nat) := e1
        have e2 : s 56 20 = (j : Nat) := e2
        refine ⟨fun _ => ⟨by omega, by omega, trivial⟩, fun z hz => ?_⟩
        rw [if_neg (by omega), e1, e2] at hz
        rw [hz]; exact hQ
    · have ho : ¬ p.2.2 x1.toNat = -1 := by omega
      simp only [if_neg ho] at hQ0
      exact hQ0
  · by_cases q2 : isVh D x2
    · rw [if_t q2, if_f q1] at hQ0; exact hQ0
    · rw [if_f q2] at hQ0; exact hQ0
end MODELG
