section CLASSC
variable {l : Launch} {G : GT}
theorem sp_open {D : Sto} (hD : DOK D) {p : PL} {σ : Sto} (hP : rP D σ) (hp : rPl σ 74 p) {Q : Int → Sto → Prop} (hQ : Q (opn p (nrN D)) σ) : CLi l G mX7_openRequests [vR 0] σ Q := by
  have nb := nv_b hD
  have ob : ∀ k : Nat, 0 ≤ opn p k ∧ opn p k ≤ k := by
    intro k
    induction k with
    | zero => simp [opn]
    | succ k ih => simp only [opn]; split <;> omega
  have key : ∀ (m k : Nat) (x1 x2 : Int), k + m = nrN D → x2 = k → x1 = opn p k → MWi l G mX7_openRequests 4 [(0, vR 0), (1, vI x1), (2, vI x2)] [] σ Q := by
    intro m
    induction m with
    | zero =>
      intro k x1 x2 hk h2 h1
      obtain rfl : k = nrN D := by omega
      exact vcX7_openRequests_4 l G σ Q x1 x2 ⟨fun _ => by rw [h1]; exact hQ, fun q => absurd (by rw [hP.1.2.1]; omega) q⟩
    | succ m ih =>
      intro k x1 x2 hk h2 h1
      have e : x2.toNat = k := by omega
      have b := ob k
      refine vcX7_openRequests_4 l G σ Q x1 x2 ⟨fun q => absurd q (by rw [hP.1.2.1]; omega), fun _ => sp_isOpen hp (by omega) (fun c => ⟨fun _ => ⟨by omega, trivial⟩, fun y hy => ⟨by omega, ih (k + 1) _ _ (by omega) (by omega) ?_⟩⟩) (fun c => ⟨fun q => absurd rfl q, fun y hy => ⟨by omega, ih (k + 1) _ _ (by omega) (by omega) ?_⟩⟩)⟩
      · rw [e] at c
        rw [if_neg (by decide)] at hy
        simp only [opn]; rw [if_pos c]; omega
      · rw [e] at c
        rw [if_pos rfl] at hy
        simp only [opn]; rw [if_neg c]; omega
  exact clX7_openRequests l G σ Q (key (nrN D) 0 _ _ (by omega) rfl rfl)
theorem c_count {S : ST} (hV : Val S) {σ : Sto} (hI : InvC σ S) {x1 : Int} {Q : Int → Sto → Prop} (hQ : ∀ σ', InvC σ' S → frC σ σ' → Q (f_count S x1) σ') : CLi l G mX7_count [vR 0, vI x1] σ Q := by
  obtain ⟨D, p, hs⟩ := S
  obtain ⟨hP, hp, o, ho, h1, h0, hl, hh⟩ := id hI
  obtain ⟨hD, hw, hf, -, -⟩ := id hV
  have hP : rP D σ := hP
  have hp : rPl σ 74 p := hp
  have hQ := hQ σ hI frC_r
  refine clX7_count l G σ Q x1 ⟨fun c => ?_, fun c => ?_, fun c => sp_open hD hP hp ?_, fun c => sp_total hD pl_74 hP hp hw ?_, fun c => ?_, fun c => ?_, fun c => ?_⟩
  · rw [hP.1.1]; simpa [f_count, c] using hQ
  · rw [hP.1.2.1]; simpa [f_count, c] using hQ
  · simpa [f_count, c] using hQ
  · simpa [f_count, c] using hQ
  · rw [hP.1.2.2]; simpa [f_count, c] using hQ
  · rw [h0]; simpa [f_count, c] using hQ
  · have : f_count (D, p, hs) x1 = -1002 := by
      unfold f_count
      rw [if_neg (by omega), if_neg (by omega), if_neg (by omega), if_neg (by omega), if_neg (by omega), if_neg (by omega)]
    rwa [this] at hQ
theorem c_req {S : ST} (hV : Val S) {σ : Sto} (hI : InvC σ S) {x1 x2 : Int} {Q : Int → Sto → Prop} (hQ : ∀ σ', InvC σ' S → frC σ σ' → Q (f_req S x1 x2) σ') : CLi l G mX7_request [vR 0, vI x1, vI x2] σ Q := by
  obtain ⟨D, p, hs⟩ := S
  obtain ⟨hP, hp, hH⟩ := id hI
  obtain ⟨hD, hw, hf, -, -⟩ := id hV
  have hP : rP D σ := hP
  have hp : rPl σ 74 p := hp
  have hD : DOK D := hD
  have nb := nv_b hD
  have hQ := hQ σ hI frC_r
  unfold f_req at hQ
  refine clX7_request l G σ Q x1 x2 (sp_isRq hP (fun q => ⟨fun e => absurd e (by decide), fun _ => ?_⟩) (fun q => ⟨fun _ => by rw [if_f q] at hQ; exact hQ, fun e => absurd rfl e⟩))
  rw [if_t q] at hQ
  have hr : 0 ≤ x1 ∧ x1 < D 10 1 := q
  have hr12 : x1.toNat < 12 := by omega
  have e1 : (2 * x1).toNat = 2 * x1.toNat := by omega
  have e2 : (2 * x1 + 1).toNat = 2 * x1.toNat + 1 := by omega
  obtain ⟨a1, a2, a3⟩ := hP.2.2.1 _ hr12
  have w1 := hP.2.2.2.1 (2 * x1.toNat) (by omega)
  have w2 := hP.2.2.2.1 (2 * x1.toNat + 1) (by omega)
  have tr : σ (12 + 2 * x1.toNat) (2 * x1.toNat + 1) = ds D (2 * x1.toNat) (2 * x1.toNat + 1) := hP.2.2.2.2.2 _ (by omega) _ (by omega)
  have ev := hp.2 x1.toNat hr12
  rw [e1, e2]
  refine ⟨by omega, fun c => sp_isOpen hp (by omega) (fun c2 => ⟨fun q => absurd q (by decide), fun y hy => ?_⟩) (fun c2 => ⟨fun _ => ⟨by omega, trivial⟩, fun y hy => ?_⟩), fun c => ⟨by omega, ?_⟩, fun c => ⟨by omega, ?_⟩, fun c => ⟨by omega, ?_⟩, fun c => ⟨by omega, ?_⟩, fun c => ⟨by omega, by omega, ?_⟩, fun c => ⟨by omega, by omega, ?_⟩, fun c => ⟨by omega, by omega, by omega, ?_⟩, fun c => ?_⟩
  · rw [if_neg (by decide)] at hy
    rw [hy]; simpa [c, c2] using hQ
  · rw [if_pos rfl] at hy
    have ev : σ (74 + 2) x1.toNat = p.2.2 x1.toNat := ev
    rw [hy, ev]; simpa [c, c2] using hQ
  · rw [a2]; simpa [c] using hQ
  · rw [a1]; simpa [c] using hQ
  · rw [w1.1]; simpa [c] using hQ
  · rw [w1.2]; simpa [c] using hQ
  · rw [w2.1]; simpa [c] using hQ
  · rw [w2.2]; simpa [c] using hQ
  · rw [tr]; simpa [c] using hQ
  · rw [if_neg (by omega), if_neg (by omega), if_neg (by omega), if_neg (by omega), if_neg (by omega), if_neg (by omega), if_neg (by omega), if_neg (by omega)] at hQ
    exact hQ
theorem bsv_lt (p : PL) (v : Nat) : ∀ k, bsv p v k < 2 ^ k
  | 0 => by simp [bsv]
  | k + 1 => by
    have ih := bsv_lt p v k
    have e : 2 ^ (k + 1) = 2 ^ k * 2 := rfl
    simp only [bsv]
    split
    · exact Nat.or_lt_two_pow (by omega) (by omega)
    · omega
theorem sp_reqs {p : PL} {σ : Sto} (hp : rPl σ 74 p) {v : Nat} {x1 : Int} (hx : x1 = v) {Q : Int → Sto → Prop} (hQ : Q (bsv p v 12 : Int) σ) : CLi l G mX3_requestsOf [vR 74, vI x1] σ Q := by
  have key : ∀ (m k : Nat) (x2 x3 : Int), k + m = 12 → x3 = k → x2 = (bsv p v k : Nat) → MWi l G mX3_requestsOf 4 [(0, vR 74), (1, vI x1), (2, vI x2), (3, vI x3)] [] σ Q := by
    intro m
    induction m with
    | zero =>
      intro k x2 x3 hk h3 h2
      obtain rfl : k = 12 := by omega
      exact vcX3_requestsOf_4 l G σ Q 74 x1 x2 x3 pl_74 ⟨fun _ => by rw [h2]; exact hQ, fun q => absurd (by omega) q⟩
    | succ m ih =>
      intro k x2 x3 hk h3 h2
      have e : x3.toNat = k := by omega
      refine vcX3_requestsOf_4 l G σ Q 74 x1 x2 x3 pl_74 ⟨fun q => absurd q (by omega), fun _ => ?_⟩
      have ev : σ (74 + 2) k = p.2.2 k := hp.2 k (by omega)
      rw [e, ev]
      refine ⟨by omega, fun _ => ⟨by omega, by omega, Int.natCast_nonneg _, trivial⟩, fun y hy => ⟨by omega, ih (k + 1) _ _ (by omega) (by omega) ?_⟩⟩
      simp only [bsv]
      by_cases c : p.2.2 k = x1
      · rw [if_pos c] at hy
        rw [if_pos (by omega), hy, h2, Int.toNat_natCast, Int.toNat_natCast]
      · rw [if_neg c] at hy
        rw [if_neg (by omega), hy, h2]
  exact clX3_requestsOf l G σ Q 74 x1 pl_74 (key 12 0 0 0 (by omega) rfl rfl)
theorem c_veh {S : ST} (hV : Val S) {σ : Sto} (hI : InvC σ S) {x1 x2 : Int} {Q : Int → Sto → Prop} (hQ : ∀ σ', InvC σ' S → frC σ σ' → Q (f_veh S x1 x2) σ') : CLi l G mX7_vehicle [vR 0, vI x1, vI x2] σ Q := by
  obtain ⟨D, p, hs⟩ := S
  obtain ⟨hP, hp, hH⟩ := id hI
  obtain ⟨hD, hw, hf, -, -⟩ := id hV
  have hP : rP D σ := hP
  have hp : rPl σ 74 p := hp
  have hD : DOK D := hD
  have hw : WP D p := hw
  have nb := nv_b hD
  unfold f_veh at hQ
  refine clX7_vehicle l G σ Q x1 x2 (sp_isVh hP (fun q => ⟨fun e => absurd e (by decide), fun _ => ?_⟩) (fun q => ⟨fun _ => by have hQ := hQ σ hI frC_r; rw [if_f q] at hQ; exact hQ, fun e => absurd rfl e⟩))
  rw [if_t q] at hQ
  have hv : 0 ≤ x1 ∧ x1 < D 10 0 := q
  have hv4 : x1.toNat < 4 := by omega
  have hQ0 := hQ σ hI frC_r
  obtain ⟨b1, b2, b3⟩ := hP.2.1 _ hv4
  have hR := hp.1 _ hv4
  refine ⟨by omega, fun c => ?_, fun c => ?_, fun c => ?_, fun c => ?_, fun c => sp_len hD hv4 (isRt_of pl_74 hv4) (hw.1 _ hv4) hP hR ?_, fun c => sp_lookAt hD hv4 (rok_of hv4) (hw.1 _ hv4) hP hR (fun s g hT => ?_), fun c => sp_reqs hp (v := x1.toNat) (by omega) ?_, fun c => ?_⟩
  · rw [b1]; simpa [c] using hQ0
  · rw [b2]; simpa [c] using hQ0
  · rw [b3]; simpa [c] using hQ0
  · rw [hR.2.2.1]; simpa [c] using hQ0
  · simpa [c] using hQ0
  · rw [hT.2.1.2.1]
    have f := fI_ag g (by omega) (by omega)
    have hQ := hQ s (InvC_I hI f) (frC_I f)
    simpa [c] using hQ
  · simpa [c] using hQ0
  · rw [if_neg (by omega), if_neg (by omega), if_neg (by omega), if_neg (by omega), if_neg (by omega), if_neg (by omega), if_neg (by omega)] at hQ0
    exact hQ0
theorem c_stop {S : ST} (hV : Val S) {σ : Sto} (hI : InvC σ S) {x1 x2 x3 : Int} {Q : Int → Sto → Prop} (hQ : ∀ σ', InvC σ' S → frC σ σ' → Q (f_stop S x1 x2 x3) σ') : CLi l G mX7_stop [vR 0, vI x1, vI x2, vI x3] σ Q := by
  obtain ⟨D, p, hs⟩ := S
  obtain ⟨hP, hp, hH⟩ := id hI
  obtain ⟨hD, hw, hf, -, -⟩ := id hV
  have hP : rP D σ := hP
  have hp : rPl σ 74 p := hp
  have hD : DOK D := hD
  have hw : WP D p := hw
  have hf : FEP D p := hf
  have nb := nv_b hD
  unfold f_stop at hQ
  have bad : ¬ (isVh D x1 ∧ 0 ≤ x2 ∧ x2 < p.1 x1.toNat) → Q (-1001) σ := fun q => by have hQ := hQ σ hI frC_r; rw [if_f q] at hQ; exact hQ
  refine clX7_stop l G σ Q x1 x2 x3 (sp_isVh hP (fun q => ⟨fun e => absurd e (by decide), fun _ => ?_⟩) (fun q => ⟨fun _ => bad (fun z => q z.1), fun e => absurd rfl e⟩))
  have hv : 0 ≤ x1 ∧ x1 < D 10 0 := q
  have hv4 : x1.toNat < 4 := by omega
  have hR := hp.1 _ hv4
  have hRW := hw.1 _ hv4
  have hF := hf _ hv4
  rw [hR.2.2.1]
  refine ⟨by omega, fun c => bad (fun z => by omega), fun c => ⟨fun c2 => ?_, fun c2 => bad (fun z => c2 z.2.2)⟩⟩
  rw [if_t ⟨q, by omega, c2⟩] at hQ
  simp only at hQ
  have hk : x2.toNat < p.1 x1.toNat := by omega
  have n24 := hRW.1
  have et := hR.2.2.2 x2.toNat hk
  rw [et]
  have hQ0 := hQ σ hI frC_r
  refine ⟨by omega, fun c3 => ⟨by omega, ?_⟩, fun c3 => ⟨by omega, ?_⟩, fun c3 => sp_fits hD hv4 (rok_of hv4) hRW hP hR (fun s g hT _ hE => ?_) (fun s g hN => absurd hF hN), fun c3 => sp_late2 hD hv4 (rok_of hv4) hRW hF.2 hP hR (fun s g hT hL => ?_), fun c3 => sp_lookAt hD hv4 (rok_of hv4) hRW hP hR (fun s g hT => ?_), fun c3 => sp_fits hD hv4 (rok_of hv4) hRW hP hR (fun s g hT _ hE => ?_) (fun s g hN => absurd hF hN), fun c3 => ?_⟩
  · simpa [c3] using hQ0
  · simpa [c3] using hQ0
  · have f := fI_ag g (by omega) (by omega)
    have hQ := hQ s (InvC_I hI f) (frC_I f)
    rw [eS_eq hE hk]; simpa [c3] using hQ
  · have f := fI_ag g (by omega) (by omega)
    have hQ := hQ s (InvC_I hI f) (frC_I f)
    rw [lS_eq hL hk]; simpa [c3] using hQ
  · have f := fI_ag g (by omega) (by omega)
    have hQ := hQ s (InvC_I hI f) (frC_I f)
    rw [hT.2.1.2.2.1 _ hk]; simpa [c3] using hQ
  · have f := fI_ag g (by omega) (by omega)
    have hQ := hQ s (InvC_I hI f) (frC_I f)
    refine sp_wait hD hv4 hRW hT (eS_is hE).1 (fun i hi => eS_eq hE hi) hk (by omega) ?_
    simpa [c3] using hQ
  · rw [if_neg (by omega), if_neg (by omega), if_neg (by omega), if_neg (by omega), if_neg (by omega), if_neg (by omega)] at hQ0
    exact hQ0
theorem c_ride {S : ST} (hV : Val S) {σ : Sto} (hI : InvC σ S) {x1 x2 : Int} {Q : Int → Sto → Prop} (hQ : ∀ σ', InvC σ' S → frC σ σ' → Q (f_ride S x1 x2) σ') : CLi l G mX7_rideTime [vR 0, vI x1, vI x2] σ Q := by
  obtain ⟨D, p, hs⟩ := S
  obtain ⟨hP, hp, hH⟩ := id hI
  obtain ⟨hD, hw, hf, -, -⟩ := id hV
  have hP : rP D σ := hP
  have hp : rPl σ 74 p := hp
  have hD : DOK D := hD
  have hw : WP D p := hw
  have hf : FEP D p := hf
  have nb := nv_b hD
  unfold f_ride at hQ
  refine clX7_rideTime l G σ Q x1 x2 (sp_isRq hP (fun q => ⟨fun e => absurd e (by decide), fun _ => ?_⟩) (fun q => ⟨fun _ => by have hQ := hQ σ hI frC_r; rw [if_f q] at hQ; exact hQ, fun e => absurd rfl e⟩))
  rw [if_t q] at hQ
  have hr : 0 ≤ x1 ∧ x1 < D 10 1 := q
  have hr12 : x1.toNat < 12 := by omega
  refine sp_isOpen hp (by omega) (fun c => ⟨fun e => absurd e (by decide), fun _ => by have hQ := hQ σ hI frC_r; simp only [if_pos c] at hQ; exact hQ⟩) (fun c => ⟨fun _ => ?_, fun e => absurd rfl e⟩)
  simp only [if_neg c] at hQ
  obtain ⟨v, i, j, hv4, hv2, ev, hij, hj, g1, g2, -, -⟩ := WP_tk0 hw hr12 c
  have hR := hp.1 _ hv4
  have hRW := hw.1 _ hv4
  have hF := hf _ hv4
  have ev2 : σ (74 + 2) x1.toNat = p.2.2 x1.toNat := hp.2 _ hr12
  rw [ev2, ev, Int.toNat_natCast]
  rw [ev, Int.toNat_natCast, px_eq _ hRW.2.2.1 (by omega) g1, px_eq _ hRW.2.2.1 hj g2] at hQ
  refine ⟨by omega, by omega, fun c2 => sp_fits hD hv4 (rok_of hv4) hRW hP hR (fun s g hT _ hE => ?_) (fun s g hN => absurd hF hN), fun c2 => sp_late2 hD hv4 (rok_of hv4) hRW hF.2 hP hR (fun s g hT hL => ?_)⟩
  · have f := fI_ag g (by omega) (by omega)
    have hQ := hQ s (InvC_I hI f) (frC_I f)
    rw [if_pos c2] at hQ
    exact sp_ride hD hRW (rP_fI hP f) hT sh_41 (eS_is hE).1 (fun i hi => eS_eq hE hi) (by omega) hj g1 g2 (by omega) hQ
  · have f := fI_ag g (by omega) (by omega)
    have hQ := hQ s (InvC_I hI f) (frC_I f)
    rw [if_neg c2] at hQ
    exact sp_ride hD hRW (rP_fI hP f) hT sh_42 (lS_is hL).1 (fun i hi => lS_eq hL hi) (by omega) hj g1 g2 (by omega) hQ
theorem c_depot {S : ST} (hV : Val S) {σ : Sto} (hI : InvC σ S) {x1 x2 : Int} {Q : Int → Sto → Prop} (hQ : ∀ σ', InvC σ' S → frC σ σ' → Q (f_depot S x1 x2) σ') : CLi l G mX7_depotTime [vR 0, vI x1, vI x2] σ Q := by
  obtain ⟨D, p, hs⟩ := S
  obtain ⟨hP, hp, hH⟩ := id hI
  obtain ⟨hD, hw, hf, -, -⟩ := id hV
  have hP : rP D σ := hP
  have hp : rPl σ 74 p := hp
  have hD : DOK D := hD
  have hw : WP D p := hw
  have hf : FEP D p := hf
  have nb := nv_b hD
  unfold f_depot at hQ
  refine clX7_depotTime l G σ Q x1 x2 (sp_isVh hP (fun q => ⟨fun e => absurd e (by decide), fun _ => ?_⟩) (fun q => ⟨fun _ => by have hQ := hQ σ hI frC_r; rw [if_f q] at hQ; exact hQ, fun e => absurd rfl e⟩))
  rw [if_t q] at hQ
  have hv : 0 ≤ x1 ∧ x1 < D 10 0 := q
  have hv4 : x1.toNat < 4 := by omega
  have hR := hp.1 _ hv4
  have hRW := hw.1 _ hv4
  have hF := hf _ hv4
  rw [hR.2.2.1]
  simp only at hQ
  refine ⟨by omega, fun c => ?_, fun c => ?_⟩
  · have hQ := hQ σ hI frC_r
    rw [if_pos (by omega)] at hQ; exact hQ
  · have hn : ¬ p.1 x1.toNat = 0 := by omega
    rw [if_neg hn] at hQ
    have n24 := hRW.1
    refine ⟨fun c2 => sp_late2 hD hv4 (rok_of hv4) hRW hF.2 hP hR (fun s g hT hL => ?_), fun c2 => sp_fits hD hv4 (rok_of hv4) hRW hP hR (fun s g hT _ hE => ?_) (fun s g hN => absurd hF hN)⟩
    · have f := fI_ag g (by omega) (by omega)
      have hQ := hQ s (InvC_I hI f) (frC_I f)
      rw [if_pos c2] at hQ
      have eg : s 44 0 = ds D (24 + x1.toNat) (p.2.1 x1.toNat 0) := by rw [hT.2.1.2.2.2.1 0 (by omega)]; simp [gpf]
      have b1 := SC_0 hD hRW hL.1 0 (by omega)
      have b2 := ds_le hD (a := 24 + x1.toNat) (b := p.2.1 x1.toNat 0) (by omega) (by have := hRW.2.1 0 (by omega); omega)
      have b3 := ds_0 D (24 + x1.toNat) (p.2.1 x1.toNat 0)
      rw [eg]
      rw [← lS_eq hL (by omega)] at hQ
      exact ⟨by omega, hQ⟩
    · have f := fI_ag g (by omega) (by omega)
      have hQ := hQ s (InvC_I hI f) (frC_I f)
      rw [if_neg c2] at hQ
      have e2 : s (74 + 3 + x1.toNat) 2 = (p.1 x1.toNat : Nat) := by rw [g _ (by omega)]; exact hR.2.2.1
      have hk : p.1 x1.toNat - 1 < p.1 x1.toNat := by omega
      have eg := hT.2.2.1 (by omega)
      have b1 := SC_0 hD hRW hE.1 _ hk
      have b2 := ds_le hD (a := p.2.1 x1.toNat (p.1 x1.toNat - 1)) (b := 24 + x1.toNat) (by have := hRW.2.1 _ hk; omega) (by omega)
      have b3 := ds_0 D (p.2.1 x1.toNat (p.1 x1.toNat - 1)) (24 + x1.toNat)
      have sv := hD.1
      rw [e2, show (((p.1 x1.toNat : Nat) : Int) - 1).toNat = p.1 x1.toNat - 1 by omega, Int.toNat_natCast, eg]
      rw [← eS_eq hE hk] at hQ
      have ee : s 41 (p.1 x1.toNat - 1) + f_depot.D9 D x1.toNat (p.2.1 x1.toNat (p.1 x1.toNat - 1)) = s 41 (p.1 x1.toNat - 1) + (ds D (p.2.1 x1.toNat (p.1 x1.toNat - 1)) (24 + x1.toNat) + D 0 0) := by unfold f_depot.D9; omega
      have hQ : Q (s 41 (p.1 x1.toNat - 1) + f_depot.D9 D x1.toNat (p.2.1 x1.toNat (p.1 x1.toNat - 1))) s := hQ
      rw [ee] at hQ
      exact ⟨by omega, by omega, by omega, by omega, hQ⟩
theorem sp_ie {S : ST} (hV : Val S) {σ : Sto} (hI : InvC σ S) {x1 x2 x3 x4 : Int} {Q : Int → Sto → Prop} (hQ : ∀ σ', fI σ σ' → Q (f_ie S x1 x2 x3 x4) σ') : CLi l G mX7_insertionError [vR 0, vI x1, vI x2, vI x3, vI x4] σ Q := by
  obtain ⟨D, p, hs⟩ := S
  obtain ⟨hP, hp, hH⟩ := id hI
  obtain ⟨hD, hw, hf, -, -⟩ := id hV
  have hP : rP D σ := hP
  have hp : rPl σ 74 p := hp
  have hD : DOK D := hD
  have hw : WP D p := hw
  have nb := nv_b hD
  unfold f_ie at hQ
  have bad1 : ¬ (isRq D x1 ∧ isVh D x2) → Q (-1001) σ := fun q => by have hQ := hQ σ fI_r; rw [if_f q] at hQ; exact hQ
  refine clX7_insertionError l G σ Q x1 x2 x3 x4 (sp_isRq hP (fun q1 => ⟨fun e => absurd e (by decide), fun _ => sp_isVh hP (fun q2 => ⟨fun e => absurd e (by decide), fun _ => ?_⟩) (fun q => ⟨fun _ => bad1 (fun z => q z.2), fun e => absurd rfl e⟩)⟩) (fun q => ⟨fun _ => bad1 (fun z => q z.1), fun e => absurd rfl e⟩))
  rw [if_t ⟨q1, q2⟩] at hQ
  have hr : 0 ≤ x1 ∧ x1 < D 10 1 := q1
  have hv : 0 ≤ x2 ∧ x2 < D 10 0 := q2
  have hv4 : x2.toNat < 4 := by omega
  have hr12 : x1.toNat < 12 := by omega
  have hR := hp.1 _ hv4
  have hRW := hw.1 _ hv4
  have n24 := hRW.1
  rw [hR.2.2.1]
  have bad2 : ¬ (0 ≤ x3 ∧ x3 < x4 ∧ x4 ≤ p.1 x2.toNat + 1) → Q (-1002) σ := fun q => by have hQ := hQ σ fI_r; rw [if_f q] at hQ; exact hQ
  refine ⟨by omega, fun c => bad2 (by omega), fun c => ⟨fun c2 => bad2 (by omega), fun c2 => ⟨by omega, fun c3 => ?_, fun c3 => bad2 (by omega)⟩⟩⟩
  rw [if_t ⟨by omega, by omega, c3⟩] at hQ
  refine sp_isOpen hp (by omega) (fun c4 => ⟨fun e => absurd e (by decide), fun _ => ?_⟩) (fun c4 => ⟨fun _ => by have hQ := hQ σ fI_r; rw [if_neg c4] at hQ; exact hQ, fun e => absurd rfl e⟩)
  simp only [if_pos c4] at hQ
  have ho := WP_open hw c4 hv4
  have hij : x3.toNat < x4.toNat := by omega
  have hjb : x4.toNat < p.1 x2.toNat + 2 := by omega
  refine sp_with trivial (isRt_of pl_74 hv4) (by omega) hR hr12 hij hjb (RW_room hRW hr12 ho) (by omega) (by omega) (by omega) (fun σ1 g1 hR1 => ⟨rfl, ?_⟩)
  have f1 := fI_R g1
  refine sp_fits hD hv4 rok_51 (RW_ins hRW hr12 ho hij hjb) (rP_fI hP f1) hR1 (fun σ2 g2 _ hF _ y hy => ?_) (fun σ2 g2 hF y hy => ?_)
  · have hQ := hQ σ2 (fI_t f1 (fI_ag g2 (by omega) (by omega)))
    rw [if_t hF] at hQ
    rw [hy, if_neg (by decide)]; exact hQ
  · have hQ := hQ σ2 (fI_t f1 (fI_ag g2 (by omega) (by omega)))
    rw [if_f hF] at hQ
    rw [hy, if_pos rfl]; exact hQ
theorem c_cost {S : ST} (hV : Val S) {σ : Sto} (hI : InvC σ S) {x1 x2 x3 x4 : Int} {Q : Int → Sto → Prop} (hQ : ∀ σ', InvC σ' S → frC σ σ' → Q (f_cost S x1 x2 x3 x4) σ') : CLi l G mX7_cost [vR 0, vI x1, vI x2, vI x3, vI x4] σ Q := by
  refine clX7_cost l G σ Q x1 x2 x3 x4 (sp_ie hV hI (fun σ1 f1 => ?_))
  have hI1 := InvC_I hI f1
  have nb := nv_b hV.1
  unfold f_cost at hQ
  refine ⟨fun c => ?_, fun c => ?_⟩
  · obtain ⟨⟨a1, a2⟩, ⟨b1, b2⟩, ⟨c1, c2, c3⟩, d, e⟩ := ie_0 c
    rw [if_pos c] at hQ
    exact ⟨by omega, sp_added hV.1 (v := x2.toNat) (by omega) (isRt_of pl_74 (by omega)) (hV.2.1.1 _ (by omega)) hI1.1 (hI1.2.1.1 _ (by omega)) (q := x1.toNat) (i := x3.toNat) (j := x4.toNat) (by omega) (by omega) (by omega) (by omega) (by omega) (by omega) (hQ σ1 hI1 (frC_I f1))⟩
  · rw [if_neg c] at hQ; exact hQ σ1 hI1 (frC_I f1)
theorem c_ins {S : ST} (hV : Val S) {σ : Sto} (hI : InvC σ S) {x1 x2 x3 x4 : Int} {Q : Int → Sto → Prop} (hQ : ∀ σ', InvC σ' (f_ins S x1 x2 x3 x4).2 → frC σ σ' → Q (f_ins S x1 x2 x3 x4).1 σ') : CLi l G mX7_insert [vR 0, vI x1, vI x2, vI x3, vI x4] σ Q := by
  refine clX7_insert l G σ Q x1 x2 x3 x4 (sp_ie hV hI (fun σ1 f1 => ?_))
  have hI1 := InvC_I hI f1
  have nb := nv_b hV.1
  unfold f_ins at hQ
  refine ⟨fun c => ?_, fun c => ?_⟩
  · obtain ⟨⟨a1, a2⟩, ⟨b1, b2⟩, ⟨c1, c2, c3⟩, d, e⟩ := ie_0 c
    rw [if_pos c] at hQ
    refine ⟨by omega, sp_added hV.1 (v := x2.toNat) (by omega) (isRt_of pl_74 (by omega)) (hV.2.1.1 _ (by omega)) hI1.1 (hI1.2.1.1 _ (by omega)) (q := x1.toNat) (i := x3.toNat) (j := x4.toNat) (by omega) (by omega) (by omega) (by omega) (by omega) (by omega) (sp_record hI1.2.2 hI1.2.1 hV.2.1 (fun σ2 k2 h2 => ?_))⟩
    have hp2 := rPl_k hI1.2.1 (fun k a b => k2 k (by omega) (by omega))
    refine sp_Pput pl_74 hp2 (r := x1.toNat) (v := x2.toNat) (i := x3.toNat) (j := x4.toNat) (by omega) (by omega) (by omega) (by omega) (RW_room (hV.2.1.1 _ (by omega)) (by omega) (WP_open hV.2.1 d (by omega))) (by omega) (by omega) (by omega) (by omega) (fun σ3 g3 h3 => hQ σ3 ⟨?_, h3, rH_k h2 (g3 53 (by omega)) (fun k hk => g3 k (by omega))⟩ (fun k a b => ?_))
    · exact rP_k (rP_k hI1.1 (fun k hk => k2 k (by omega) (by omega))) (fun k hk => g3 k (by omega))
    · rw [g3 k (by omega), k2 k (by omega) (by omega), f1 k (by omega) (by omega) (by omega)]
  · rw [if_neg c] at hQ; exact hQ σ1 hI1 (frC_I f1)
theorem sp_oe {S : ST} (hV : Val S) {σ : Sto} (hI : InvC σ S) {x1 : Int} {Q : Int → Sto → Prop} (hQ : Q (f_oe S x1) σ) : CLi l G mX7_openRequestError [vR 0, vI x1] σ Q := by
  have nb := nv_b hV.1
  unfold f_oe at hQ
  refine clX7_openRequestError l G σ Q x1 (sp_isRq hI.1 (fun q => ⟨fun e => absurd e (by decide), fun _ => ?_⟩) (fun q => ⟨fun _ => by rw [if_f q] at hQ; exact hQ, fun e => absurd rfl e⟩))
  rw [if_t q] at hQ
  obtain ⟨a1, a2⟩ := q
  refine sp_isOpen hI.2.1 (by omega) (fun c y hy => ?_) (fun c y hy => ?_)
  · rw [if_pos c] at hQ; rw [hy, if_neg (by decide)]; exact hQ
  · rw [if_neg c] at hQ; rw [hy, if_pos rfl]; exact hQ
theorem sp_oe2 {S : ST} (hV : Val S) {σ : Sto} (hI : InvC σ S) {x1 x2 : Int} {Q : Int → Sto → Prop} (hQ : Q (f_oe2 S x1 x2) σ) : CLi l G mX7_openRequestError_ [vR 0, vI x1, vI x2] σ Q := by
  unfold f_oe2 at hQ
  refine clX7_openRequestError_ l G σ Q x1 x2 (sp_isVh hI.1 (fun q => ⟨fun e => absurd e (by decide), fun _ => sp_oe hV hI (by rw [if_t q] at hQ; exact hQ)⟩) (fun q => ⟨fun _ => by rw [if_f q] at hQ; exact hQ, fun e => absurd rfl e⟩))
theorem sp_bst {S : ST} (hV : Val S) {σ : Sto} (hI : InvC σ S) {x1 x2 : Int} (h : f_oe2 S x1 x2 = 0) {acc : Acc} (ha : rI σ acc) (hn : acc = none) {Q : Sto → Prop} (hQ : ∀ σ', fI σ σ' → rI σ' (bst S x1 x2) → Q σ') : CLv l G mX1_tryRoute [vR 50, vR (74 + 3 + x2.toNat), vI x1] σ Q := by
  obtain ⟨⟨b1, b2⟩, ⟨a1, a2⟩, ho⟩ := oe2_0 h
  have nb := nv_b hV.1
  subst hn
  exact sp_try hV.1 (v := x2.toNat) (by omega) (isRt_of pl_74 (by omega)) (by omega) (hV.2.1.1 _ (by omega)) (x := x1.toNat) (by omega) (WP_open hV.2.1 ho (by omega)) (by omega) hI.1 (hI.2.1.1 _ (by omega)) ha hQ
theorem c_best {S : ST} (hV : Val S) {σ : Sto} (hI : InvC σ S) {x1 x2 : Int} {Q : Int → Sto → Prop} (hQ : ∀ σ', InvC σ' S → frC σ σ' → Q (f_best S x1 x2) σ') : CLi l G mX7_best [vR 0, vI x1, vI x2] σ Q := by
  unfold f_best at hQ
  have nb := nv_b hV.1
  refine clX7_best l G σ Q x1 x2 (sp_oe2 hV hI ⟨fun c => sp_Istart (fun σ1 f1 i1 => ?_), fun c => by rw [if_neg c] at hQ; exact hQ σ hI frC_r⟩)
  rw [if_pos c] at hQ
  obtain ⟨⟨b1, b2⟩, ⟨a1, a2⟩, ho⟩ := oe2_0 c
  have hA := AOK_bst (r := x1) hV ⟨b1, b2⟩
  refine ⟨by omega, sp_bst hV (InvC_I hI f1) c i1 rfl (fun σ2 f2 i2 => ?_)⟩
  have hI2 := InvC_I hI (fI_t f1 f2)
  have hQ := hQ σ2 hI2 (frC_I (fI_t f1 f2))
  generalize bst S x1 x2 = acc at *
  cases acc with
  | none =>
    rw [i2.1]
    exact ⟨fun z => absurd rfl z, fun y hy => by rw [hy, if_pos rfl]; exact hQ⟩
  | some a =>
    obtain ⟨cc, v, i, j⟩ := a
    obtain ⟨j1, j2, j3, j4, j5⟩ := i2
    obtain ⟨h1, h2, h3, h4, -, -⟩ := hA cc v i j rfl
    have n24 := (hV.2.1.1 v h1).1
    simp only at j4 j5 hQ
    rw [j1, j4, j5]
    exact ⟨fun _ => ⟨by omega, by omega, trivial⟩, fun y hy => by rw [hy, if_neg (by decide)]; exact hQ⟩
theorem sp_coi {S : ST} (hV : Val S) {σ : Sto} (hI : InvC σ S) {x1 : Int} (hr : isRq S.1 x1) (ho : S.2.1.2.2 x1.toNat = -1) {acc : Acc} (ha : rI σ acc) (hA : AOK S.1 S.2.1 x1.toNat acc) {Q : Int → Sto → Prop} (h0 : acc = none → Q 0 σ)
    (h1 : ∀ a σ', acc = some a → InvC σ' (S.1, pput S.2.1 x1.toNat a.2.1 a.2.2.1 a.2.2.2, recH S.2.2 S.2.1) → rI σ' acc → frC σ σ' → Q 1 σ') : CLi l G mX7_carryOutInsertion [vR 0, vI x1] σ Q := by
  have nb := nv_b hV.1
  obtain ⟨a1, a2⟩ := hr
  cases hacc : acc with
  | none =>
    rw [hacc] at ha
    exact clX7_carryOutInsertion l G σ Q x1 ⟨fun _ => h0 hacc, fun z => absurd ha.1 z⟩
  | some a =>
    have ha' := ha
    rw [hacc] at ha'
    refine clX7_carryOutInsertion l G σ Q x1 ⟨fun z => absurd (ha'.1.symm.trans z) (by decide), fun _ => sp_record hI.2.2 hI.2.1 hV.2.1 (fun σ1 k1 h1' => ?_)⟩
    have hp1 := rPl_k hI.2.1 (fun k a b => k1 k (by omega) (by omega))
    have hi1 := rI_k ha (k1 50 (by omega) (by omega))
    refine sp_carry pl_74 (by omega) hp1 hV.2.1 (x := x1.toNat) (by omega) ho hi1 hA (by omega) (fun e => by rw [hacc] at e; cases e) (fun p' σ2 e g2 h2 i2 => ⟨Or.inr rfl, h1 a σ2 hacc ⟨?_, ?_, rH_k h1' (g2 53 (by omega)) (fun k hk => g2 k (by omega))⟩ i2 (fun k a b => ?_)⟩)
    · exact rP_k (rP_k hI.1 (fun k hk => k1 k (by omega) (by omega))) (fun k hk => g2 k (by omega))
    · rw [hacc] at e; cases e; exact h2
    · rw [g2 k (by omega), k1 k (by omega) (by omega)]
theorem c_asT {S : ST} (hV : Val S) {σ : Sto} (hI : InvC σ S) {x1 x2 : Int} {Q : Int → Sto → Prop} (hQ : ∀ σ', InvC σ' (f_asT S x1 x2).2 → frC σ σ' → Q (f_asT S x1 x2).1 σ') : CLi l G mX7_assignTo [vR 0, vI x1, vI x2] σ Q := by
  unfold f_asT at hQ
  have nb := nv_b hV.1
  refine clX7_assignTo l G σ Q x1 x2 (sp_oe2 hV hI ⟨fun c => sp_Istart (fun σ1 f1 i1 => ?_), fun c => by rw [if_neg c] at hQ; exact hQ σ hI frC_r⟩)
  rw [if_pos c] at hQ
  obtain ⟨⟨b1, b2⟩, ⟨a1, a2⟩, ho⟩ := oe2_0 c
  have hA := AOK_bst (r := x1) hV ⟨b1, b2⟩
  refine ⟨by omega, sp_bst hV (InvC_I hI f1) c i1 rfl (fun σ2 f2 i2 => ?_)⟩
  have hI2 := InvC_I hI (fI_t f1 f2)
  have fr := frC_I (fI_t f1 f2)
  refine sp_coi hV hI2 ⟨a1, a2⟩ ho i2 hA (fun e y hy => ?_) (fun a σ3 e hI3 i3 fr3 y hy => ?_)
  · rw [e] at hQ; rw [hy, if_pos rfl]; exact hQ σ2 hI2 fr
  · rw [e] at hQ i3; rw [hy, if_neg (by decide), i3.2.1]; exact hQ σ3 hI3 (frC_t fr fr3)
theorem c_asg {S : ST} (hV : Val S) {σ : Sto} (hI : InvC σ S) {x1 : Int} {Q : Int → Sto → Prop} (hQ : ∀ σ', InvC σ' (f_asg S x1).2 → frC σ σ' → Q (f_asg S x1).1 σ') : CLi l G mX7_assign [vR 0, vI x1] σ Q := by
  unfold f_asg at hQ
  have nb := nv_b hV.1
  refine clX7_assign l G σ Q x1 (sp_oe hV hI ⟨fun c => ?_, fun c => by rw [if_neg c] at hQ; exact hQ σ hI frC_r⟩)
  rw [if_pos c] at hQ
  obtain ⟨⟨a1, a2⟩, ho⟩ := oe_0 c
  refine sp_alb hV.1 pl_74 (by omega) hI.1 hI.2.1 hV.2.1 (x := x1.toNat) (by omega) ho (by omega) (fun σ2 f2 i2 => ?_)
  have hI2 := InvC_I hI f2
  have fr := frC_I f2
  refine sp_coi hV hI2 ⟨a1, a2⟩ ho i2 (AOK_alb _ nb.1 (by omega)) (fun e y hy => ?_) (fun a σ3 e hI3 i3 fr3 y hy => ?_)
  · rw [e] at hQ; rw [hy, if_pos rfl]; exact hQ σ2 hI2 fr
  · rw [e] at hQ i3; rw [hy, if_neg (by decide), i3.2.2.1]; exact hQ σ3 hI3 (frC_t fr fr3)
theorem c_rem {S : ST} (hV : Val S) {σ : Sto} (hI : InvC σ S) {x1 : Int} {Q : Int → Sto → Prop} (hQ : ∀ σ', InvC σ' (f_rem S x1).2 → frC σ σ' → Q (f_rem S x1).1 σ') : CLi l G mX7_remove [vR 0, vI x1] σ Q := by
  unfold f_rem at hQ
  have nb := nv_b hV.1
  refine clX7_remove l G σ Q x1 (sp_isRq hI.1 (fun q => ⟨fun e => absurd e (by decide), fun _ => ?_⟩) (fun q => ⟨fun _ => by rw [if_f q] at hQ; exact hQ σ hI frC_r, fun e => absurd rfl e⟩))
  rw [if_t q] at hQ
  obtain ⟨a1, a2⟩ := q
  refine sp_isOpen hI.2.1 (by omega) (fun c => ⟨fun e => absurd e (by decide), fun _ => by simp only [if_pos c] at hQ; exact hQ σ hI frC_r⟩) (fun c => ⟨fun _ => ?_, fun e => absurd rfl e⟩)
  simp only [if_neg c] at hQ
  refine sp_total hV.1 pl_74 hI.1 hI.2.1 hV.2.1 (sp_record hI.2.2 hI.2.1 hV.2.1 (fun σ1 k1 h1 => ?_))
  have hp1 := rPl_k hI.2.1 (fun k a b => k1 k (by omega) (by omega))
  refine sp_Ptake pl_74 hp1 hV.2.1 (r := x1.toNat) (by omega) (by omega) (fun σ2 g2 h2 => ?_)
  have hP2 : rP S.1 σ2 := rP_k (rP_k hI.1 (fun k hk => k1 k (by omega) (by omega))) (fun k hk => g2 k (by omega))
  have hw2 := (WP_tk hV.2.1 (r := x1.toNat) (by omega)).1
  have t1 := tl_b hV.1 hV.2.1
  have t2 := tl_b hV.1 hw2
  exact sp_total hV.1 pl_74 hP2 h2 hw2 ⟨by omega, hQ σ2 ⟨hP2, h2, rH_k h1 (g2 53 (by omega)) (fun k hk => g2 k (by omega))⟩ (fun k a b => by rw [g2 k (by omega), k1 k (by omega) (by omega)])⟩
def CAl (acc : CA) : Prop := ∀ x, acc = some x → x.2.1 < 12 ∧ (x.2.2.1 = 99 ∨ x.2.2.1 < 12)
theorem CAl_kst {D : Sto} {acc : CA} (h : CAl acc) {a b : Nat} (ha : a < 12) (hb : b = 99 ∨ b < 12) (o : Option PL) : CAl (kst D acc a b o) := by
  intro x e
  cases o with
  | none => exact h x e
  | some q =>
    cases acc with
    | none => cases e; exact ⟨ha, hb⟩
    | some y =>
      simp only [kst] at e
      split at e
      · cases e; exact ⟨ha, hb⟩
      · cases e; exact h _ rfl
theorem CAl_fch {D : Sto} (hD : DOK D) (p : PL) (r : Nat) : CAl (fch D p r) := by
  have nb := nv_b hD
  have s : ∀ m, m ≤ 12 → CAl (shS D p r m) := by
    intro m
    induction m with
    | zero => intro _ x e; cases e
    | succ m ih => intro hm; exact CAl_kst (ih (by omega)) (by omega) (Or.inl rfl) _
  have lB : ∀ a acc m, a < 12 → m ≤ 12 → CAl acc → CAl (lgB D p r a acc m) := by
    intro a acc m ha
    induction m with
    | zero => intro _ hc; exact hc
    | succ m ih => intro hm hc; exact CAl_kst (ih (by omega) hc) ha (Or.inr (by omega)) _
  have lA : ∀ m, m ≤ 12 → CAl (lgA D p r m) := by
    intro m
    induction m with
    | zero => intro _ x e; cases e
    | succ m ih => intro hm; exact lB m _ _ (by omega) nb.2.2.1 (ih (by omega))
  unfold fch
  have hs := s (nrN D) nb.2.2.1
  split
  · next x e => rw [e] at hs; exact hs
  · exact lA _ nb.2.2.1
theorem c_cc {S : ST} (hV : Val S) {σ : Sto} (hI : InvC σ S) {x1 : Int} {Q : Int → Sto → Prop} (hQ : ∀ σ', InvC σ' S → frC σ σ' → Q (f_cc S x1) σ') : CLi l G mX7_chainCost [vR 0, vI x1] σ Q := by
  unfold f_cc at hQ
  have nb := nv_b hV.1
  refine clX7_chainCost l G σ Q x1 (sp_oe hV hI ⟨fun c => ?_, fun c => by rw [if_neg c] at hQ; exact hQ σ hI frC_r⟩)
  rw [if_pos c] at hQ
  obtain ⟨⟨a1, a2⟩, ho⟩ := oe_0 c
  refine sp_fch hV.1 hI.1 hI.2.1 hV.2.1 (r := x1.toNat) (by omega) (by omega) ho (by omega) (fun σ1 f1 m1 => ?_)
  have hQ := hQ σ1 (InvC_M hI f1) (frC_M f1)
  have hl := CAl_fch hV.1 S.2.1 x1.toNat
  have tb := tl_b hV.1 hV.2.1
  generalize fch S.1 S.2.1 x1.toNat = acc at *
  cases acc with
  | none =>
    rw [m1.2.1]
    exact ⟨fun z => absurd rfl z, fun y hy => by rw [hy, if_pos rfl]; exact hQ⟩
  | some x =>
    have hx := (hl x rfl).1
    obtain ⟨e1, w1, hc⟩ := m1.2
    have tx := tl_b hV.1 w1
    rcases hc with q | ⟨q1, q2, q3, -⟩
    · omega
    · rw [q2, q3]
      exact ⟨fun _ => ⟨by omega, trivial⟩, fun y hy => by rw [hy, if_neg (by decide)]; exact hQ⟩
theorem c_ch {S : ST} (hV : Val S) {σ : Sto} (hI : InvC σ S) {x1 : Int} {Q : Int → Sto → Prop} (hQ : ∀ σ', InvC σ' (f_ch S x1).2 → frC σ σ' → Q (f_ch S x1).1 σ') : CLi l G mX7_chain [vR 0, vI x1] σ Q := by
  unfold f_ch at hQ
  have nb := nv_b hV.1
  refine clX7_chain l G σ Q x1 (sp_oe hV hI ⟨fun c => ?_, fun c => by rw [if_neg c] at hQ; exact hQ σ hI frC_r⟩)
  rw [if_pos c] at hQ
  obtain ⟨⟨a1, a2⟩, ho⟩ := oe_0 c
  refine sp_fch hV.1 hI.1 hI.2.1 hV.2.1 (r := x1.toNat) (by omega) (by omega) ho (by omega) (fun σ1 f1 m1 => ?_)
  have hI1 := InvC_M hI f1
  have hl := CAl_fch hV.1 S.2.1 x1.toNat
  generalize fch S.1 S.2.1 x1.toNat = acc at *
  cases acc with
  | none => exact ⟨fun _ => hQ σ1 hI1 (frC_M f1), fun z => absurd m1.2.1 z⟩
  | some x =>
    have hx := hl x rfl
    obtain ⟨e1, w1, hc⟩ := m1.2
    rcases hc with q | ⟨q1, q2, q3, q4, q5, q6⟩
    · omega
    · refine ⟨fun z => absurd (q2.symm.trans z) (by decide), fun _ => sp_record hI1.2.2 hI1.2.1 hV.2.1 (fun σ2 k2 h2 => ?_)⟩
      have h85 := rPl_k q6 (fun k a b => k2 k (by omega) (by omega))
      refine sp_Pbecome pl_74 pl_85 (by omega) h85 (fun v hv => (w1.1 v hv).1) (fun σ3 g3 h3 => ?_)
      have e52 : ∀ i, σ3 52 i = σ1 52 i := fun i => by rw [ag_at g3 (by omega), k2 52 (by omega) (by omega)]
      rw [e52, e52, q4, q5]
      refine ⟨by omega, by omega, hQ σ3 ⟨?_, h3, rH_k h2 (g3 53 (by omega)) (fun k hk => g3 k (by omega))⟩ (fun k a b => ?_)⟩
      · exact rP_k (rP_k hI1.1 (fun k hk => k2 k (by omega) (by omega))) (fun k hk => g3 k (by omega))
      · rw [g3 k (by omega), k2 k (by omega) (by omega), f1 k (by omega) (by omega) (by omega)]
theorem c_im {S : ST} (hV : Val S) {σ : Sto} (hI : InvC σ S) {Q : Int → Sto → Prop} (hQ : ∀ σ', InvC σ' (f_im S).2 → frC σ σ' → Q (f_im S).1 σ') : CLi l G mX7_improve [vR 0] σ Q := by
  unfold f_im at hQ
  refine clX7_improve l G σ Q (sp_fim hV.1 hI.1 hI.2.1 hV.2.1 (fun σ1 f1 m1 => ?_))
  have hI1 := InvC_M hI f1
  have tb := tl_b hV.1 hV.2.1
  generalize imS S.1 S.2.1 (nrN S.1) = acc at *
  cases acc with
  | none => exact ⟨fun _ => hQ σ1 hI1 (frC_M f1), fun z => absurd m1.2.1 z⟩
  | some x =>
    obtain ⟨e1, w1, hc⟩ := m1.2
    have tx := tl_b hV.1 w1
    rcases hc with ⟨q1, q2, q3, q4⟩ | ⟨q1, q2, q3, q4, q5, q6⟩
    · simp only [if_pos q1] at hQ
      exact ⟨fun _ => hQ σ1 hI1 (frC_M f1), fun z => absurd q3 z⟩
    · have hn : ¬ x.2.1 = 99 := by omega
      simp only [if_neg hn] at hQ
      refine ⟨fun z => absurd (q2.symm.trans z) (by decide), fun _ => sp_record hI1.2.2 hI1.2.1 hV.2.1 (fun σ2 k2 h2 => ?_)⟩
      have h85 := rPl_k q6 (fun k a b => k2 k (by omega) (by omega))
      refine sp_Pbecome pl_74 pl_85 (by omega) h85 (fun v hv => (w1.1 v hv).1) (fun σ3 g3 h3 => ?_)
      have e52 : ∀ i, σ3 52 i = σ1 52 i := fun i => by rw [ag_at g3 (by omega), k2 52 (by omega) (by omega)]
      rw [e52, q3, Int.neg_sub]
      refine ⟨by omega, hQ σ3 ⟨?_, h3, rH_k h2 (g3 53 (by omega)) (fun k hk => g3 k (by omega))⟩ (fun k a b => ?_)⟩
      · exact rP_k (rP_k hI1.1 (fun k hk => k2 k (by omega) (by omega))) (fun k hk => g3 k (by omega))
      · rw [g3 k (by omega), k2 k (by omega) (by omega), f1 k (by omega) (by omega) (by omega)]
theorem c_un {S : ST} (hV : Val S) {σ : Sto} (hI : InvC σ S) {Q : Int → Sto → Prop} (hQ : ∀ σ', InvC σ' (f_un S).2 → frC σ σ' → Q (f_un S).1 σ') : CLi l G mX7_undo [vR 0] σ Q := by
  obtain ⟨D, p, hs⟩ := S
  obtain ⟨hP, hp, hH⟩ := id hI
  have hH : rH σ hs := hH
  have hP : rP D σ := hP
  unfold f_un at hQ
  have hQ : ∀ σ', InvC σ' (match hs.getLast? with | none => (-1007, (D, p, hs)) | some h => ((hs.dropLast.length : Int), (D, h, hs.dropLast))).2 → frC σ σ' → Q (match hs.getLast? with | none => (-1007, (D, p, hs)) | some h => ((hs.dropLast.length : Int), (D, h, hs.dropLast))).1 σ' := hQ
  cases hg : hs.getLast? with
  | none =>
    have hn : hs = [] := List.getLast?_eq_none_iff.mp hg
    obtain ⟨o, ho, h1, h0, -⟩ := id hH
    rw [hn] at h0
    rw [hg] at hQ
    exact clX7_undo l G σ Q ⟨fun _ => hQ σ hI frC_r, fun z => absurd h0 z⟩
  | some h =>
    have he : hs.dropLast ++ [h] = hs := by
      have hne : hs ≠ [] := fun q => by rw [q] at hg; cases hg
      have h2 := List.dropLast_concat_getLast hne
      rw [List.getLast?_eq_some_getLast hne] at hg
      rwa [Option.some.inj hg] at h2
    rw [hg] at hQ
    obtain ⟨o, ho, h1, h0, -⟩ := id hH
    have hlen : hs.length = hs.dropLast.length + 1 := by
      have := congrArg List.length he
      rw [List.length_append, List.length_singleton] at this
      exact this.symm
    refine clX7_undo l G σ Q ⟨fun z => absurd z (by omega), fun _ => ?_⟩
    have hm : h ∈ hs := List.mem_of_getLast? hg
    refine sp_restore (hs := hs.dropLast) (p := h) (by rw [he]; exact hH) (hV.2.2.2.1 h hm).1 (fun σ1 k1 h74 hH1 => ?_)
    obtain ⟨o1, -, -, h01, -⟩ := id hH1
    rw [h01]
    exact hQ σ1 ⟨rP_k hP (fun k hk => k1 k (by omega) (by omega)), h74, hH1⟩ (fun k a b => k1 k (by omega) (by omega))
end CLASSC
