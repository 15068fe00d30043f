def fM (σ σ' : Sto) : Prop := ∀ k, (k < 40 ∨ 52 < k) → k ≠ 55 → (k < 85 ∨ 118 ≤ k) → σ' k = σ k
theorem fM_r {σ : Sto} : fM σ σ := fun _ _ _ _ => rfl
theorem fM_t {σ σ' σ'' : Sto} (h : fM σ σ') (h' : fM σ' σ'') : fM σ σ'' := fun k a b c => (h' k a b c).trans (h k a b c)
theorem fM_I {σ σ' : Sto} (h : fI σ σ') : fM σ σ' := fun k a b c => h k (by omega) (by omega) b
theorem fM_ag {σ σ' : Sto} {lo hi : Nat} (h : ag lo hi σ σ') (hl : 85 ≤ lo) (hh : hi ≤ 118) : fM σ σ' := fun k a b c => h k (by omega)
theorem rP_fM {D σ σ' : Sto} (h : rP D σ) (hf : fM σ σ') : rP D σ' := rP_k h (fun k hk => hf k (by omega) (by omega) (by omega))
theorem rPl_fM {σ σ' : Sto} {p : PL} (h : rPl σ 74 p) (hf : fM σ σ') : rPl σ' 74 p := rPl_k h (fun k h1 h2 => hf k (by omega) (by omega) (by omega))
def rMg (D : Sto) (σ : Sto) (base : Int) (acc : CA) : Prop := σ 52 9 = base ∧ match acc with
  | none => σ 52 0 = 0 ∧ σ 52 1 = 1000000
  | some x => x.1 = tl D x.2.2.2 ∧ WP D x.2.2.2 ∧ ((x.2.1 = 99 ∧ x.1 = base ∧ σ 52 0 = 0 ∧ σ 52 1 = 0) ∨ (x.2.1 < 12 ∧ σ 52 0 = 1 ∧ σ 52 1 = x.1 - base ∧ σ 52 2 = x.2.1 ∧ σ 52 3 = x.2.2.1 ∧ rPl σ 85 x.2.2.2))
theorem rMg_k {D : Sto} {σ σ' : Sto} {base : Int} {acc : CA} (h : rMg D σ base acc) (h1 : σ' 52 = σ 52) (h2 : ∀ k, 85 ≤ k → k < 96 → σ' k = σ k) : rMg D σ' base acc := by
  refine ⟨by rw [h1]; exact h.1, ?_⟩
  have h := h.2
  cases acc with
  | none => simp only at h ⊢; rw [h1]; exact h
  | some x =>
    simp only at h ⊢
    rw [h1]
    refine ⟨h.1, h.2.1, ?_⟩
    rcases h.2.2 with q | ⟨a, b, c, d, e, f⟩
    · exact Or.inl q
    · exact Or.inr ⟨a, b, c, d, e, rPl_k f (fun k q1 q2 => h2 k q1 (by omega))⟩
section MOVER
variable {l : Launch} {G : GT} {D : Sto}
theorem sp_keep (hD : DOK D) {σ : Sto} (hP : rP D σ) {base : Int} (hb : 0 ≤ base ∧ base ≤ 20000) {acc : CA} (hM : rMg D σ base acc) {q : PL} (hq : rPl σ 107 q) (hw : WP D q) {a b : Nat} (ha : a < 12) {x1 x2 : Int} (h1 : x1 = a) (h2 : x2 = b) {Q : Sto → Prop} (hQ : ∀ σ', fM σ σ' → (∀ k, 96 ≤ k → σ' k = σ k) → rMg D σ' base (kst D acc a b (some q)) → Q σ') : CLv l G mX2_keepIfBest [vR 52, vI x1, vI x2] σ Q := by
  refine clX2_keepIfBest l G σ Q x1 x2 (sp_total hD pl_107 hP hq hw ?_)
  have tb := tl_b hD hw
  rw [hM.1]
  have good : σ 52 1 > tl D q - base ↔ (kst D acc a b (some q) = some (tl D q, a, b, q)) ∧ (∀ x, acc = some x → tl D q < x.1) := by
    have h := hM.2
    cases acc with
    | none => simp only at h; simp [kst]; omega
    | some x =>
      simp only at h
      have e : σ 52 1 = x.1 - base := by
        rcases h.2.2 with q | q
        · omega
        · exact q.2.2.1
      simp only [kst]
      constructor
      · intro c
        have : tl D q < x.1 := by omega
        rw [if_pos this]
        exact ⟨rfl, fun y hy => by cases hy; exact this⟩
      · rintro ⟨-, c⟩
        have := c x rfl
        omega
  refine ⟨by omega, fun c => ?_, fun c => ?_⟩
  · refine hQ σ fM_r (fun _ _ => rfl) ?_
    cases acc with
    | none => have := hM.2.2; omega
    | some x =>
      have h := hM.2
      simp only at h
      have e : σ 52 1 = x.1 - base := by
        rcases h.2.2 with q | q
        · omega
        · exact q.2.2.1
      simp only [kst]
      rw [if_neg (by omega)]
      exact hM
  · obtain ⟨g1, -⟩ := good.mp (by omega)
    have hq' : rPl (stS (stS (stS (stS σ 52 0 1) 52 1 (tl D q - base)) 52 2 x1) 52 3 x2) 107 q := rPl_k hq (fun k hk _ => by funext i; rw [stS_ne (by omega), stS_ne (by omega), stS_ne (by omega), stS_ne (by omega)])
    refine sp_Pbecome pl_85 pl_107 (by omega) hq' (fun v hv => (hw.1 v hv).1) (fun σ1 g h => hQ σ1 (fun k a b c => ?_) (fun k hk => ?_) ?_)
    · rw [g k (by omega)]; funext i; rw [stS_ne (by omega), stS_ne (by omega), stS_ne (by omega), stS_ne (by omega)]
    · rw [g k (by omega)]; funext i; rw [stS_ne (by omega), stS_ne (by omega), stS_ne (by omega), stS_ne (by omega)]
    · rw [g1]
      have e : ∀ i, σ1 52 i = stS (stS (stS (stS σ 52 0 1) 52 1 (tl D q - base)) 52 2 x1) 52 3 x2 52 i := fun i => ag_at g (by omega) i
      refine ⟨by rw [e]; simpa [stS] using hM.1, rfl, hw, Or.inr ⟨ha, by rw [e]; simp [stS], by rw [e]; simp [stS], by rw [e]; simp [stS, h1], by rw [e]; simp [stS, h2], h⟩⟩
def fD (q : Nat) (σ σ' : Sto) : Prop := ∀ k, (k < 40 ∨ 50 < k) → k ≠ 51 → k ≠ 55 → (k < q ∨ q + 11 ≤ k) → σ' k = σ k
theorem fD_I {q : Nat} {σ σ' : Sto} (h : fI σ σ') : fD q σ σ' := fun k a b c _ => h k a b c
theorem fD_t {q : Nat} {σ σ' σ'' : Sto} (h : fD q σ σ') (h' : fD q σ' σ'') : fD q σ σ'' := fun k a b c d => (h' k a b c d).trans (h k a b c d)
theorem fD_ag {q : Nat} {σ σ' : Sto} (h : ag q (q + 11) σ σ') : fD q σ σ' := fun k _ _ _ d => h k d
theorem fM_D {q : Nat} {σ σ' : Sto} (h : fD q σ σ') (hq : 85 ≤ q ∧ q + 11 ≤ 118) : fM σ σ' := fun k a b c => h k (by omega) (by omega) b (by omega)
theorem lt_nr {p : PL} (hw : WP D p) {r : Nat} (hr : r < 12) (h : p.2.2 r ≠ -1) : (r : Int) < D 10 1 := Classical.byContradiction fun q => h (hw.2.2.2 r hr (by omega))
theorem sp_disp (hD : DOK D) {q : Nat} (hq : isPl q) (hq2 : 85 ≤ q) {σ : Sto} (hP : rP D σ) {p : PL} (hp : rPl σ q p) (hw : WP D p) {inn out : Nat} (hi : inn < 12) (hi2 : (inn : Int) < D 10 1) (ho : p.2.2 inn = -1) (hout : out < 12) {x2 x3 : Int} (h2 : x2 = inn) (h3 : x3 = out) {Q : Int → Sto → Prop}
    (h0 : ∀ σ', dispF D p inn out = none → fD q σ σ' → Q 0 σ') (h1 : ∀ p' σ', dispF D p inn out = some p' → fD q σ σ' → rPl σ' q p' → Q 1 σ') : CLi l G mX2_displace [vR 52, vR q, vI x2, vI x3] σ Q := by
  have e3 : x3.toNat = out := by omega
  refine clX2_displace l G σ Q q x2 x3 hq ?_
  rw [e3, hp.2 out hout]
  refine ⟨by omega, fun c => h0 σ (by unfold dispF; rw [if_pos c]) (fun _ _ _ _ _ => rfl), fun c => sp_Ptake hq hp hw hout h3 (fun σ1 g1 p1 => sp_Istart (fun σ2 f2 i2 => ?_))⟩
  obtain ⟨v, i, j, hv, hv2, ev, -⟩ := WP_tk0 hw hout c
  obtain ⟨w1, w2, w3⟩ := WP_tk hw hout
  have hio : inn ≠ out := fun q => c (by rw [← q]; exact ho)
  have eo : (ptk p out).2.2 inn = -1 := by rw [w3 inn hio]; exact ho
  have hP2 : rP D σ2 := rP_fI (rP_k hP (fun k hk => g1 k (by omega))) f2
  have p2 := rPl_fI p1 f2 (by omega)
  rw [ev, Int.toNat_natCast]
  refine ⟨by omega, sp_try hD hv (isRt_of hq hv) (by omega) (w1.1 v hv) hi (WP_open w1 eo hv) h2 hP2 (p2.1 v hv) i2 (fun σ3 f3 i3 => ?_)⟩
  have p3 := rPl_fI p2 f3 (by omega)
  have hA : AOK D (ptk p out) inn (sc D v ((ptk p out).1 v) ((ptk p out).2.1 v) inn none) := AOK_sc hv hv2 (fun _ _ _ _ h => by cases h)
  have ed : dispF D p inn out = pins (ptk p out) inn (sc D v ((ptk p out).1 v) ((ptk p out).2.1 v) inn none) := by
    unfold dispF; rw [if_neg c, ev, Int.toNat_natCast]
  have fr := fD_t (fD_ag g1) (fD_t (fD_I f2) (fD_I f3))
  exact sp_carry hq (by omega) p3 w1 hi eo i3 hA h2 (fun e => ⟨Or.inl rfl, h0 _ (ed.trans e) fr⟩) (fun p' σ4 e g4 p4 _ => ⟨Or.inr rfl, h1 p' σ4 (ed.trans e) (fD_t fr (fD_ag g4)) p4⟩)
theorem kst_none (acc : CA) (a b : Nat) : kst D acc a b none = acc := rfl
theorem sp_short (hD : DOK D) {σ : Sto} (hP : rP D σ) {p : PL} (hp : rPl σ 74 p) (hw : WP D p) {base : Int} (hb : 0 ≤ base ∧ base ≤ 20000) {acc : CA} (hM : rMg D σ base acc) {r a : Nat} (hr : r < 12) (hr2 : (r : Int) < D 10 1) (ho : p.2.2 r = -1) (ha : a < 12) {x2 x3 : Int} (h2 : x2 = r) (h3 : x3 = a) {Q : Sto → Prop} (hQ : ∀ σ', fM σ σ' → rMg D σ' base (kst D acc a 99 (shortF D p r a)) → Q σ') : CLv l G mX2_tryShortChain [vR 52, vR 74, vI x2, vI x3] σ Q := by
  have e3 : x3.toNat = a := by omega
  refine clX2_tryShortChain l G σ Q 74 x2 x3 pl_74 ?_
  rw [e3, hp.2 a ha]
  refine ⟨by omega, sp_Pbecome pl_107 pl_74 (by omega) hp (fun v hv => (hw.1 v hv).1) (fun σ1 g1 p1 => ?_)⟩
  have hP1 := rP_fM hP (fM_ag g1 (by omega) (by omega))
  have hM1 := rMg_k hM (g1 52 (by omega)) (fun k _ _ => g1 k (by omega))
  refine sp_disp hD pl_107 (by omega) hP1 p1 hw hr hr2 ho ha h2 h3 (fun σ2 e f2 => ⟨fun _ => hQ σ2 (fM_t (fM_ag g1 (by omega) (by omega)) (fM_D f2 (by omega))) ?_, fun q => absurd rfl q⟩) (fun p' σ2 e f2 p2 => ⟨fun q => absurd q (by decide), fun _ => ?_⟩)
  · have : shortF D p r a = none := by unfold shortF; rw [e]; rfl
    rw [this]
    exact rMg_k hM1 (f2 52 (by omega) (by omega) (by omega) (by omega)) (fun k _ _ => f2 k (by omega) (by omega) (by omega) (by omega))
  · obtain ⟨w2, o2, c2, -⟩ := WP_disp hw hr hr2 ho ha e
    have hM2 := rMg_k hM1 (f2 52 (by omega) (by omega) (by omega) (by omega)) (fun k _ _ => f2 k (by omega) (by omega) (by omega) (by omega))
    have hP2 := rP_fM hP1 (fM_D f2 (by omega))
    have nb := nv_b hD
    refine sp_alb hD pl_107 (by omega) hP2 p2 w2 ha o2 h3 (fun σ3 f3 i3 => ?_)
    have hM3 := rMg_k hM2 (f3 52 (by omega) (by omega) (by omega)) (fun k _ _ => f3 k (by omega) (by omega) (by omega))
    have hP3 := rP_fM hP2 (fM_I f3)
    have p3 := rPl_fI p2 f3 (by omega)
    have fr := fM_t (fM_t (fM_ag g1 (by omega) (by omega)) (fM_D f2 (by omega))) (fM_I f3)
    have hA : AOK D p' a (alb D p' a (p.2.2 a) (nvN D)) := AOK_alb _ nb.1 (by omega)
    have es : shortF D p r a = pins p' a (alb D p' a (p.2.2 a) (nvN D)) := by unfold shortF anyF; rw [e]; rfl
    refine sp_carry pl_107 (by omega) p3 w2 ha o2 i3 hA h3 (fun e4 => ⟨fun _ => hQ σ3 fr (by rw [es, e4]; exact hM3), fun q => absurd rfl q⟩) (fun p4 σ4 e4 g4 q4 _ => ⟨fun q => absurd q (by decide), fun _ => ?_⟩)
    have hM4 := rMg_k hM3 (g4 52 (by omega)) (fun k _ _ => g4 k (by omega))
    have hP4 := rP_fM hP3 (fM_ag g4 (by omega) (by omega))
    obtain ⟨w4, -⟩ := WP_pins w2 ha (lt_nr hw ha c2) o2 hA e4
    exact sp_keep hD hP4 hb hM4 q4 w4 ha h3 rfl (fun σ5 f5 _ m5 => hQ σ5 (fM_t fr (fM_t (fM_ag g4 (by omega) (by omega)) f5)) (by rw [es, e4]; exact m5))
theorem lgB_none {p : PL} {r a : Nat} (h : ∀ b, longF D p r a b = none) (acc : CA) : ∀ m, lgB D p r a acc m = acc
  | 0 => rfl
  | m + 1 => by rw [lgB, h, kst_none, lgB_none h acc m]
theorem sp_longs (hD : DOK D) {σ : Sto} (hP : rP D σ) {p : PL} (hp : rPl σ 74 p) (hw : WP D p) {base : Int} (hb : 0 ≤ base ∧ base ≤ 20000) {acc : CA} (hM : rMg D σ base acc) {r a : Nat} (hr : r < 12) (hr2 : (r : Int) < D 10 1) (ho : p.2.2 r = -1) (ha : a < 12) {x2 x3 : Int} (h2 : x2 = r) (h3 : x3 = a) {Q : Sto → Prop} (hQ : ∀ σ', fM σ σ' → rMg D σ' base (lgB D p r a acc (nrN D)) → Q σ') : CLv l G mX2_tryLongChains [vR 52, vR 74, vI x2, vI x3] σ Q := by
  have nb := nv_b hD
  have e3 : x3.toNat = a := by omega
  refine clX2_tryLongChains l G σ Q 74 x2 x3 pl_74 (sp_Pbecome pl_96 pl_74 (by omega) hp (fun v hv => (hw.1 v hv).1) (fun σ1 g1 p1 => ?_))
  have f1 := fM_ag g1 (by omega) (by omega)
  have hP1 := rP_fM hP f1
  have hM1 := rMg_k hM (g1 52 (by omega)) (fun k _ _ => g1 k (by omega))
  refine sp_disp hD pl_96 (by omega) hP1 p1 hw hr hr2 ho ha h2 h3 (fun σ2 e f2 => ⟨fun _ => hQ σ2 (fM_t f1 (fM_D f2 (by omega))) ?_, fun q => absurd rfl q⟩) (fun p' σ2 e f2 p2 => ⟨fun q => absurd q (by decide), fun _ => ?_⟩)
  · rw [lgB_none (fun b => by unfold longF; split; rfl; rw [e]; rfl)]
    exact rMg_k hM1 (f2 52 (by omega) (by omega) (by omega) (by omega)) (fun k _ _ => f2 k (by omega) (by omega) (by omega) (by omega))
  · obtain ⟨w2, o2, c2, k2⟩ := WP_disp hw hr hr2 ho ha e
    have hM2 := rMg_k hM1 (f2 52 (by omega) (by omega) (by omega) (by omega)) (fun k _ _ => f2 k (by omega) (by omega) (by omega) (by omega))
    have fm2 := fM_t f1 (fM_D f2 (by omega))
    have key : ∀ (m b : Nat) (x4 : Int) (σ3 : Sto), b + m = nrN D → x4 = b → fM σ σ3 → rPl σ3 96 p' → rMg D σ3 base (lgB D p r a acc b) → MWv l G mX2_tryLongChains 25 [(0, vR 52), (1, vR 74), (3, vI x3), (4, vI x4)] [] σ3 Q := by
      intro m
      induction m with
      | zero =>
        intro b x4 σ3 hk h4 fm hq hM3
        obtain rfl : b = nrN D := by omega
        have hP3 := rP_fM hP fm
        exact vcX2_tryLongChains_25 l G σ3 Q 74 x3 x4 pl_74 ⟨fun _ => hQ σ3 fm hM3, fun h => absurd (by rw [hP3.1.2.1]; omega) h⟩
      | succ m ih =>
        intro b x4 σ3 hk h4 fm hq hM3
        have hP3 := rP_fM hP fm
        have hp3 := rPl_fM hp fm
        have hb12 : b < 12 := by omega
        have e4 : x4.toNat = b := by omega
        refine vcX2_tryLongChains_25 l G σ3 Q 74 x3 x4 pl_74 ⟨fun h => absurd h (by rw [hP3.1.2.1]; omega), fun _ => ?_⟩
        rw [e4, e3, hp3.2 b hb12, hp3.2 a ha]
        have skip : longF D p r a b = none → (-2147483648 ≤ x4 + 1 ∧ x4 + 1 ≤ 2147483647) ∧ MWv l G mX2_tryLongChains 25 [(0, vR 52), (1, vR 74), (3, vI x3), (4, vI (x4 + 1))] [] σ3 Q := fun hn => ⟨by omega, ih (b + 1) _ _ (by omega) (by omega) fm hq (by rw [lgB, hn, kst_none]; exact hM3)⟩
        refine ⟨by omega, fun c => skip (by unfold longF; rw [if_pos (Or.inl c)]), fun c => ⟨by omega, fun c' => skip (by unfold longF; rw [if_pos (Or.inr c')]), fun c' => ?_⟩⟩
        have hba : b ≠ a := fun q => c' (by rw [q])
        have hbr : b ≠ r := fun q => c (by rw [q]; exact ho)
        have eb : p'.2.2 b = p.2.2 b := k2 b hbr hba
        refine sp_Pbecome pl_107 pl_96 (by omega) hq (fun v hv => (w2.1 v hv).1) (fun σ4 g4 q4 => ?_)
        have f4 := fM_ag g4 (by omega) (by omega)
        have hP4 := rP_fM hP3 f4
        have hM4 := rMg_k hM3 (g4 52 (by omega)) (fun k _ _ => g4 k (by omega))
        have q4' := rPl_k hq (fun k h1 h2 => g4 k (by omega))
        have el : longF D p r a b = (dispF D p' a b).bind fun p2 => anyF D p2 b (p.2.2 b) := by
          unfold longF; rw [if_neg (fun q => q.elim c c'), e]; rfl
        refine sp_disp hD pl_107 (by omega) hP4 q4 w2 ha (lt_nr hw ha c2) o2 hb12 h3 h4 (fun σ5 e5 f5 => ⟨fun _ => ⟨by omega, ?_⟩, fun q => absurd rfl q⟩) (fun p5 σ5 e5 f5 q5 => ⟨fun q => absurd q (by decide), fun _ => ?_⟩)
        · refine ih (b + 1) _ _ (by omega) (by omega) (fM_t fm (fM_t f4 (fM_D f5 (by omega)))) (rPl_k q4' (fun k h1 h2 => f5 k (by omega) (by omega) (by omega) (by omega))) ?_
          rw [lgB, el, e5]
          exact rMg_k hM4 (f5 52 (by omega) (by omega) (by omega) (by omega)) (fun k _ _ => f5 k (by omega) (by omega) (by omega) (by omega))
        · obtain ⟨w5, o5, c5, -⟩ := WP_disp w2 ha (lt_nr hw ha c2) o2 hb12 e5
          have hM5 := rMg_k hM4 (f5 52 (by omega) (by omega) (by omega) (by omega)) (fun k _ _ => f5 k (by omega) (by omega) (by omega) (by omega))
          have hP5 := rP_fM hP4 (fM_D f5 (by omega))
          have q5' := rPl_k q4' (fun k h1 h2 => f5 k (by omega) (by omega) (by omega) (by omega))
          refine sp_alb hD pl_107 (by omega) hP5 q5 w5 hb12 o5 h4 (fun σ6 f6 i6 => ?_)
          have hM6 := rMg_k hM5 (f6 52 (by omega) (by omega) (by omega)) (fun k _ _ => f6 k (by omega) (by omega) (by omega))
          have hP6 := rP_fM hP5 (fM_I f6)
          have q6 := rPl_fI q5 f6 (by omega)
          have q6' := rPl_fI q5' f6 (by omega)
          have fm6 := fM_t fm (fM_t f4 (fM_t (fM_D f5 (by omega)) (fM_I f6)))
          have hA : AOK D p5 b (alb D p5 b (p.2.2 b) (nvN D)) := AOK_alb _ nb.1 (by omega)
          have es : longF D p r a b = pins p5 b (alb D p5 b (p.2.2 b) (nvN D)) := by rw [el, e5]; rfl
          refine sp_carry pl_107 (by omega) q6 w5 hb12 o5 i6 hA h4 (fun e7 => ⟨fun _ => ⟨by omega, ih (b + 1) _ _ (by omega) (by omega) fm6 q6' (by rw [lgB, es, e7]; exact hM6)⟩, fun q => absurd rfl q⟩) (fun p7 σ7 e7 g7 q7 _ => ⟨fun q => absurd q (by decide), fun _ => ?_⟩)
          have hM7 := rMg_k hM6 (g7 52 (by omega)) (fun k _ _ => g7 k (by omega))
          have hP7 := rP_fM hP6 (fM_ag g7 (by omega) (by omega))
          have q7' := rPl_k q6' (fun k h1 h2 => g7 k (by omega))
          obtain ⟨w7, -⟩ := WP_pins w5 hb12 (lt_nr hw hb12 c) o5 hA e7
          exact sp_keep hD hP7 hb hM7 q7 w7 ha h3 h4 (fun σ8 f8 k8 m8 => ⟨by omega, ih (b + 1) _ _ (by omega) (by omega) (fM_t fm6 (fM_t (fM_ag g7 (by omega) (by omega)) f8)) (rPl_k q7' (fun k h1 h2 => k8 k h1)) (by rw [lgB, es, e7]; exact m8)⟩)
    exact key (nrN D) 0 0 σ2 (by omega) rfl fm2 p2 hM2
theorem sp_Mstart (hD : DOK D) {σ : Sto} (hP : rP D σ) {p : PL} (hp : rPl σ 74 p) (hw : WP D p) {x2 : Int} {Q : Sto → Prop} (hQ : ∀ σ', fM σ σ' → σ' 52 0 = 0 → σ' 52 1 = x2 → σ' 52 9 = tl D p → Q σ') : CLv l G mX2_startOver [vR 52, vR 74, vI x2] σ Q := by
  have f0 : fM σ (stS (stS σ 52 0 0) 52 1 x2) := fun k a b c => by funext i; rw [stS_ne (by omega), stS_ne (by omega)]
  refine clX2_startOver l G σ Q 74 x2 pl_74 (sp_total hD pl_74 (rP_fM hP f0) (rPl_fM hp f0) hw (hQ _ (fun k a b c => ?_) ?_ ?_ ?_))
  · rw [← f0 k a b c]; funext i; exact stS_ne (by omega)
  · simp [stS]
  · simp [stS]
  · simp [stS]
theorem sp_fch (hD : DOK D) {σ : Sto} (hP : rP D σ) {p : PL} (hp : rPl σ 74 p) (hw : WP D p) {r : Nat} (hr : r < 12) (hr2 : (r : Int) < D 10 1) (ho : p.2.2 r = -1) {x2 : Int} (h2 : x2 = r) {Q : Sto → Prop} (hQ : ∀ σ', fM σ σ' → rMg D σ' (tl D p) (fch D p r) → Q σ') : CLv l G mX2_findChain [vR 52, vR 74, vI x2] σ Q := by
  have nb := nv_b hD
  have tb := tl_b hD hw
  refine clX2_findChain l G σ Q 74 x2 pl_74 (sp_Mstart hD hP hp hw (fun σ1 f1 a1 b1 c1 => ?_))
  have lng : ∀ (m k : Nat) (x3 : Int) (σ2 : Sto), k + m = nrN D → x3 = k → fM σ σ2 → rMg D σ2 (tl D p) (lgA D p r k) → shS D p r (nrN D) = none → MWv l G mX2_findChain 43 [(0, vR 52), (1, vR 74), (2, vI x2), (3, vI x3)] [] σ2 Q := by
    intro m
    induction m with
    | zero =>
      intro k x3 σ2 hk h3 fm hM hs
      obtain rfl : k = nrN D := by omega
      have hP2 := rP_fM hP fm
      exact vcX2_findChain_43 l G σ2 Q 74 x2 x3 pl_74 ⟨fun _ => hQ σ2 fm (by unfold fch; rw [hs]; exact hM), fun h => absurd (by rw [hP2.1.2.1]; omega) h⟩
    | succ m ih =>
      intro k x3 σ2 hk h3 fm hM hs
      have hP2 := rP_fM hP fm
      exact vcX2_findChain_43 l G σ2 Q 74 x2 x3 pl_74 ⟨fun h => absurd h (by rw [hP2.1.2.1]; omega), fun _ => sp_longs hD hP2 (rPl_fM hp fm) hw tb hM hr hr2 ho (by omega) h2 h3 (fun σ3 f3 m3 => ⟨by omega, ih (k + 1) _ _ (by omega) (by omega) (fM_t fm f3) m3 hs⟩)⟩
  have sht : ∀ (m k : Nat) (x3 : Int) (σ2 : Sto), k + m = nrN D → x3 = k → fM σ σ2 → rMg D σ2 (tl D p) (shS D p r k) → (∀ x, shS D p r k = some x → x.2.1 < 12) → MWv l G mX2_findChain 9 [(0, vR 52), (1, vR 74), (2, vI x2), (3, vI x3)] [] σ2 Q := by
    intro m
    induction m with
    | zero =>
      intro k x3 σ2 hk h3 fm hM hs
      obtain rfl : k = nrN D := by omega
      have hP2 := rP_fM hP fm
      refine vcX2_findChain_9 l G σ2 Q 74 x2 x3 pl_74 ⟨fun _ => ⟨fun c => ?_, fun c => ?_⟩, fun h => absurd (by rw [hP2.1.2.1]; omega) h⟩
      · cases h : shS D p r (nrN D) with
        | none => exact lng (nrN D) 0 0 σ2 (by omega) rfl fm (by rw [h] at hM; exact hM) h
        | some x =>
          rw [h] at hM
          have := hs x h
          rcases hM.2.2.2 with q | q
          · omega
          · rw [q.2.1] at c; exact absurd c (by decide)
      · refine hQ σ2 fm ?_
        cases h : shS D p r (nrN D) with
        | none => rw [h] at hM; exact absurd hM.2.1 c
        | some x => unfold fch; rw [h]; rw [h] at hM; exact hM
    | succ m ih =>
      intro k x3 σ2 hk h3 fm hM hs
      have hP2 := rP_fM hP fm
      refine vcX2_findChain_9 l G σ2 Q 74 x2 x3 pl_74 ⟨fun h => absurd h (by rw [hP2.1.2.1]; omega), fun _ => sp_short hD hP2 (rPl_fM hp fm) hw tb hM hr hr2 ho (by omega) h2 h3 (fun σ3 f3 m3 => ⟨by omega, ih (k + 1) _ _ (by omega) (by omega) (fM_t fm f3) m3 (fun x hx => ?_)⟩)⟩
      unfold shS kst at hx
      split at hx
      · exact hs x hx
      · split at hx
        · cases hx; show k < 12; omega
        · next heq =>
          split at hx
          · cases hx; show k < 12; omega
          · cases hx; exact hs _ heq
  exact sht (nrN D) 0 0 σ1 (by omega) rfl f1 ⟨c1, a1, b1⟩ (fun x hx => by cases hx)
theorem sp_fim (hD : DOK D) {σ : Sto} (hP : rP D σ) {p : PL} (hp : rPl σ 74 p) (hw : WP D p) {Q : Sto → Prop} (hQ : ∀ σ', fM σ σ' → rMg D σ' (tl D p) (imS D p (nrN D)) → Q σ') : CLv l G mX2_findImprovement [vR 52, vR 74] σ Q := by
  have nb := nv_b hD
  have tb := tl_b hD hw
  refine clX2_findImprovement l G σ Q 74 pl_74 (sp_Mstart hD hP hp hw (fun σ1 f1 a1 b1 c1 => ?_))
  have key : ∀ (m k : Nat) (x2 : Int) (σ2 : Sto), k + m = nrN D → x2 = k → fM σ σ2 → rMg D σ2 (tl D p) (imS D p k) → MWv l G mX2_findImprovement 8 [(0, vR 52), (1, vR 74), (2, vI x2)] [] σ2 Q := by
    intro m
    induction m with
    | zero =>
      intro k x2 σ2 hk h2 fm hM
      obtain rfl : k = nrN D := by omega
      have hP2 := rP_fM hP fm
      exact vcX2_findImprovement_8 l G σ2 Q 74 x2 pl_74 ⟨fun _ => hQ σ2 fm hM, fun h => absurd (by rw [hP2.1.2.1]; omega) h⟩
    | succ m ih =>
      intro k x2 σ2 hk h2 fm hM
      have hk12 : k < 12 := by omega
      have hP2 := rP_fM hP fm
      have hp2 := rPl_fM hp fm
      have e : x2.toNat = k := by omega
      refine vcX2_findImprovement_8 l G σ2 Q 74 x2 pl_74 ⟨fun h => absurd h (by rw [hP2.1.2.1]; omega), fun _ => ?_⟩
      rw [e, hp2.2 k hk12]
      refine ⟨by omega, fun c => ⟨by omega, ih (k + 1) _ _ (by omega) (by omega) fm (by rw [imS, if_pos c]; exact hM)⟩, fun c => sp_Pbecome pl_107 pl_74 (by omega) hp2 (fun v hv => (hw.1 v hv).1) (fun σ3 g3 q3 => ?_)⟩
      have f3 := fM_ag g3 (by omega) (by omega)
      have hM3 := rMg_k hM (g3 52 (by omega)) (fun k _ _ => g3 k (by omega))
      refine sp_Ptake pl_107 q3 hw hk12 h2 (fun σ4 g4 q4 => ?_)
      have f4 := fM_ag g4 (by omega) (by omega)
      have hM4 := rMg_k hM3 (g4 52 (by omega)) (fun k _ _ => g4 k (by omega))
      have hP4 := rP_fM (rP_fM hP2 f3) f4
      obtain ⟨w4, o4, -⟩ := WP_tk hw hk12
      refine sp_alb hD pl_107 (by omega) hP4 q4 w4 hk12 o4 h2 (fun σ5 f5 i5 => ?_)
      have hM5 := rMg_k hM4 (f5 52 (by omega) (by omega) (by omega)) (fun k _ _ => f5 k (by omega) (by omega) (by omega))
      have hP5 := rP_fM hP4 (fM_I f5)
      have q5 := rPl_fI q4 f5 (by omega)
      have fm5 := fM_t fm (fM_t f3 (fM_t f4 (fM_I f5)))
      have hA : AOK D (ptk p k) k (alb D (ptk p k) k (-1) (nvN D)) := AOK_alb _ nb.1 (by omega)
      refine sp_carry pl_107 (by omega) q5 w4 hk12 o4 i5 hA h2 (fun e6 => ⟨fun _ => ⟨by omega, ih (k + 1) _ _ (by omega) (by omega) fm5 (by rw [imS, if_neg c]; unfold anyF; rw [e6]; exact hM5)⟩, fun q => absurd rfl q⟩) (fun p6 σ6 e6 g6 q6 _ => ⟨fun q => absurd q (by decide), fun _ => ?_⟩)
      have hM6 := rMg_k hM5 (g6 52 (by omega)) (fun k _ _ => g6 k (by omega))
      have hP6 := rP_fM hP5 (fM_ag g6 (by omega) (by omega))
      obtain ⟨w6, -⟩ := WP_pins w4 hk12 (lt_nr hw hk12 c) o4 hA e6
      exact sp_keep hD hP6 tb hM6 q6 w6 hk12 h2 h2 (fun σ7 f7 _ m7 => ⟨by omega, ih (k + 1) _ _ (by omega) (by omega) (fM_t fm5 (fM_t (fM_ag g6 (by omega) (by omega)) f7)) (by rw [imS, if_neg c]; unfold anyF; rw [e6]; exact m7)⟩)
  exact key (nrN D) 0 0 σ1 (by omega) rfl f1 ⟨c1, rfl, hw, Or.inl ⟨rfl, rfl, a1, b1⟩⟩
end MOVER
def rH (σ : Sto) (hs : List PL) : Prop := ∃ o : Nat, o < 10 ∧ σ 53 1 = o ∧ σ 53 0 = hs.length ∧ hs.length ≤ 10 ∧ ∀ (i : Nat) (h : PL), hs[i]? = some h → rPl σ (118 + 11 * ((o + i) % 10)) h
theorem rH_k {σ σ' : Sto} {hs : List PL} (h : rH σ hs) (h1 : σ' 53 = σ 53) (h2 : ∀ k, 118 ≤ k → σ' k = σ k) : rH σ' hs := by
  obtain ⟨o, a, b, c, d, e⟩ := h
  exact ⟨o, a, by rw [h1]; exact b, by rw [h1]; exact c, d, fun i x hx => rPl_k (e i x hx) (fun k q _ => h2 k (by omega))⟩
def recH (hs : List PL) (p : PL) : List PL := if hs.length = 10 then hs.tail ++ [p] else hs ++ [p]
theorem hp_lit (m : Nat) (h : m < 10) : isPl (118 + 11 * m) := by
  have := hp_pl (v := (m : Int)) (by omega) (by omega)
  rwa [Int.toNat_natCast] at this
section HIST
variable {l : Launch} {G : GT} {D : Sto}
theorem sp_forget {σ : Sto} {Q : Sto → Prop} (hQ : ∀ σ', (∀ k, k ≠ 53 → σ' k = σ k) → (∀ hs, rH σ hs → rH σ' []) → Q σ') : CLv l G mX0_forget [vR 53] σ Q := by
  refine clX0_forget l G σ Q (hQ _ (fun k hk => by funext i; exact stS_ne hk) (fun hs ⟨o, a, b, _⟩ => ⟨o, a, ?_, ?_, Nat.zero_le _, fun i h e => by cases e⟩))
  · rw [stS_ni (by decide)]; exact b
  · rw [stS_eq]; rfl
theorem sp_record {σ : Sto} {hs : List PL} (hH : rH σ hs) {p : PL} (hp : rPl σ 74 p) (hw : WP D p) {Q : Sto → Prop} (hQ : ∀ σ', (∀ k, k ≠ 53 → k < 118 → σ' k = σ k) → rH σ' (recH hs p) → Q σ') : CLv l G mX0_record [vR 53, vR 74] σ Q := by
  obtain ⟨o, ho, h1, h0, hl, hh⟩ := hH
  refine clX0_record l G σ Q 74 pl_74 ⟨fun _ => ⟨by omega, by omega, by omega, trivial⟩, fun s hs2 => ?_⟩
  have fin : ∀ (o' n' : Nat) (hs' : List PL), o' < 10 → n' < 10 → hs'.length = n' → (∀ k, k ≠ 53 → s k = σ k) → s 53 1 = o' → s 53 0 = n' → (∀ i h, hs'[i]? = some h → rPl s (118 + 11 * ((o' + i) % 10)) h) → recH hs p = hs' ++ [p] →
      (-2147483648 ≤ s 53 1 + s 53 0 ∧ s 53 1 + s 53 0 ≤ 2147483647) ∧ 0 ≤ s 53 1 + s 53 0 ∧ (0 ≤ (s 53 1 + s 53 0) % 10 ∧ (s 53 1 + s 53 0) % 10 < 10) ∧ CLv l G mX3_become [vR (118 + 11 * ((s 53 1 + s 53 0) % 10).toNat), vR 74] s (fun s14 => (-2147483648 ≤ s14 53 0 + 1 ∧ s14 53 0 + 1 ≤ 2147483647) ∧ Q (stS s14 53 0 (s14 53 0 + 1))) := by
    intro o' n' hs' ho' hn' hlen hk e1 e0 hh' er
    have em : ((s 53 1 + s 53 0) % 10).toNat = (o' + n') % 10 := by omega
    rw [em]
    refine ⟨by omega, by omega, by omega, sp_Pbecome (hp_lit _ (by omega)) pl_74 (by omega) (rPl_k hp (fun k a b => hk k (by omega))) (fun v hv => (hw.1 v hv).1) (fun σ2 g h => ?_)⟩
    have e53 : ∀ i, σ2 53 i = s 53 i := fun i => ag_at g (by omega) i
    rw [e53]
    refine ⟨by omega, hQ _ (fun k a b => ?_) ⟨o', ho', ?_, ?_, ?_, fun i x hx => ?_⟩⟩
    · rw [← hk k a, ← g k (by omega)]; funext i; exact stS_ne a
    · rw [stS_ni (by decide), e53]; exact e1
    · rw [stS_eq, er, List.length_append, List.length_singleton, hlen, e0]; omega
    · rw [er, List.length_append, List.length_singleton, hlen]; omega
    · have k2 : ∀ k, k ≠ 53 → stS σ2 53 0 (s 53 0 + 1) k = σ2 k := fun k hk => by funext i; exact stS_ne hk
      rw [er] at hx
      by_cases c : i < hs'.length
      · rw [List.getElem?_append_left c] at hx
        refine rPl_k (hh' i x hx) (fun k a b => ?_)
        rw [k2 k (by omega), g k (by omega)]
      · have hi : i = n' := by
          have := (List.getElem?_eq_some_iff.mp hx).1
          rw [List.length_append, List.length_singleton] at this
          omega
        rw [List.getElem?_append_right (by omega), hi, hlen, Nat.sub_self] at hx
        cases hx
        rw [hi]
        exact rPl_k h (fun k a b => k2 k (by omega))
  by_cases c : hs.length = 10
  · rw [if_pos (by omega)] at hs2
    have e53 : ∀ k, k ≠ 53 → s k = σ k := fun k hk => by rw [hs2]; funext i; rw [stS_ne hk, stS_ne hk]
    refine fin ((o + 1) % 10) 9 hs.tail (by omega) (by omega) (by rw [List.length_tail]; omega) e53 (by rw [hs2]; simp [stS]; omega) (by rw [hs2]; simp [stS]; omega) (fun i h hi => ?_) (by unfold recH; rw [if_pos c])
    rw [List.getElem?_tail] at hi
    have := hh (i + 1) h hi
    rw [show ((o + 1) % 10 + i) % 10 = (o + (i + 1)) % 10 by omega]
    exact rPl_k this (fun k a b => e53 k (by omega))
  · rw [if_neg (by omega)] at hs2
    subst hs2
    exact fin o hs.length hs ho (by omega) rfl (fun _ _ => rfl) h1 h0 hh (by unfold recH; rw [if_neg c])
theorem sp_restore {σ : Sto} {hs : List PL} {p : PL} (hH : rH σ (hs ++ [p])) (hw : WP D p) {Q : Sto → Prop} (hQ : ∀ σ', (∀ k, k ≠ 53 → (k < 74 ∨ 85 ≤ k) → σ' k = σ k) → rPl σ' 74 p → rH σ' hs → Q σ') : CLv l G mX0_restoreLatest [vR 53, vR 74] σ Q := by
  obtain ⟨o, ho, h1, h0, hl, hh⟩ := hH
  rw [List.length_append, List.length_singleton] at h0 hl
  have em : ((σ 53 1 + (σ 53 0 - 1)) % 10).toNat = (o + hs.length) % 10 := by omega
  refine clX0_restoreLatest l G σ Q 74 pl_74 ⟨fun c => absurd c (by omega), fun _ => ⟨by omega, by omega, by omega, by omega, ?_⟩⟩
  rw [em]
  have k1 : ∀ k, k ≠ 53 → stS σ 53 0 (σ 53 0 - 1) k = σ k := fun k hk => by funext i; exact stS_ne hk
  have hp : rPl (stS σ 53 0 (σ 53 0 - 1)) (118 + 11 * ((o + hs.length) % 10)) p := rPl_k (hh hs.length p (by simp)) (fun k a b => k1 k (by omega))
  refine sp_Pbecome pl_74 (hp_lit _ (by omega)) (by omega) hp (fun v hv => (hw.1 v hv).1) (fun σ2 g h => hQ σ2 (fun k a b => by rw [g k (by omega), k1 k a]) h ⟨o, ho, ?_, ?_, by omega, fun i x hx => ?_⟩)
  · rw [ag_at g (by omega), stS_ni (by decide)]; exact h1
  · rw [ag_at g (by omega), stS_eq]; omega
  · have hi := (List.getElem?_eq_some_iff.mp hx).1
    refine rPl_k (hh i x (by rw [List.getElem?_append_left hi]; exact hx)) (fun k a b => ?_)
    rw [g k (by omega), k1 k (by omega)]
end HIST
