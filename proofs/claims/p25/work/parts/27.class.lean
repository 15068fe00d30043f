def rPl (σ : Sto) (q : Nat) (p : PL) : Prop := (∀ v : Nat, v < 4 → rR σ (q + 3 + v) v (p.1 v) (p.2.1 v)) ∧ ∀ r, r < 12 → σ (q + 2) r = p.2.2 r
theorem rP_k {D σ σ' : Sto} (h : rP D σ) (hk : ∀ k, k < 40 → σ' k = σ k) : rP D σ' := by
  have g : ag 40 40 (fun k => if k < 40 then σ k else σ' k) σ' := fun k _ => by
    show σ' k = if k < 40 then σ k else σ' k
    split
    · next c => exact hk k c
    · rfl
  refine rP_ag (σ := fun k => if k < 40 then σ k else σ' k) ?_ g (Nat.le_refl _)
  have e : ∀ k, k < 40 → (fun k => if k < 40 then σ k else σ' k) k = σ k := fun k hk => if_pos hk
  obtain ⟨a, b, c, d, f, g⟩ := h
  refine ⟨?_, ?_, ?_, ?_, ?_, fun x hx y hy => ?_⟩
  · simpa using a
  · simpa using b
  · simpa using c
  · simpa using d
  · simpa using f
  · show (if 12 + x < 40 then σ (12 + x) else σ' (12 + x)) y = _
    rw [if_pos (by omega)]; exact g x hx y hy
theorem rR_k {σ σ' : Sto} {r v n : Nat} {t : Nat → Nat} (h : rR σ r v n t) (h1 : σ' r = σ r) (h2 : σ' (r + 4) = σ (r + 4)) : rR σ' r v n t := by
  refine ⟨?_, ?_, ?_, fun k hk => ?_⟩
  · rw [h1]; exact h.1
  · rw [h1]; exact h.2.1
  · rw [h1]; exact h.2.2.1
  · rw [h2]; exact h.2.2.2 k hk
theorem rPl_k {σ σ' : Sto} {q : Nat} {p : PL} (h : rPl σ q p) (hk : ∀ k, q ≤ k → k < q + 11 → σ' k = σ k) : rPl σ' q p :=
  ⟨fun v hv => rR_k (h.1 v hv) (hk _ (by omega) (by omega)) (hk _ (by omega) (by omega)), fun r hr => by rw [hk (q + 2) (by omega) (by omega)]; exact h.2 r hr⟩
def fI (σ σ' : Sto) : Prop := ∀ k, (k < 40 ∨ 50 < k) → k ≠ 51 → k ≠ 55 → σ' k = σ k
theorem fI_r {σ : Sto} : fI σ σ := fun _ _ _ _ => rfl
theorem fI_t {σ σ' σ'' : Sto} (h : fI σ σ') (h' : fI σ' σ'') : fI σ σ'' := fun k a b c => (h' k a b c).trans (h k a b c)
theorem fI_ag {σ σ' : Sto} {lo hi : Nat} (h : ag lo hi σ σ') (hl : 40 ≤ lo) (hh : hi ≤ 51) : fI σ σ' := fun k a _ _ => h k (by omega)
theorem fI_R {σ σ' : Sto} (h : fR 51 σ σ') : fI σ σ' := fun k _ b c => h k b c
theorem fI_st {σ σ' : Sto} {k j : Nat} {x : Int} (h : fI σ σ') (hk : 40 ≤ k ∧ k ≤ 50) : fI σ (stS σ' k j x) := fun c a b d => by
  rw [← h c a b d]; funext i; exact stS_ne (by omega)
theorem rP_fI {D σ σ' : Sto} (h : rP D σ) (hf : fI σ σ') : rP D σ' := rP_k h (fun k hk => hf k (by omega) (by omega) (by omega))
theorem rPl_fI {σ σ' : Sto} {q : Nat} {p : PL} (h : rPl σ q p) (hf : fI σ σ') (hq : 74 ≤ q) : rPl σ' q p := rPl_k h (fun k h1 _ => hf k (by omega) (by omega) (by omega))
theorem isRt_of {q v : Nat} (h : isPl q) (hv : v < 4) : isRt (q + 3 + v) := by
  have := pl_rt h (v := (v : Int)) (by omega) (by omega)
  rwa [Int.toNat_natCast] at this
section PLANS
variable {l : Launch} {G : GT} {D : Sto}
theorem sp_Pbecome {a b : Nat} (ha : isPl a) (hb : isPl b) (hab : a + 11 ≤ b ∨ b + 11 ≤ a) {σ : Sto} {p : PL} (hp : rPl σ b p) (hn : ∀ v, v < 4 → p.1 v ≤ 24) {Q : Sto → Prop} (hQ : ∀ σ', ag a (a + 11) σ σ' → rPl σ' a p → Q σ') : CLv l G mX3_become [vR a, vR b] σ Q := by
  have key : ∀ (m k : Nat) (x2 : Int) (σ1 : Sto), k + m = 4 → x2 = k → ag a (a + 11) σ σ1 → (∀ v : Nat, v < k → rR σ1 (a + 3 + v) v (p.1 v) (p.2.1 v)) → MWv l G mX3_become 2 [(0, vR a), (1, vR b), (2, vI x2)] [] σ1 Q := by
    intro m
    induction m with
    | zero =>
      intro k x2 σ1 hk hx hg hR
      obtain rfl : k = 4 := by omega
      have hp1 := rPl_k hp (fun k h1 h2 => hg k (by omega))
      refine vcX3_become_2 l G σ1 Q a b x2 ha hb ⟨fun _ => hQ _ (ag_cp hg (by omega)) ⟨fun v hv => rR_k (hR v hv) ?_ ?_, fun r hr => ?_⟩, fun h => absurd (by omega) h⟩
      · funext i; exact cpS_ne (by omega)
      · funext i; exact cpS_ne (by omega)
      · rw [cpS_in hr]; exact hp1.2 r hr
    | succ m ih =>
      intro k x2 σ1 hk hx hg hR
      have hk4 : k < 4 := by omega
      have e : x2.toNat = k := by omega
      have hp1 := rPl_k hp (fun k h1 h2 => hg k (by omega))
      refine vcX3_become_2 l G σ1 Q a b x2 ha hb ⟨fun h => absurd h (by omega), fun _ => ⟨by omega, ?_⟩⟩
      rw [e]
      refine sp_Rbecome (isRt_of ha hk4) (isRt_of hb hk4) (hp1.1 k hk4) (hn k hk4) (by omega) (fun σ2 g h => ⟨by omega, ih (k + 1) _ _ (by omega) (by omega) (ag_t hg (fR_ag g (by omega))) (fun v hv => ?_)⟩)
      by_cases c : v = k
      · subst c; exact h
      · exact rR_fR (hR v (by omega)) g (by omega)
  exact clX3_become l G σ Q a b ha hb (key 4 0 0 σ (by omega) rfl ag_r (fun v hv => absurd hv (Nat.not_lt_zero _)))
theorem sp_Pput {q : Nat} (hq : isPl q) {σ : Sto} {p : PL} (hp : rPl σ q p) {r v i j : Nat} (hr : r < 12) (hv : v < 4) (hij : i < j) (hj : j < p.1 v + 2) (hn : p.1 v + 2 ≤ 24) {x1 x2 x3 x4 : Int} (h1 : x1 = r) (h2 : x2 = v) (h3 : x3 = i) (h4 : x4 = j) {Q : Sto → Prop} (hQ : ∀ σ', ag q (q + 11) σ σ' → rPl σ' q (pput p r v i j) → Q σ') : CLv l G mX3_put [vR q, vI x1, vI x2, vI x3, vI x4] σ Q := by
  have e : x2.toNat = v := by omega
  have e1 : x1.toNat = r := by omega
  refine clX3_put l G σ Q q x1 x2 x3 x4 hq ⟨fun h => absurd h (by omega), fun _ => ⟨by omega, ?_⟩⟩
  rw [e, e1]
  refine sp_Rput (isRt_of hq hv) (hp.1 v hv) hr hij hj hn h1 h3 h4 (fun σ1 g h => ⟨by omega, hQ _ (ag_st (fR_ag g (by omega)) (by omega)) ⟨fun w hw => ?_, fun x hx => ?_⟩⟩)
  · show rR _ (q + 3 + w) w (if w = v then p.1 v + 2 else p.1 w) (if w = v then insT (p.2.1 v) r i j else p.2.1 w)
    have k1 : ∀ k, k ≠ q + 2 → stS σ1 (q + 2) r x2 k = σ1 k := fun k hk => by funext i; exact stS_ne hk
    by_cases c : w = v
    · subst c; rw [if_pos rfl, if_pos rfl]; exact rR_k h (k1 _ (by omega)) (k1 _ (by omega))
    · rw [if_neg c, if_neg c]; exact rR_k (rR_fR (hp.1 w hw) g (by omega)) (k1 _ (by omega)) (k1 _ (by omega))
  · show stS σ1 (q + 2) r x2 (q + 2) x = if x = r then (v : Int) else p.2.2 x
    by_cases c : x = r
    · subst c; rw [stS_eq, if_pos rfl]; exact h2
    · rw [stS_ni c, if_neg c, fR_at g (by omega) (by omega)]; exact hp.2 x hx
theorem sp_Ptake {q : Nat} (hq : isPl q) {σ : Sto} {p : PL} (hp : rPl σ q p) (hw : WP D p) {r : Nat} (hr : r < 12) {x1 : Int} (h1 : x1 = r) {Q : Sto → Prop} (hQ : ∀ σ', ag q (q + 11) σ σ' → rPl σ' q (ptk p r) → Q σ') : CLv l G mX3_take [vR q, vI x1] σ Q := by
  have e1 : x1.toNat = r := by omega
  refine clX3_take l G σ Q q x1 hq ?_
  rw [e1, hp.2 r hr]
  refine ⟨by omega, fun c => hQ σ ag_r ?_, fun c => ?_⟩
  · unfold ptk; rw [if_pos c]; exact hp
  · obtain ⟨v, i, j, hv, hv2, ev, hij, hj, g1, g2, et, hn2⟩ := WP_tk0 hw hr c
    obtain ⟨n, hn⟩ : ∃ n, p.1 v = n + 2 := ⟨p.1 v - 2, by omega⟩
    have hRW := hw.1 v hv
    have hR := hp.1 v hv
    rw [hn] at hRW hR hj
    rw [ev, Int.toNat_natCast]
    refine ⟨by omega, sp_Rtake (isRt_of hq hv) hRW hR hij hj g1 g2 h1 (fun σ1 g h => hQ _ (ag_st (fR_ag g (by omega)) (by omega)) ?_)⟩
    rw [et]
    have k1 : ∀ k, k ≠ q + 2 → stS σ1 (q + 2) r (-1) k = σ1 k := fun k hk => by funext i; exact stS_ne hk
    refine ⟨fun w hw => ?_, fun x hx => ?_⟩
    · show rR _ (q + 3 + w) w (if w = v then p.1 v - 2 else p.1 w) (if w = v then rmT (p.2.1 v) i j else p.2.1 w)
      by_cases c : w = v
      · subst c; rw [if_pos rfl, if_pos rfl, hn, Nat.add_sub_cancel]; exact rR_k h (k1 _ (by omega)) (k1 _ (by omega))
      · rw [if_neg c, if_neg c]; exact rR_k (rR_fR (hp.1 w hw) g (by omega)) (k1 _ (by omega)) (k1 _ (by omega))
    · show stS σ1 (q + 2) r (-1) (q + 2) x = if x = r then (-1 : Int) else p.2.2 x
      by_cases c : x = r
      · subst c; rw [stS_eq, if_pos rfl]
      · rw [stS_ni c, if_neg c, fR_at g (by omega) (by omega)]; exact hp.2 x hx
theorem sp_total (hD : DOK D) {q : Nat} (hq : isPl q) {σ : Sto} (hP : rP D σ) {p : PL} (hp : rPl σ q p) (hw : WP D p) {Q : Int → Sto → Prop} (hQ : Q (tl D p) σ) : CLi l G mX4_totalLength [vR 1, vR q] σ Q := by
  have nb := nv_b hD
  have key : ∀ (m k : Nat) (x2 x3 : Int), k + m = nvN D → x3 = k → x2 = ptot D p k → MWi l G mX4_totalLength 4 [(0, vR 1), (1, vR q), (2, vI x2), (3, vI x3)] [] σ Q := by
    intro m
    induction m with
    | zero =>
      intro k x2 x3 hk h3 h2
      obtain rfl : k = nvN D := by omega
      refine vcX4_totalLength_4 l G σ Q q x2 x3 hq ⟨fun _ => by rw [h2]; exact hQ, fun h => absurd (by rw [hP.1.1]; omega) h⟩
    | succ m ih =>
      intro k x2 x3 hk h3 h2
      have e : x3.toNat = k := by omega
      refine vcX4_totalLength_4 l G σ Q q x2 x3 hq ⟨fun h => absurd h (by rw [hP.1.1]; omega), fun _ => ⟨by omega, ?_⟩⟩
      rw [e]
      have b := ptot_b hD hw (k + 1) (by omega)
      have eb : ptot D p (k + 1) = ptot D p k + rl D k (p.1 k) (p.2.1 k) := rfl
      exact sp_len hD (by omega) (isRt_of hq (by omega)) (hw.1 k (by omega)) hP (hp.1 k (by omega)) ⟨by omega, by omega, ih (k + 1) _ _ (by omega) (by omega) (by rw [h2]; exact eb.symm)⟩
  exact clX4_totalLength l G σ Q q hq (key (nvN D) 0 _ _ (by omega) rfl rfl)
def rI (σ : Sto) (acc : Acc) : Prop := match acc with
  | none => σ 50 0 = 0 ∧ σ 50 1 = 1000000 ∧ σ 50 2 = -1
  | some a => σ 50 0 = 1 ∧ σ 50 1 = a.1 ∧ σ 50 2 = a.2.1 ∧ σ 50 3 = a.2.2.1 ∧ σ 50 4 = a.2.2.2
theorem rI_k {σ σ' : Sto} {acc : Acc} (h : rI σ acc) (e : σ' 50 = σ 50) : rI σ' acc := by
  cases acc with
  | none => unfold rI at h ⊢; rw [e]; exact h
  | some a => unfold rI at h ⊢; rw [e]; exact h
theorem adL_b (hD : DOK D) {v n : Nat} (hv : v < 4) {t : Nat → Nat} (hw : RW n t) {r i j : Nat} (hr : r < 12) : -2000 ≤ adL D v n t r i j ∧ adL D v n t r i j ≤ 2000 := by
  have B : ∀ k, pd v n t k < 28 := pd_b hv hw.2.1
  have D1 : ∀ a b, a < 28 → b < 28 → 0 ≤ ds D a b ∧ ds D a b ≤ 198 := fun a b ha hb => ⟨ds_0 D a b, ds_le hD ha hb⟩
  have a1 := D1 _ _ (B i) (show 2 * r < 28 by omega)
  have a2 := D1 (2 * r) (2 * r + 1) (by omega) (by omega)
  have a3 := D1 (2 * r + 1) _ (by omega) (B (i + 1))
  have a4 := D1 _ _ (B i) (B (i + 1))
  have a5 := D1 (2 * r) _ (by omega) (B (i + 1))
  have a6 := D1 _ _ (B (j - 1)) (show 2 * r + 1 < 28 by omega)
  have a7 := D1 (2 * r + 1) _ (by omega) (B j)
  have a8 := D1 _ _ (B (j - 1)) (B j)
  unfold adL
  split <;> omega
theorem sp_with (hq : True) {r v n : Nat} {t : Nat → Nat} (hr : isRt r) (hr2 : 77 ≤ r) {σ : Sto} (hR : rR σ r v n t) {x i j : Nat} (hx : x < 12) (hij : i < j) (hj : j < n + 2) (hn : n + 2 ≤ 24) {x2 x3 x4 : Int} (h2 : x2 = x) (h3 : x3 = i) (h4 : x4 = j) {Q : Nat → Sto → Prop} (hQ : ∀ σ', fR 51 σ σ' → rR σ' 51 v (n + 2) (insT t x i j) → Q 51 σ') : CLr l G mX1_routeWith [vR 50, vR r, vI x2, vI x3, vI x4] σ Q :=
  clX1_routeWith l G σ Q r x2 x3 x4 hr (sp_Rbecome rt_51 hr hR (by omega) (by omega) (fun σ1 g1 h1 => sp_Rput rt_51 h1 hx hij hj hn h2 h3 h4 (fun σ2 g2 h2 => hQ σ2 (fun k a b => (g2 k a b).trans (g1 k a b)) h2)))
theorem rok_51 : rok 51 := ⟨rt_51, Or.inl rfl⟩
theorem try_lp (hD : DOK D) {r v n : Nat} {t : Nat → Nat} (hv : v < 4) (hr : isRt r) (hr2 : 77 ≤ r) (hw : RW n t) {x : Nat} (hx : x < 12) (ho : ∀ k, k < n → t k / 2 ≠ x) {x2 : Int} (h2 : x2 = x) {σ0 : Sto} (hP0 : rP D σ0) (hR0 : rR σ0 r v n t) {acc : Acc} {Q : Sto → Prop} (hQ : ∀ σ', fI σ0 σ' → rI σ' (sc D v n t x acc) → Q σ') :
    ∀ (M i : Nat) (x3 : Int) (σ : Sto), i + M = n + 1 → x3 = i → fI σ0 σ → rI σ (scI D v n t x acc i) → MWv l G mX1_tryRoute 2 [(0, vR 50), (1, vR r), (2, vI x2), (3, vI x3)] [] σ Q := by
  have hroom := RW_room hw hx ho
  intro M
  induction M with
  | zero =>
    intro i x3 σ hi h3 hf hI
    obtain rfl : i = n + 1 := by omega
    have hR := rR_k hR0 (hf r (by omega) (by omega) (by omega)) (hf (r + 4) (by omega) (by omega) (by omega))
    exact vcX1_tryRoute_2 l G σ Q r x2 x3 hr ⟨fun _ => hQ σ hf hI, fun h => absurd (by rw [hR.2.2.1]; omega) h⟩
  | succ M ihM =>
    intro i x3 σ hi h3 hf hI
    have hR := rR_k hR0 (hf r (by omega) (by omega) (by omega)) (hf (r + 4) (by omega) (by omega) (by omega))
    refine vcX1_tryRoute_2 l G σ Q r x2 x3 hr ⟨fun h => absurd h (by rw [hR.2.2.1]; omega), fun _ => ⟨by omega, ?_⟩⟩
    have inner : ∀ (m d : Nat) (x4 : Int) (σ1 : Sto), i + 1 + d + m = n + 2 → x4 = (i + 1 + d : Nat) → fI σ0 σ1 → rI σ1 (scJ D v n t x i (scI D v n t x acc i) d) → MWv l G mX1_tryRoute 15 [(0, vR 50), (1, vR r), (2, vI x2), (3, vI x3), (4, vI x4)] [] σ1 Q := by
      intro m
      induction m with
      | zero =>
        intro d x4 σ1 hd h4 hf1 hI1
        have hR1 := rR_k hR0 (hf1 r (by omega) (by omega) (by omega)) (hf1 (r + 4) (by omega) (by omega) (by omega))
        have ed : d = n + 1 - i := by omega
        refine vcX1_tryRoute_15 l G σ1 Q r x2 x3 x4 hr ⟨by rw [hR1.2.2.1]; omega, fun _ => ⟨by omega, ihM (i + 1) _ _ (by omega) (by omega) hf1 (by rw [ed] at hI1; exact hI1)⟩, fun h => absurd (by rw [hR1.2.2.1]; omega) h⟩
      | succ m ih =>
        intro d x4 σ1 hd h4 hf1 hI1
        have hR1 := rR_k hR0 (hf1 r (by omega) (by omega) (by omega)) (hf1 (r + 4) (by omega) (by omega) (by omega))
        have hP1 := rP_fI hP0 hf1
        have hjb : i + 1 + d < n + 2 := by omega
        have hij : i < i + 1 + d := by omega
        have ab := adL_b hD hv hw (r := x) (i := i) (j := i + 1 + d) hx
        refine vcX1_tryRoute_15 l G σ1 Q r x2 x3 x4 hr ⟨by rw [hR1.2.2.1]; omega, fun h => absurd h (by rw [hR1.2.2.1]; omega), fun _ => sp_added hD hv hr hw hP1 hR1 hx hij hjb h2 h3 h4 ⟨fun c => ⟨by omega, ?_⟩, fun c => sp_with trivial hr hr2 hR1 hx hij hjb hroom h2 h3 h4 (fun σ2 g2 hR2 => ⟨rfl, ?_⟩)⟩⟩
        · refine ih (d + 1) _ _ (by omega) (by omega) hf1 ?_
          have nb : bet (adL D v n t x i (i + 1 + d)) (scJ D v n t x i (scI D v n t x acc i) d) = false := by
            generalize scJ D v n t x i (scI D v n t x acc i) d = A at hI1
            cases A with
            | none => have := hI1.2.1; omega
            | some a => have := hI1.2.1; unfold bet; simp; omega
          unfold scJ cnd
          split
          · simp only [cmb]; rw [nb]; exact hI1
          · exact hI1
        · have hf2 := fI_t hf1 (fI_R g2)
          have hP2 := rP_fI hP0 hf2
          have hI2 : rI σ2 _ := rI_k hI1 (g2 50 (by omega) (by omega))
          have yb : bet (adL D v n t x i (i + 1 + d)) (scJ D v n t x i (scI D v n t x acc i) d) = true := by
            generalize scJ D v n t x i (scI D v n t x acc i) d = A at hI1
            cases A with
            | none => rfl
            | some a => have := hI1.2.1; unfold bet; simp; omega
          refine sp_fits hD hv rok_51 (RW_ins hw hx ho hij hjb) hP2 hR2 (fun σ3 g3 _ hfe _ s hs => ⟨by omega, ?_⟩) (fun σ3 g3 hfe s hs => ⟨by omega, ?_⟩)
          · rw [if_neg (by decide)] at hs
            subst hs
            have hf3 := fI_t hf2 (fI_ag g3 (by omega) (by omega))
            have hR3 := rR_k hR0 (hf3 r (by omega) (by omega) (by omega)) (hf3 (r + 4) (by omega) (by omega) (by omega))
            refine ih (d + 1) _ _ (by omega) (by omega) (fI_st (fI_st (fI_st (fI_st (fI_st hf3 (by omega)) (by omega)) (by omega)) (by omega)) (by omega)) ?_
            unfold scJ cnd
            rw [if_pos (feB_t hfe)]
            simp only [cmb]
            rw [if_pos yb]
            unfold rI
            refine ⟨by simp [stS], by simp [stS], by simp [stS, hR3.1], by simp [stS, h3], ?_⟩
            rw [stS_eq, h4]
          · rw [if_pos rfl] at hs
            subst hs
            refine ih (d + 1) _ _ (by omega) (by omega) (fI_t hf2 (fI_ag g3 (by omega) (by omega))) ?_
            unfold scJ cnd
            rw [if_neg (by rw [feB_f hfe]; decide)]
            simp only [cmb]
            exact rI_k hI2 (g3 50 (by omega))
    exact inner (n + 1 - i) 0 _ σ (by omega) (by omega) hf hI
theorem sp_try (hD : DOK D) {r v n : Nat} {t : Nat → Nat} (hv : v < 4) (hr : isRt r) (hr2 : 77 ≤ r) (hw : RW n t) {x : Nat} (hx : x < 12) (ho : ∀ k, k < n → t k / 2 ≠ x) {x2 : Int} (h2 : x2 = x) {σ : Sto} (hP : rP D σ) (hR : rR σ r v n t) {acc : Acc} (hI : rI σ acc) {Q : Sto → Prop} (hQ : ∀ σ', fI σ σ' → rI σ' (sc D v n t x acc) → Q σ') : CLv l G mX1_tryRoute [vR 50, vR r, vI x2] σ Q :=
  clX1_tryRoute l G σ Q r x2 hr (try_lp hD hv hr hr2 hw hx ho h2 hP hR hQ (n + 1) 0 _ σ (by omega) rfl fI_r hI)
theorem sp_Istart {σ : Sto} {Q : Sto → Prop} (hQ : ∀ σ', fI σ σ' → rI σ' none → Q σ') : CLv l G mX1_startOver [vR 50] σ Q :=
  clX1_startOver l G σ Q (hQ _ (fI_st (fI_st (fI_st fI_r (by omega)) (by omega)) (by omega)) ⟨by simp [stS], by simp [stS], by simp [stS]⟩)
theorem sp_alb (hD : DOK D) {q : Nat} (hq : isPl q) (hq2 : 74 ≤ q) {σ : Sto} (hP : rP D σ) {p : PL} (hp : rPl σ q p) (hw : WP D p) {x : Nat} (hx : x < 12) (ho : p.2.2 x = -1) {x1 x3 : Int} (h3 : x3 = x) {Q : Sto → Prop} (hQ : ∀ σ', fI σ σ' → rI σ' (alb D p x x1 (nvN D)) → Q σ') : CLv l G mX1_tryAllBut [vR 50, vI x1, vR q, vI x3] σ Q := by
  have nb := nv_b hD
  refine clX1_tryAllBut l G σ Q x1 q x3 hq (sp_Istart (fun σ1 f1 i1 => ?_))
  have key : ∀ (m k : Nat) (x4 : Int) (σ2 : Sto), k + m = nvN D → x4 = k → fI σ σ2 → rI σ2 (alb D p x x1 k) → MWv l G mX1_tryAllBut 7 [(0, vR 50), (1, vI x1), (2, vR q), (3, vI x3), (4, vI x4)] [] σ2 Q := by
    intro m
    induction m with
    | zero =>
      intro k x4 σ2 hk h4 hf hI
      obtain rfl : k = nvN D := by omega
      have hP2 := rP_fI hP hf
      exact vcX1_tryAllBut_7 l G σ2 Q x1 q x3 x4 hq ⟨fun _ => hQ σ2 hf hI, fun h => absurd (by rw [hP2.1.1]; omega) h⟩
    | succ m ih =>
      intro k x4 σ2 hk h4 hf hI
      have hP2 := rP_fI hP hf
      have hp2 := rPl_fI hp hf hq2
      have e : x4.toNat = k := by omega
      refine vcX1_tryAllBut_7 l G σ2 Q x1 q x3 x4 hq ⟨fun h => absurd h (by rw [hP2.1.1]; omega), fun _ => ⟨fun c => ⟨by omega, ih (k + 1) _ _ (by omega) (by omega) hf ?_⟩, fun c => ⟨by omega, ?_⟩⟩⟩
      · unfold alb; rw [if_pos (by omega)]; exact hI
      · rw [e]
        refine sp_try hD (by omega) (isRt_of hq (by omega)) (by omega) (hw.1 k (by omega)) hx (WP_open hw ho (by omega)) h3 hP2 (hp2.1 k (by omega)) hI (fun σ3 f3 i3 => ⟨by omega, ih (k + 1) _ _ (by omega) (by omega) (fI_t hf f3) ?_⟩)
        unfold alb; rw [if_neg (by omega)]; exact i3
  exact key (nvN D) 0 0 σ1 (by omega) rfl f1 i1
theorem sp_carry {q : Nat} (hq : isPl q) (hq2 : 74 ≤ q) {σ : Sto} {p : PL} (hp : rPl σ q p) (hw : WP D p) {x : Nat} (hx : x < 12) (ho : p.2.2 x = -1) {acc : Acc} (hI : rI σ acc) (hA : AOK D p x acc) {x2 : Int} (h2 : x2 = x) {Q : Int → Sto → Prop}
    (h0 : pins p x acc = none → Q 0 σ) (h1 : ∀ p' σ', pins p x acc = some p' → ag q (q + 11) σ σ' → rPl σ' q p' → rI σ' acc → Q 1 σ') : CLi l G mX1_carryOut [vR 50, vR q, vI x2] σ Q := by
  refine clX1_carryOut l G σ Q q x2 hq ?_
  cases acc with
  | none =>
    obtain ⟨a, b, c⟩ := hI
    rw [a]
    exact ⟨fun _ => ⟨by omega, h0 rfl⟩, fun h => absurd rfl h⟩
  | some y =>
    obtain ⟨cc, v, i, j⟩ := y
    obtain ⟨a, b, c, d, f⟩ := id hI
    obtain ⟨hv, hv2, hij, hj, -, -⟩ := hA cc v i j rfl
    refine ⟨fun h => absurd h (by rw [a]; decide), fun _ => sp_Pput hq hp hx hv hij hj (RW_room (hw.1 v hv) hx (WP_open hw ho hv)) h2 c d f (fun σ1 g h => ?_)⟩
    have e : σ1 50 = σ 50 := g 50 (by omega)
    rw [e, a]
    exact ⟨by omega, h1 _ σ1 rfl g h (rI_k hI e)⟩
end PLANS
