def InvC (σ : Sto) (S : ST) : Prop := rP S.1 σ ∧ rPl σ 74 S.2.1 ∧ rH σ S.2.2
def frC (σ σ' : Sto) : Prop := ∀ k, 56 ≤ k → k ≤ 73 → σ' k = σ k
theorem frC_r {σ : Sto} : frC σ σ := fun _ _ _ => rfl
theorem frC_t {σ σ' σ'' : Sto} (h : frC σ σ') (h' : frC σ' σ'') : frC σ σ'' := fun k a b => (h' k a b).trans (h k a b)
theorem frC_I {σ σ' : Sto} (h : fI σ σ') : frC σ σ' := fun k a b => h k (by omega) (by omega) (by omega)
theorem frC_M {σ σ' : Sto} (h : fM σ σ') : frC σ σ' := fun k a b => h k (by omega) (by omega) (by omega)
theorem rH_I {σ σ' : Sto} {hs : List PL} (h : rH σ hs) (f : fI σ σ') : rH σ' hs := rH_k h (f 53 (by omega) (by omega) (by omega)) (fun k hk => f k (by omega) (by omega) (by omega))
theorem rH_M {σ σ' : Sto} {hs : List PL} (h : rH σ hs) (f : fM σ σ') : rH σ' hs := rH_k h (f 53 (by omega) (by omega) (by omega)) (fun k hk => f k (by omega) (by omega) (by omega))
theorem InvC_I {σ σ' : Sto} {S : ST} (h : InvC σ S) (f : fI σ σ') : InvC σ' S := ⟨rP_fI h.1 f, rPl_fI h.2.1 f (by omega), rH_I h.2.2 f⟩
theorem InvC_M {σ σ' : Sto} {S : ST} (h : InvC σ S) (f : fM σ σ') : InvC σ' S := ⟨rP_fM h.1 f, rPl_fM h.2.1 f, rH_M h.2.2 f⟩
theorem ds_c {D D' : Sto} {a b : Nat} (ha : D' 1 a = D 1 a ∧ D' 2 a = D 2 a) (hb : D' 1 b = D 1 b ∧ D' 2 b = D 2 b) : ds D' a b = ds D a b := by unfold ds; rw [ha.1, ha.2, hb.1, hb.2]
theorem ab_i (z : Int) : (if 0 ≤ z then z else 0 - z) = iab z := by unfold iab; split <;> split <;> omega
section CLASSA
variable {l : Launch} {G : GT}
theorem sp_isPlace {σ : Sto} {x y : Int} {Q : Int → Sto → Prop} (h1 : inP x y → Q 1 σ) (h0 : ¬ inP x y → Q 0 σ) : CLi l G mX7_isPlace [vI x, vI y] σ Q := by
  refine clX7_isPlace l G σ Q x y (fun z hz => ?_)
  by_cases c : inP x y
  · have e : z = 1 := by rw [hz]; unfold inP at c; rw [if_neg (by omega), if_neg (by omega), if_neg (by omega), if_neg (by omega)]
    rw [e]; exact h1 c
  · have e : z = 0 := by
      rw [hz]
      (repeat' split) <;> first | rfl | (exfalso; apply c; unfold inP; omega)
    rw [e]; exact h0 c
theorem sp_isLoad {σ : Sto} {x : Int} {Q : Int → Sto → Prop} (h1 : inL x → Q 1 σ) (h0 : ¬ inL x → Q 0 σ) : CLi l G mX7_isLoad [vI x] σ Q := by
  refine clX7_isLoad l G σ Q x (fun z hz => ?_)
  by_cases c : inL x
  · have e : z = 1 := by rw [hz]; unfold inL at c; rw [if_neg (by omega), if_neg (by omega)]
    rw [e]; exact h1 c
  · have e : z = 0 := by
      rw [hz]
      (repeat' split) <;> first | rfl | (exfalso; apply c; unfold inL; omega)
    rw [e]; exact h0 c
theorem sp_isLimit {σ : Sto} {x : Int} {Q : Int → Sto → Prop} (h1 : inM x → Q 1 σ) (h0 : ¬ inM x → Q 0 σ) : CLi l G mX7_isLimit [vI x] σ Q := by
  refine clX7_isLimit l G σ Q x (fun z hz => ?_)
  by_cases c : inM x
  · have e : z = 1 := by rw [hz]; unfold inM at c; rw [if_neg (by omega), if_neg (by omega)]
    rw [e]; exact h1 c
  · have e : z = 0 := by
      rw [hz]
      (repeat' split) <;> first | rfl | (exfalso; apply c; unfold inM; omega)
    rw [e]; exact h0 c
theorem sp_isWindow {σ : Sto} {x y : Int} {Q : Int → Sto → Prop} (h1 : inW x y → Q 1 σ) (h0 : ¬ inW x y → Q 0 σ) : CLi l G mX7_isWindow [vI x, vI y] σ Q := by
  refine clX7_isWindow l G σ Q x y (fun z hz => ?_)
  by_cases c : inW x y
  · have e : z = 1 := by rw [hz]; unfold inW at c; rw [if_neg (by omega), if_neg (by omega), if_neg (by omega)]
    rw [e]; exact h1 c
  · have e : z = 0 := by
      rw [hz]
      (repeat' split) <;> first | rfl | (exfalso; apply c; unfold inW; omega)
    rw [e]; exact h0 c
theorem sp_isVh {D σ : Sto} (hP : rP D σ) {x : Int} {Q : Int → Sto → Prop} (h1 : isVh D x → Q 1 σ) (h0 : ¬ isVh D x → Q 0 σ) : CLi l G mX7_isVehicle [vR 0, vI x] σ Q := by
  refine clX7_isVehicle l G σ Q x (fun z hz => ?_)
  rw [hP.1.1] at hz
  by_cases c : isVh D x
  · have e : z = 1 := by rw [hz]; unfold isVh at c; rw [if_neg (by omega), if_neg (by omega)]
    rw [e]; exact h1 c
  · have e : z = 0 := by
      rw [hz]
      (repeat' split) <;> first | rfl | (exfalso; apply c; unfold isVh; omega)
    rw [e]; exact h0 c
theorem sp_isRq {D σ : Sto} (hP : rP D σ) {x : Int} {Q : Int → Sto → Prop} (h1 : isRq D x → Q 1 σ) (h0 : ¬ isRq D x → Q 0 σ) : CLi l G mX7_isRequest [vR 0, vI x] σ Q := by
  refine clX7_isRequest l G σ Q x (fun z hz => ?_)
  rw [hP.1.2.1] at hz
  by_cases c : isRq D x
  · have e : z = 1 := by rw [hz]; unfold isRq at c; rw [if_neg (by omega), if_neg (by omega)]
    rw [e]; exact h1 c
  · have e : z = 0 := by
      rw [hz]
      (repeat' split) <;> first | rfl | (exfalso; apply c; unfold isRq; omega)
    rw [e]; exact h0 c
theorem sp_isOpen {σ : Sto} {p : PL} (hp : rPl σ 74 p) {x : Int} (hx : 0 ≤ x ∧ x < 12) {Q : Int → Sto → Prop} (h1 : p.2.2 x.toNat = -1 → Q 1 σ) (h0 : p.2.2 x.toNat ≠ -1 → Q 0 σ) : CLi l G mX7_isOpen [vR 0, vI x] σ Q := by
  refine clX7_isOpen l G σ Q x ⟨hx, fun z hz => ?_⟩
  rw [hp.2 x.toNat (by omega)] at hz
  by_cases c : p.2.2 x.toNat = -1
  · rw [if_pos c] at hz; rw [hz]; exact h1 c
  · rw [if_neg c] at hz; rw [hz]; exact h0 c
theorem vh_of {D : Sto} {p : PL} (hw : WP D p) {r : Nat} (hr : r < 12) (c : p.2.2 r ≠ -1) : ∃ v : Nat, v < 4 ∧ (v : Int) < D 10 0 ∧ p.2.2 r = v := by
  obtain ⟨v, i, j, a, b, e, -⟩ := WP_tk0 hw hr c
  exact ⟨v, a, b, e⟩
theorem rok_of {v : Nat} (hv : v < 4) : rok (74 + 3 + v) := ⟨isRt_of pl_74 hv, Or.inr (by omega)⟩
theorem sp_still {D : Sto} (hD : DOK D) {p : PL} (hw : WP D p) {σ : Sto} (hP : rP D σ) (hp : rPl σ 74 p) {x : Int} (hx : 0 ≤ x ∧ x < 12) {Q : Int → Sto → Prop} (h1 : ∀ σ', fI σ σ' → okR D p x.toNat → Q 1 σ') (h0 : ∀ σ', fI σ σ' → ¬ okR D p x.toNat → Q 0 σ') : CLi l G mX7_routeStillFits [vR 0, vI x] σ Q := by
  refine clX7_routeStillFits l G σ Q x (sp_isOpen hp hx (fun c => ⟨fun q => absurd q (by decide), fun _ => h1 σ fI_r (Or.inl c)⟩) (fun c => ⟨fun _ => ⟨hx, ?_⟩, fun q => absurd rfl q⟩))
  obtain ⟨v, hv, hv2, e⟩ := vh_of hw (by omega) c
  rw [hp.2 x.toNat (by omega), e, Int.toNat_natCast]
  refine ⟨by omega, sp_fits hD hv (rok_of hv) (hw.1 v hv) hP (hp.1 v hv) (fun σ' g _ hf _ y hy => ?_) (fun σ' g hf y hy => ?_)⟩
  · rw [hy, if_neg (by decide)]
    exact h1 σ' (fI_ag g (by omega) (by omega)) (Or.inr (by rw [e, Int.toNat_natCast]; exact hf))
  · rw [hy, if_pos rfl]
    refine h0 σ' (fI_ag g (by omega) (by omega)) (fun q => ?_)
    rcases q with q | q
    · exact c q
    · rw [e, Int.toNat_natCast] at q; exact hf q
theorem sp_allfit {D : Sto} (hD : DOK D) {p : PL} (hw : WP D p) {σ : Sto} (hP : rP D σ) (hp : rPl σ 74 p) {Q : Int → Sto → Prop} (h1 : ∀ σ', fI σ σ' → FEP D p → Q 1 σ') (h0 : ∀ σ', fI σ σ' → ¬ FEP D p → Q 0 σ') : CLi l G mX7_allRoutesStillFit [vR 0] σ Q := by
  have nb := nv_b hD
  have key : ∀ (m k : Nat) (x1 : Int) (σ1 : Sto), k + m = nvN D → x1 = k → fI σ σ1 → (∀ v, v < k → FE D v (p.1 v) (p.2.1 v)) → MWi l G mX7_allRoutesStillFit 2 [(0, vR 0), (1, vI x1)] [] σ1 Q := by
    intro m
    induction m with
    | zero =>
      intro k x1 σ1 hk hx f hA
      have hP1 := rP_fI hP f
      refine vcX7_allRoutesStillFit_2 l G σ1 Q x1 ⟨fun _ => h1 σ1 f (fun v hv => ?_), fun h => absurd (by rw [hP1.1.1]; omega) h⟩
      by_cases c : v < k
      · exact hA v c
      · by_cases c2 : p.1 v = 0
        · rw [c2]; exact FE_0 hD hv _
        · have := (WP_lt hw hv (k := 0) (by omega)).2.2
          omega
    | succ m ih =>
      intro k x1 σ1 hk hx f hA
      have hP1 := rP_fI hP f
      have hp1 := rPl_fI hp f (by omega)
      have e : x1.toNat = k := by omega
      refine vcX7_allRoutesStillFit_2 l G σ1 Q x1 ⟨fun h => absurd h (by rw [hP1.1.1]; omega), fun _ => ⟨by omega, ?_⟩⟩
      rw [e]
      refine sp_fits hD (by omega) (rok_of (by omega)) (hw.1 k (by omega)) hP1 (hp1.1 k (by omega)) (fun σ' g _ hf _ => ⟨fun q => absurd q (by decide), fun _ => ⟨by omega, ih (k + 1) _ _ (by omega) (by omega) (fI_t f (fI_ag g (by omega) (by omega))) (fun v hv => ?_)⟩⟩) (fun σ' g hf => ⟨fun _ => h0 σ' (fI_t f (fI_ag g (by omega) (by omega))) (fun q => hf (q k (by omega))), fun q => absurd rfl q⟩)
      by_cases c : v = k
      · subst c; exact hf
      · exact hA v (by omega)
  exact clX7_allRoutesStillFit l G σ Q (key (nvN D) 0 0 σ (by omega) rfl fI_r (fun v hv => absurd hv (Nat.not_lt_zero _)))
theorem rP_c {D D' σ : Sto} (h : rP D σ) (h0 : D' 10 0 = D 10 0 ∧ D' 10 1 = D 10 1 ∧ D' 0 0 = D 0 0) (h1 : ∀ v, v < 4 → D' 7 v = D 7 v ∧ D' 8 v = D 8 v ∧ D' 9 v = D 9 v) (h2 : ∀ r, r < 12 → D' 5 r = D 5 r ∧ D' 6 r = D 6 r) (h3 : ∀ s, s < 24 → D' 3 s = D 3 s ∧ D' 4 s = D 4 s) (h4 : ∀ a, a < 28 → D' 1 a = D 1 a ∧ D' 2 a = D 2 a) : rP D' σ := by
  obtain ⟨⟨a1, a2, a3⟩, b, c, d, f, g⟩ := h
  refine ⟨⟨by rw [h0.1]; exact a1, by rw [h0.2.1]; exact a2, by rw [h0.2.2]; exact a3⟩, fun v hv => ?_, fun r hr => ?_, fun s hs => ?_, fun a ha => ?_, fun a ha b' hb => ?_⟩
  · rw [(h1 v hv).1, (h1 v hv).2.1, (h1 v hv).2.2]; exact b v hv
  · rw [(h2 r hr).1, (h2 r hr).2]; exact c r hr
  · rw [(h3 s hs).1, (h3 s hs).2]; exact d s hs
  · rw [(h4 a ha).1, (h4 a ha).2]; exact f a ha
  · rw [ds_c (h4 a ha) (h4 b' hb)]; exact g a ha b' hb
theorem rP_lim {D σ : Sto} (h : rP D σ) (r : Nat) (m : Int) : rP (stS D 6 r m) (stS σ 5 r m) := by
  obtain ⟨a, b, c, d, f, g⟩ := h
  refine ⟨by simpa [stS] using a, fun v hv => by simpa [stS] using b v hv, fun x hx => ?_, fun s hs => by simpa [stS] using d s hs, fun a ha => by simpa [stS] using f a ha, fun a ha b hb => ?_⟩
  · have := c x hx
    by_cases e : x = r
    · subst e; simp [stS]; exact this.2
    · simp [stS, e]; exact this
  · rw [ds_c (D := D) (by simp [stS]) (by simp [stS]), stS_ne (by omega)]; exact g a ha b hb
theorem rP_win {D σ : Sto} (h : rP D σ) (s : Nat) (m n : Int) : rP (stS (stS D 3 s m) 4 s n) (stS (stS σ 7 s m) 8 s n) := by
  obtain ⟨a, b, c, d, f, g⟩ := h
  refine ⟨by simpa [stS] using a, fun v hv => by simpa [stS] using b v hv, fun x hx => by simpa [stS] using c x hx, fun x hx => ?_, fun a ha => by simpa [stS] using f a ha, fun a ha b hb => ?_⟩
  · have := d x hx
    by_cases e : x = s
    · subst e; simp [stS]
    · simp [stS, e]; exact this
  · rw [ds_c (D := D) (by simp [stS]) (by simp [stS]), stS_ne (by omega), stS_ne (by omega)]; exact g a ha b hb
theorem rP_load {D σ : Sto} (h : rP D σ) (r : Nat) (m : Int) : rP (stS D 5 r m) (stS (stS σ 6 (2 * r) m) 6 (2 * r + 1) (-m)) := by
  obtain ⟨a, b, c, d, f, g⟩ := h
  refine ⟨by simpa [stS] using a, fun v hv => by simpa [stS] using b v hv, fun x hx => ?_, fun s hs => by simpa [stS] using d s hs, fun a ha => by simpa [stS] using f a ha, fun a ha b hb => ?_⟩
  · have := c x hx
    by_cases e : x = r
    · subst e
      have n1 : ¬ 2 * x = 2 * x + 1 := by omega
      simp [stS, n1]; exact this.1
    · have n1 : ¬ 2 * x = 2 * r + 1 := by omega
      have n2 : ¬ 2 * x = 2 * r := by omega
      have n3 : ¬ 2 * x + 1 = 2 * r := by omega
      simp [stS, e, n1, n2, n3]; exact this
  · rw [ds_c (D := D) (by simp [stS]) (by simp [stS]), stS_ne (by omega), stS_ne (by omega)]; exact g a ha b hb
theorem rP_srv {D σ : Sto} (h : rP D σ) (m : Int) : rP (stS D 0 0 m) (stS σ 1 2 m) := by
  obtain ⟨a, b, c, d, f, g⟩ := h
  refine ⟨by simpa [stS] using ⟨a.1, a.2.1⟩, fun v hv => by simpa [stS] using b v hv, fun x hx => by simpa [stS] using c x hx, fun s hs => by simpa [stS] using d s hs, fun a ha => by simpa [stS] using f a ha, fun a ha b hb => ?_⟩
  rw [ds_c (D := D) (by simp [stS]) (by simp [stS]), stS_ne (by omega)]; exact g a ha b hb
theorem stS_back (D : Sto) (i j : Nat) (x : Int) : stS (stS D i j x) i j (D i j) = D := by
  funext a b
  unfold stS
  split
  · next c => rw [c.1, c.2]
  · rfl
theorem fP_k {σ : Sto} {k j : Nat} {x : Int} (hk : k < 40) : ∀ c, 40 ≤ c → stS σ k j x c = σ c := fun c hc => by funext i; exact stS_ne (by omega)
theorem InvC_new {σ σ' : Sto} {S : ST} {D : Sto} (h : InvC σ S) (hP : rP D σ') (hk : ∀ c, 40 ≤ c → σ' c = σ c) : rP D σ' ∧ rPl σ' 74 S.2.1 ∧ rH σ' S.2.2 := ⟨hP, rPl_k h.2.1 (fun k a _ => hk k (by omega)), rH_k h.2.2 (hk 53 (by omega)) (fun k a => hk k (by omega))⟩
theorem DOK_lim {D : Sto} (h : DOK D) (r : Nat) {m : Int} (hm : inM m) : DOK (stS D 6 r m) := by
  obtain ⟨b1, b2⟩ := hm
  obtain ⟨k0, k1, k2, k3, k4, k5⟩ := h
  refine ⟨by simpa [stS] using k0, fun a ha => by simpa [stS] using k1 a ha, fun x hx => by simpa [stS] using k2 x hx, fun x hx => ?_, fun v hv => by simpa [stS] using k4 v hv, by simpa [stS] using k5⟩
  have := k3 x hx
  by_cases e : x = r
  · subst e; simp [stS]; omega
  · simp [stS, e]; omega
theorem DOK_load {D : Sto} (h : DOK D) (r : Nat) {m : Int} (hm : inL m) : DOK (stS D 5 r m) := by
  obtain ⟨b1, b2⟩ := hm
  obtain ⟨k0, k1, k2, k3, k4, k5⟩ := h
  refine ⟨by simpa [stS] using k0, fun a ha => by simpa [stS] using k1 a ha, fun x hx => by simpa [stS] using k2 x hx, fun x hx => ?_, fun v hv => by simpa [stS] using k4 v hv, by simpa [stS] using k5⟩
  have := k3 x hx
  by_cases e : x = r
  · subst e; simp [stS]; omega
  · simp [stS, e]; omega
theorem DOK_win {D : Sto} (h : DOK D) (s : Nat) {f l : Int} (hm : inW f l) : DOK (stS (stS D 3 s f) 4 s l) := by
  obtain ⟨b1, b2, b3⟩ := hm
  obtain ⟨k0, k1, k2, k3, k4, k5⟩ := h
  refine ⟨by simpa [stS] using k0, fun a ha => by simpa [stS] using k1 a ha, fun x hx => ?_, fun r hr => by simpa [stS] using k3 r hr, fun v hv => by simpa [stS] using k4 v hv, by simpa [stS] using k5⟩
  have := k2 x hx
  by_cases e : x = s
  · subst e; simp [stS]; omega
  · simp [stS, e]; omega
theorem DOK_srv {D : Sto} (h : DOK D) {m : Int} (hm : 0 ≤ m ∧ m ≤ 10) : DOK (stS D 0 0 m) := by
  obtain ⟨k0, k1, k2, k3, k4, k5⟩ := h
  exact ⟨by simpa [stS] using hm, fun a ha => by simpa [stS] using k1 a ha, fun x hx => by simpa [stS] using k2 x hx, fun x hx => by simpa [stS] using k3 x hx, fun v hv => by simpa [stS] using k4 v hv, by simpa [stS] using k5⟩
theorem c_setM {S : ST} (hV : Val S) {σ : Sto} (hI : InvC σ S) {x1 x2 : Int} {Q : Int → Sto → Prop} (hQ : ∀ σ', InvC σ' (f_setM S x1 x2).2 → frC σ σ' → Q (f_setM S x1 x2).1 σ') : CLi l G mX7_setLimit [vR 0, vI x1, vI x2] σ Q := by
  obtain ⟨D, p, hs⟩ := S
  obtain ⟨hP, hp, hH⟩ := id hI
  obtain ⟨hD, hw, hf, -, -⟩ := id hV
  have hP : rP D σ := hP
  have hp : rPl σ 74 p := hp
  have hD : DOK D := hD
  have hw : WP D p := hw
  have nb := nv_b hD
  unfold f_setM at hQ
  refine clX7_setLimit l G σ Q x1 x2 (sp_isRq hP (fun q => ⟨fun e => absurd e (by decide), fun _ => ?_⟩) (fun q => ⟨fun _ => by rw [if_f q] at hQ; exact hQ σ hI frC_r, fun e => absurd rfl e⟩))
  rw [if_t q] at hQ
  have hr : 0 ≤ x1 ∧ x1 < D 10 1 := q
  refine sp_isLimit (fun q1 => ⟨fun e => absurd e (by decide), fun _ => ?_⟩) (fun q1 => ⟨fun _ => by rw [if_f q1] at hQ; exact hQ σ hI frC_r, fun e => absurd rfl e⟩)
  rw [if_t q1] at hQ
  have e5 : σ 5 x1.toNat = D 6 x1.toNat := (hP.2.2.1 _ (by omega)).1
  rw [e5]
  refine ⟨by omega, fun c => ?_, fun c => ?_⟩
  · have hQ := hQ σ
    simp only [if_pos c] at hQ
    exact hQ hI frC_r
  · simp only [if_neg c] at hQ
    have hP1 := rP_lim hP x1.toNat x2
    have k1 : ∀ c, 40 ≤ c → stS σ 5 x1.toNat x2 c = σ c := fP_k (by omega)
    have hp1 : rPl (stS σ 5 x1.toNat x2) 74 p := rPl_k hp (fun k a _ => k1 k (by omega))
    have hw1 : WP (stS D 6 x1.toNat x2) p := WP_D hw (by simp [stS]) (Or.inl (by simp [stS]))
    have hD1 := DOK_lim hD x1.toNat q1
    refine sp_still hD1 hw1 hP1 hp1 (by omega) (fun σ2 f2 ok => ⟨fun e => absurd e (by decide), fun _ => sp_forget (fun σ3 k3 h3 => ?_)⟩) (fun σ2 f2 ok => ⟨fun _ => ?_, fun e => absurd rfl e⟩)
    · rw [if_t ok] at hQ
      have hI2 : rP (stS D 6 x1.toNat x2) σ2 := rP_fI hP1 f2
      refine hQ σ3 ⟨rP_k hI2 (fun k hk => k3 k (by omega)), rPl_k (rPl_fI hp1 f2 (by omega)) (fun k a b => k3 k (by omega)), h3 hs (rH_I (rH_k hH (k1 53 (by omega)) (fun k a => k1 k (by omega))) f2)⟩ (fun k a b => ?_)
      rw [k3 k (by omega), f2 k (by omega) (by omega) (by omega), k1 k (by omega)]
    · rw [if_f ok] at hQ
      have hI2 : rP (stS D 6 x1.toNat x2) σ2 := rP_fI hP1 f2
      have hI3 := rP_lim hI2 x1.toNat (D 6 x1.toNat)
      rw [stS_back] at hI3
      have k3 : ∀ c, 40 ≤ c → stS σ2 5 x1.toNat (D 6 x1.toNat) c = σ2 c := fP_k (by omega)
      refine hQ _ ⟨hI3, rPl_k (rPl_fI hp1 f2 (by omega)) (fun k a b => k3 k (by omega)), rH_k (rH_I (rH_k hH (k1 53 (by omega)) (fun k a => k1 k (by omega))) f2) (k3 53 (by omega)) (fun k a => k3 k (by omega))⟩ (fun k a b => ?_)
      rw [k3 k (by omega), f2 k (by omega) (by omega) (by omega), k1 k (by omega)]
end CLASSA
