def mMD (D σ : Sto) : Prop := (σ 56 0 = D 0 0 ∧ σ 56 1 = D 10 0 ∧ σ 56 7 = D 10 1) ∧ (∀ v, v < 4 → σ 57 v = D 1 (24 + v) ∧ σ 58 v = D 2 (24 + v) ∧ σ 59 v = D 7 v ∧ σ 60 v = D 8 v ∧ σ 61 v = D 9 v) ∧ (∀ s, s < 24 → σ 62 s = D 1 s ∧ σ 63 s = D 2 s ∧ σ 64 s = D 3 s ∧ σ 65 s = D 4 s) ∧ (∀ r, r < 12 → σ 66 r = D 5 r ∧ σ 67 r = D 6 r)
def mR (ρ : Nat → Int) (o : Nat) (p : PL) : Prop := ∀ v, v < 4 → ρ (o + (96 + v)) = p.1 v ∧ ∀ k, k < p.1 v → ρ (o + (24 * v + k)) = p.2.1 v k
def mT (σ : Sto) (n : Nat) (t : Nat → Nat) : Prop := σ 56 15 = n ∧ ∀ k, k < n → σ 69 k = t k
def mF (lo hi : Nat) (A : Nat → Prop) (σ σ' : Sto) : Prop := (∀ k, k ≠ 56 → (k < lo ∨ hi < k) → σ' k = σ k) ∧ ∀ i, A i → σ' 56 i = σ 56 i
theorem mF_r {lo hi : Nat} {A : Nat → Prop} {σ : Sto} : mF lo hi A σ σ := ⟨fun _ _ _ => rfl, fun _ _ => rfl⟩
theorem mF_t {lo hi : Nat} {A : Nat → Prop} {σ σ' σ'' : Sto} (h : mF lo hi A σ σ') (h' : mF lo hi A σ' σ'') : mF lo hi A σ σ'' := ⟨fun k a b => (h'.1 k a b).trans (h.1 k a b), fun i a => (h'.2 i a).trans (h.2 i a)⟩
theorem mF_w {lo hi lo' hi' : Nat} {A A' : Nat → Prop} {σ σ' : Sto} (h : mF lo hi A σ σ') (h1 : lo' ≤ lo) (h2 : hi ≤ hi') (h3 : ∀ i, A' i → A i) : mF lo' hi' A' σ σ' := ⟨fun k a b => h.1 k a (by omega), fun i a => h.2 i (h3 i a)⟩
theorem mF_st {lo hi : Nat} {A : Nat → Prop} {σ σ' : Sto} {k j : Nat} {x : Int} (h : mF lo hi A σ σ') (hk : k ≠ 56) (hl : lo ≤ k ∧ k ≤ hi) : mF lo hi A σ (stS σ' k j x) :=
  ⟨fun c a b => by funext i; rw [stS_ne (by omega)]; exact congrFun (h.1 c a b) i, fun i a => by rw [stS_ne (Ne.symm hk)]; exact h.2 i a⟩
theorem mF_s6 {lo hi : Nat} {A : Nat → Prop} {σ σ' : Sto} {j : Nat} {x : Int} (h : mF lo hi A σ σ') (hj : ¬ A j) : mF lo hi A σ (stS σ' 56 j x) :=
  ⟨fun c a b => by funext i; rw [stS_ne a]; exact congrFun (h.1 c a b) i, fun i a => by rw [stS_ni (fun q => hj (by rw [← q]; exact a))]; exact h.2 i a⟩
theorem mF_at {lo hi : Nat} {A : Nat → Prop} {σ σ' : Sto} (h : mF lo hi A σ σ') {k : Nat} (h6 : k ≠ 56) (hk : k < lo ∨ hi < k) (i : Nat) : σ' k i = σ k i := congrFun (h.1 k h6 hk) i
theorem mMD_F {lo hi : Nat} {A : Nat → Prop} {D σ σ' : Sto} (h : mMD D σ) (f : mF lo hi A σ σ') (hl : 68 ≤ lo) (hA : A 0 ∧ A 1 ∧ A 7) : mMD D σ' := by
  obtain ⟨a, b, c, d⟩ := h
  have e : ∀ k, 57 ≤ k → k < 68 → ∀ i, σ' k i = σ k i := fun k h1 h2 i => mF_at f (by omega) (by omega) i
  refine ⟨by rw [f.2 0 hA.1, f.2 1 hA.2.1, f.2 7 hA.2.2]; exact a, fun v hv => ?_, fun s hs => ?_, fun r hr => ?_⟩
  · rw [e 57 (by omega) (by omega), e 58 (by omega) (by omega), e 59 (by omega) (by omega), e 60 (by omega) (by omega), e 61 (by omega) (by omega)]; exact b v hv
  · rw [e 62 (by omega) (by omega), e 63 (by omega) (by omega), e 64 (by omega) (by omega), e 65 (by omega) (by omega)]; exact c s hs
  · rw [e 66 (by omega) (by omega), e 67 (by omega) (by omega)]; exact d r hr
def A1 (i : Nat) : Prop := i ≠ 15
def A2 (i : Nat) : Prop := i ≠ 15 ∧ (i < 19 ∨ 21 < i)
def A3 (i : Nat) : Prop := i ≠ 15 ∧ (i < 19 ∨ 21 < i) ∧ (i < 25 ∨ 27 < i)
section MODELA
variable {l : Launch} {G : GT}
theorem sm_in {σ : Sto} {x a b : Int} {Q : Int → Sto → Prop} (h1 : a ≤ x ∧ x ≤ b → Q 1 σ) (h0 : ¬ (a ≤ x ∧ x ≤ b) → Q 0 σ) : CLi l G mX8_in [vI x, vI a, vI b] σ Q := by
  refine clX8_in l G σ Q x a b (fun y hy => ?_)
  by_cases c : x < a
  · rw [if_pos c] at hy; rw [hy]; exact h0 (by omega)
  · rw [if_neg c] at hy
    by_cases d : b < x
    · rw [if_pos d] at hy; rw [hy]; exact h0 (by omega)
    · rw [if_neg d] at hy; rw [hy]; exact h1 (by omega)
theorem sm_size {σ : Sto} {x : Int} (hx : -10000 ≤ x ∧ x ≤ 10000) {Q : Int → Sto → Prop} (h : Q (iab x) σ) : CLi l G mX8_size [vI x] σ Q := by
  refine clX8_size l G σ Q x ⟨fun _ => ⟨by omega, trivial⟩, fun y hy => ?_⟩
  have : y = iab x := by rw [hy]; unfold iab; split <;> split <;> omega
  rw [this]; exact h
theorem sm_place {σ : Sto} {x y : Int} {Q : Int → Sto → Prop} (h1 : inP x y → Q 1 σ) (h0 : ¬ inP x y → Q 0 σ) : CLi l G mX8_isPlace [vI x, vI y] σ Q := by
  unfold inP at h1 h0
  refine clX8_isPlace l G σ Q x y (sm_in (fun a => ⟨fun q => absurd q (by decide), fun _ => sm_in (fun b => fun z hz => ?_) (fun b => fun z hz => ?_)⟩) (fun a => ⟨fun _ => h0 (by omega), fun q => absurd rfl q⟩))
  · rw [hz, if_neg (by decide)]; exact h1 (by omega)
  · rw [hz, if_pos rfl]; exact h0 (by omega)
variable {D : Sto}
theorem sm_noV (hD : DOK D) {σ : Sto} (hM : mMD D σ) {x : Int} {Q : Int → Sto → Prop} (h0 : isVh D x → Q 0 σ) (h1 : ¬ isVh D x → Q 1 σ) : CLi l G mX8_noVehicle [vR 56, vI x] σ Q := by
  have nb := hD.2.2.2.2.2
  have e := hM.1.2.1
  unfold isVh at h0 h1
  refine clX8_noVehicle l G σ Q x ⟨by omega, sm_in (fun a => fun z hz => ?_) (fun a => fun z hz => ?_)⟩
  · rw [hz, if_neg (by decide)]; exact h0 (by omega)
  · rw [hz, if_pos rfl]; exact h1 (by omega)
theorem sm_noR (hD : DOK D) {σ : Sto} (hM : mMD D σ) {x : Int} {Q : Int → Sto → Prop} (h0 : isRq D x → Q 0 σ) (h1 : ¬ isRq D x → Q 1 σ) : CLi l G mX8_noRequest [vR 56, vI x] σ Q := by
  have nb := hD.2.2.2.2.2
  have e := hM.1.2.2
  unfold isRq at h0 h1
  refine clX8_noRequest l G σ Q x ⟨by omega, sm_in (fun a => fun z hz => ?_) (fun a => fun z hz => ?_)⟩
  · rw [hz, if_neg (by decide)]; exact h0 (by omega)
  · rw [hz, if_pos rfl]; exact h1 (by omega)
theorem sm_betw (hD : DOK D) {σ : Sto} (hM : mMD D σ) {a b : Nat} (ha : a < 24) (hb : b < 24) {x1 x2 : Int} (h1 : x1 = a) (h2 : x2 = b) {Q : Int → Sto → Prop} (h : Q (ds D a b) σ) : CLi l G mX8_between [vR 56, vI x1, vI x2] σ Q := by
  subst h1; subst h2
  have p1 := hM.2.2.1 a ha
  have p2 := hM.2.2.1 b hb
  have d1 := hD.2.1 a (by omega)
  have d2 := hD.2.1 b (by omega)
  have b0 := ds_0 D a b
  have b1 := ds_le hD (a := a) (b := b) (by omega) (by omega)
  refine clX8_between l G σ Q a b ?_
  rw [Int.toNat_natCast, Int.toNat_natCast, p1.1, p2.1]
  refine ⟨by omega, by omega, by omega, sm_size (by omega) ?_⟩
  rw [p1.2.1, p2.2.1]
  refine ⟨by omega, sm_size (by omega) ⟨?_, h⟩⟩
  unfold ds at b0 b1; omega
theorem sm_from (hD : DOK D) {σ : Sto} (hM : mMD D σ) {v s : Nat} (hv : v < 4) (hs : s < 24) {x1 x2 : Int} (h1 : x1 = v) (h2 : x2 = s) {Q : Int → Sto → Prop} (h : Q (ds D (24 + v) s) σ) : CLi l G mX8_fromDepot [vR 56, vI x1, vI x2] σ Q := by
  subst h1; subst h2
  have p1 := hM.2.2.1 s hs
  have p2 := hM.2.1 v hv
  have d1 := hD.2.1 s (by omega)
  have d2 := hD.2.1 (24 + v) (by omega)
  have b0 := ds_0 D s (24 + v)
  have b1 := ds_le hD (a := s) (b := 24 + v) (by omega) (by omega)
  rw [ds_s] at h
  refine clX8_fromDepot l G σ Q v s ?_
  rw [Int.toNat_natCast, Int.toNat_natCast, p1.1, p2.1]
  refine ⟨by omega, by omega, by omega, sm_size (by omega) ?_⟩
  rw [p1.2.1, p2.2.1]
  refine ⟨by omega, sm_size (by omega) ⟨?_, h⟩⟩
  unfold ds at b0 b1; omega
theorem sm_vOf (hD : DOK D) {σ : Sto} (hM : mMD D σ) {p : PL} (hw : WP D p) (hR : mR (σ 68) 0 p) {r : Nat} (hr : r < 12) {x1 : Int} (h1 : x1 = r) {Q : Int → Sto → Prop} (hQ : Q (p.2.2 r) σ) : CLi l G mX8_vehicleOf [vR 56, vI x1] σ Q := by
  subst h1
  have nb := nv_b hD
  have key : ∀ (m v : Nat) (x2 : Int), v + m = nvN D → x2 = v → (∀ w, w < v → p.2.2 r ≠ w) → MWi l G mX8_vehicleOf 2 [(0, vR 56), (1, vI r), (2, vI x2)] [] σ Q := by
    intro m
    induction m with
    | zero =>
      intro v x2 hm h2 hn
      have : p.2.2 r = -1 := by
        rcases hw.2.2.1 r hr with q | ⟨w, a, b, c, -⟩
        · exact q
        · exact absurd c (hn w (by omega))
      rw [this] at hQ
      exact vcX8_vehicleOf_2 l G σ Q r x2 ⟨fun _ => hQ, fun q => absurd (by rw [hM.1.2.1]; omega) q⟩
    | succ m ih =>
      intro v x2 hm h2 hn
      have hv : v < 4 := by omega
      obtain ⟨e1, e2⟩ := hR v hv
      have n24 := (hw.1 v hv).1
      have inner : ∀ (q k : Nat) (x3 : Int), k + q = p.1 v → x3 = k → (∀ w, w < k → p.2.1 v w / 2 ≠ r) → MWi l G mX8_vehicleOf 12 [(0, vR 56), (1, vI r), (2, vI x2), (3, vI x3)] [] σ Q := by
        intro q
        induction q with
        | zero =>
          intro k x3 hq h3 hk
          refine vcX8_vehicleOf_12 l G σ Q r x2 x3 ?_
          have e : (96 + x2).toNat = 0 + (96 + v) := by omega
          rw [e, e1]
          refine ⟨by omega, by omega, fun _ => ⟨by omega, ih (v + 1) _ (by omega) (by omega) (fun w hw2 => ?_)⟩, fun c => absurd (by omega) c⟩
          by_cases c : w = v
          · subst c
            intro e
            rcases hw.2.2.1 r hr with q | ⟨w', a, b, c, i, j, hij, hj, g1, -⟩
            · omega
            · have : w' = w := by omega
              subst this
              exact hk i (by omega) (by omega)
          · exact hn w (by omega)
        | succ q ih2 =>
          intro k x3 hq h3 hk
          refine vcX8_vehicleOf_12 l G σ Q r x2 x3 ?_
          have e : (96 + x2).toNat = 0 + (96 + v) := by omega
          have e3 : (24 * x2 + x3).toNat = 0 + (24 * v + k) := by omega
          have t24 := (hw.1 v hv).2.1 k (by omega)
          rw [e, e1, e3, e2 k (by omega)]
          refine ⟨by omega, by omega, fun c => absurd c (by omega), fun _ => ⟨by omega, by omega, by omega, by omega, fun c => ?_, fun c => ⟨by omega, ih2 (k + 1) _ (by omega) (by omega) (fun w hw2 => ?_)⟩⟩⟩
          · have := hw.2.1 v hv k (by omega)
            rw [show p.2.1 v k / 2 = r by omega] at this
            rw [h2, ← this]; exact hQ
          · by_cases d : w = k
            · subst d; omega
            · exact hk w (by omega)
      exact vcX8_vehicleOf_2 l G σ Q r x2 ⟨fun c => absurd c (by rw [hM.1.2.1]; omega), fun _ => inner (p.1 v) 0 0 (by omega) rfl (fun w hw2 => absurd hw2 (Nat.not_lt_zero _))⟩
  exact clX8_vehicleOf l G σ Q r (key (nvN D) 0 0 (by omega) rfl (fun w hw2 => absurd hw2 (Nat.not_lt_zero _)))
theorem sm_take {σ : Sto} {p : PL} (hR : mR (σ 68) 0 p) {v : Nat} (hv : v < 4) (hn : p.1 v ≤ 24) {x1 : Int} (h1 : x1 = v) {Q : Sto → Prop} (hQ : ∀ σ', mF 69 69 A1 σ σ' → mT σ' (p.1 v) (p.2.1 v) → Q σ') : CLv l G mX8_take [vR 56, vI x1] σ Q := by
  subst h1
  obtain ⟨e1, e2⟩ := hR v hv
  have key : ∀ (m k : Nat) (x2 : Int) (s : Sto), k + m = p.1 v → x2 = k → mF 69 69 A1 σ s → s 56 15 = p.1 v → (∀ w, w < k → s 69 w = p.2.1 v w) → MWv l G mX8_take 15 [(0, vR 56), (1, vI v), (2, vI x2)] [] s Q := by
    intro m
    induction m with
    | zero =>
      intro k x2 s hm h2 hf h15 hk
      exact vcX8_take_15 l G s Q v x2 ⟨fun _ => hQ s hf ⟨h15, fun w hw => hk w (by omega)⟩, fun c => absurd (by omega) c⟩
    | succ m ih =>
      intro k x2 s hm h2 hf h15 hk
      have e3 : (24 * (v : Int) + x2).toNat = 0 + (24 * v + k) := by omega
      refine vcX8_take_15 l G s Q v x2 ⟨fun c => absurd c (by omega), fun _ => ⟨by omega, by omega, by omega, by omega, by omega, ih (k + 1) _ _ (by omega) (by omega) (mF_st hf (by decide) (by omega)) (by rw [stS_ne (by decide)]; exact h15) (fun w hw => ?_)⟩⟩
      by_cases c : w = k
      · subst c
        rw [show x2.toNat = w by omega, stS_eq, e3, mF_at hf (by decide) (by omega), e2 w (by omega)]
      · rw [stS_ni (by omega)]; exact hk w (by omega)
  refine clX8_take l G σ Q v ⟨by omega, by omega, key (p.1 v) 0 0 _ (by omega) rfl (mF_s6 mF_r (fun h => h rfl)) ?_ (fun w hw => absurd hw (Nat.not_lt_zero _))⟩
  rw [stS_eq, show (96 + (v : Int)).toNat = 0 + (96 + v) by omega, e1]
theorem sm_len (hD : DOK D) {σ : Sto} (hM : mMD D σ) {v n : Nat} {t : Nat → Nat} (hv : v < 4) (hw : RW n t) (hT : mT σ n t) {x1 : Int} (h1 : x1 = v) {Q : Int → Sto → Prop} (hQ : Q (rl D v n t) σ) : CLi l G mX8_length [vR 56, vI x1] σ Q := by
  subst h1
  have n24 := hw.1
  obtain ⟨h15, h69⟩ := hT
  refine clX8_length l G σ Q v ⟨fun c => ?_, fun c => ?_⟩
  · have : n = 0 := by omega
    subst this
    have : rl D v 0 t = 0 := by
      show 0 + ds D (pd v 0 t 0) (pd v 0 t 1) = 0
      rw [show pd v 0 t 0 = 24 + v from rfl, show pd v 0 t 1 = 24 + v from rfl, ds_r]; rfl
    rw [← this]; exact hQ
  · have t0 := hw.2.1 0 (by omega)
    have tn := hw.2.1 (n - 1) (by omega)
    have u : ∀ k, pd v n t k < 28 := pd_b hv hw.2.1
    have d1 := ds_0 D (24 + v) (t 0)
    have d2 := ds_0 D (24 + v) (t (n - 1))
    have d3 := ds_le hD (a := 24 + v) (b := t 0) (by omega) (by omega)
    have d4 := ds_le hD (a := 24 + v) (b := t (n - 1)) (by omega) (by omega)
    have p0 : pd v n t 0 = 24 + v := rfl
    have p1 : ∀ k, k < n → pd v n t (k + 1) = t k := fun k hk => by unfold pd; rw [if_neg (by omega), if_pos (by omega)]; rfl
    have pn : pd v n t (n + 1) = 24 + v := by unfold pd; rw [if_neg (by omega), if_neg (by omega)]
    have key : ∀ (m k : Nat) (x2 x3 : Int), k + 1 + m = n → x3 = k + 1 → x2 = tot D (pd v n t) (k + 1) + ds D (24 + v) (t (n - 1)) → MWi l G mX8_length 40 [(0, vR 56), (2, vI x2), (3, vI x3)] [] σ Q := by
      intro m
      induction m with
      | zero =>
        intro k x2 x3 hm h3 h2
        refine vcX8_length_40 l G σ Q x2 x3 ⟨fun _ => ?_, fun q => absurd (by omega) q⟩
        have : rl D v n t = x2 := by
          unfold rl
          have e : n = k + 1 := by omega
          subst e
          show tot D _ (k + 1) + ds D (pd v (k + 1) t (k + 1)) (pd v (k + 1) t (k + 1 + 1)) = _
          rw [pn, p1 k (by omega), ds_s, h2]; rfl
        rw [← this]; exact hQ
      | succ m ih =>
        intro k x2 x3 hm h3 h2
        have a1 := hw.2.1 k (by omega)
        have a2 := hw.2.1 (k + 1) (by omega)
        have b1 := tot_b hD (u := pd v n t) (k + 1) (fun _ _ => u _)
        have b2 := ds_0 D (t k) (t (k + 1))
        have b3 := ds_le hD (a := t k) (b := t (k + 1)) (by omega) (by omega)
        refine vcX8_length_40 l G σ Q x2 x3 ⟨fun q => absurd q (by omega), fun _ => ⟨by omega, by omega, by omega, sm_betw hD hM a1 a2 (by rw [show (x3 - 1).toNat = k by omega]; exact h69 k (by omega)) (by rw [show x3.toNat = k + 1 by omega]; exact h69 (k + 1) (by omega)) ⟨by omega, by omega, ih (k + 1) _ _ (by omega) (by omega) ?_⟩⟩⟩
        show _ = tot D (pd v n t) (k + 1) + ds D (pd v n t (k + 1)) (pd v n t (k + 1 + 1)) + _
        rw [p1 k (by omega), p1 (k + 1) (by omega)]; omega
    refine sm_from hD hM hv t0 rfl (h69 0 (by omega)) ⟨by omega, by omega, sm_from hD hM hv tn rfl (by rw [h15, show ((n : Int) - 1).toNat = n - 1 by omega]; exact h69 (n - 1) (by omega)) ⟨by omega, key (n - 1) 0 _ _ (by omega) rfl ?_⟩⟩
    show _ = 0 + ds D (pd v n t 0) (pd v n t (0 + 1)) + _
    rw [p0, p1 0 (by omega)]; omega
theorem sm_plOf {σ : Sto} {n : Nat} {t : Nat → Nat} (hn : n ≤ 24) (hT : mT σ n t) (hi : ∀ i j, i < n → j < n → t i = t j → i = j) {i : Nat} (hin : i < n) {x1 : Int} (h1 : x1 = t i) {Q : Int → Sto → Prop} (hQ : Q i σ) : CLi l G mX8_placeOf [vR 56, vI x1] σ Q := by
  subst h1
  have key : ∀ (m k : Nat) (x2 : Int), k + m = i → x2 = k → MWi l G mX8_placeOf 2 [(0, vR 56), (1, vI (t i)), (2, vI x2)] [] σ Q := by
    intro m
    induction m with
    | zero =>
      intro k x2 hm h2
      have e : x2.toNat = i := by omega
      refine vcX8_placeOf_2 l G σ Q (t i) x2 ⟨by omega, fun _ => by rw [h2, show k = i by omega]; exact hQ, fun q => absurd (by rw [e]; exact hT.2 i hin) q⟩
    | succ m ih =>
      intro k x2 hm h2
      have e : x2.toNat = k := by omega
      refine vcX8_placeOf_2 l G σ Q (t i) x2 ⟨by omega, fun c => ?_, fun _ => ⟨by omega, ih (k + 1) _ (by omega) (by omega)⟩⟩
      rw [e, hT.2 k (by omega)] at c
      have := hi k i (by omega) hin (by omega)
      omega
  exact clX8_placeOf l G σ Q (t i) (key i 0 0 (by omega) rfl)
theorem sm_load (hD : DOK D) {σ : Sto} (hM : mMD D σ) {n : Nat} {t : Nat → Nat} (hw : RW n t) (hT : mT σ n t) {Q : Int → Sto → Prop} (hQ : Q (ldm D t n) σ) : CLi l G mX8_greatestLoad [vR 56] σ Q := by
  have n24 := hw.1
  obtain ⟨h15, h69⟩ := hT
  have key : ∀ (m k : Nat) (x1 x2 x3 : Int), k + m = n → x3 = k → x1 = ld D t k → x2 = ldm D t k → MWi l G mX8_greatestLoad 6 [(0, vR 56), (1, vI x1), (2, vI x2), (3, vI x3)] [] σ Q := by
    intro m
    induction m with
    | zero =>
      intro k x1 x2 x3 hm h3 h1 h2
      refine vcX8_greatestLoad_6 l G σ Q x1 x2 x3 ⟨fun _ => ?_, fun q => absurd (by omega) q⟩
      rw [h2, show k = n by omega]; exact hQ
    | succ m ih =>
      intro k x1 x2 x3 hm h3 h1 h2
      have tk := hw.2.1 k (by omega)
      have b := ld_b hD (t := t) k (fun i hi => hw.2.1 i (by omega))
      have db := hD.2.2.2.1 (t k / 2) (by omega)
      have e5 := (hM.2.2.2 (t k / 2) (by omega)).1
      refine vcX8_greatestLoad_6 l G σ Q x1 x2 x3 ⟨fun q => absurd q (by omega), fun _ => ?_⟩
      rw [show x3.toNat = k by omega, h69 k (by omega), show ((t k : Int) / 2).toNat = t k / 2 by omega, e5]
      refine ⟨by omega, by omega, by omega, fun _ => ⟨by omega, trivial⟩, fun y8 h8 => ?_⟩
      have e8 : x1 + y8 = ld D t (k + 1) := by
        rw [h1, h8]
        simp only [ld]
        by_cases c : t k % 2 = 0
        · rw [if_pos c, if_pos (by omega)]
        · rw [if_neg c, if_neg (by omega)]
      have b8 : -8 ≤ y8 ∧ y8 ≤ 8 := by rw [h8]; split <;> omega
      refine ⟨by omega, fun y14 h14 => ⟨by omega, ih (k + 1) _ _ _ (by omega) (by omega) e8 ?_⟩⟩
      rw [h14, e8, h2]
      simp only [ldm]
      split <;> split <;> omega
  exact clX8_greatestLoad l G σ Q (key n 0 0 0 0 (by omega) rfl rfl rfl)
end MODELA
