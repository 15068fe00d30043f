theorem InvC_y {σ σ' : Sto} {S : ST} (h : InvC σ S) (f : ∀ k, (k < 56 ∨ 74 ≤ k) → σ' k = σ k) : InvC σ' S :=
  ⟨rP_k h.1 (fun k hk => f k (by omega)), rPl_k h.2.1 (fun k a b => f k (by omega)), rH_k h.2.2 (f 53 (by omega)) (fun k hk => f k (by omega))⟩
theorem dV (D : Sto) (x y c f l : Int) : (∀ a, dAddV D x y c f l 1 a = if a = 24 + nvN D then x else D 1 a) ∧ (∀ a, dAddV D x y c f l 2 a = if a = 24 + nvN D then y else D 2 a) ∧ (∀ r, dAddV D x y c f l 6 r = D 6 r) ∧ dAddV D x y c f l 10 0 = D 10 0 + 1 ∧ dAddV D x y c f l 10 1 = D 10 1 := by
  refine ⟨fun a => ?_, fun a => ?_, fun r => ?_, ?_, ?_⟩
  · simp [dAddV, stS]
  · simp [dAddV, stS]
  · simp [dAddV, stS]
  · simp [dAddV, stS]
  · simp [dAddV, stS]
theorem dR (D : Sto) (fx fy tx ty c m : Int) : (∀ a, dAddR D fx fy tx ty c m 1 a = if a = 2 * nrN D + 1 then tx else if a = 2 * nrN D then fx else D 1 a) ∧ (∀ a, dAddR D fx fy tx ty c m 2 a = if a = 2 * nrN D + 1 then ty else if a = 2 * nrN D then fy else D 2 a) ∧ (∀ r, dAddR D fx fy tx ty c m 6 r = if r = nrN D then m else D 6 r) ∧ dAddR D fx fy tx ty c m 10 0 = D 10 0 ∧ dAddR D fx fy tx ty c m 10 1 = D 10 1 + 1 ∧ dAddR D fx fy tx ty c m 4 (2 * nrN D) = 5000 ∧ dAddR D fx fy tx ty c m 4 (2 * nrN D + 1) = 5000 := by
  refine ⟨fun a => ?_, fun a => ?_, fun r => ?_, ?_, ?_, ?_, ?_⟩
  · simp [dAddR, stS]
  · simp [dAddR, stS]
  · simp [dAddR, stS]
  · simp [dAddR, stS]
  · simp [dAddR, stS]
  · simp [dAddR, stS]
  · simp [dAddR, stS]
theorem faddV {D : Sto} {p : PL} {hs : List PL} {x y c f l : Int} (h : inP x y ∧ inL c ∧ inW f l) (h4 : D 10 0 < 4) : f_addV (D, p, hs) x y c f l = (D 10 0, (dAddV D x y c f l, p, [])) := by
  unfold f_addV
  rw [if_t h]
  show (if D 10 0 < 4 then _ else _) = _
  rw [if_pos h4]
theorem faddR {D : Sto} {p : PL} {hs : List PL} {fx fy tx ty c m : Int} (h : inP fx fy ∧ inP tx ty ∧ inL c ∧ inM m) (h4 : D 10 1 < 12) : f_addR (D, p, hs) fx fy tx ty c m = (D 10 1, (dAddR D fx fy tx ty c m, p, [])) := by
  unfold f_addR
  rw [if_t h]
  show (if D 10 1 < 12 then _ else _) = _
  rw [if_pos h4]
theorem fsetW {D : Sto} {p : PL} {hs : List PL} {r s : Nat} {d f l : Int} (hr : isRq D r) (hw : inW f l) (hs2 : s = 2 * r + (if d = 0 then 0 else 1)) (hn : l ≠ D 4 s) (ho : p.2.2 r = -1) : f_setW (D, p, hs) r d f l = (1, (stS (stS D 3 s f) 4 s l, p, [])) := by
  have es : (2 * (r : Int) + (if d = 0 then 0 else 1)).toNat = s := by
    rw [hs2]
    split <;> omega
  have e1 : ((r : Nat) : Int).toNat = r := Int.toNat_natCast r
  unfold f_setW
  rw [if_t hr, if_t hw]
  simp only [es, e1]
  rw [if_neg (fun q => hn q.2), if_t (show okR (stS (stS D 3 s f) 4 s l) p r from Or.inl ho)]
section SETUP
variable {l : Launch} {G : GT} {b L : Nat} {xs : Nat → Int32}
def LV (D : Sto) (p : PL) (σ : Sto) : Prop := Val (D, p, []) ∧ InvC σ (D, p, []) ∧ rM σ D ∧ ∀ r, r < 12 → D 6 r ≤ 200
theorem su_214 (hx0 : G.2.2.2.2 = 0) (hb2 : G.2.2.1 228 = b) (hL : L ≤ 260) {M : Nat} (hM1 : 1 ≤ M) (hM8 : M ≤ 8) : ∀ (m r : Nat) (x5 : Int) (D : Sto) (p : PL) (σ : Sto), r + m = M → x5 = r → LV D p σ → 1 ≤ nvN D → D 10 1 = r → MWF l G mL (FL b L xs 0) 214 [(0, vR 228), (1, vR 0), (2, vR 56), (4, vI M), (5, vI x5)] [] σ := by
  intro m
  induction m with
  | zero =>
    intro r x5 D p σ hr h5 hW hn h1
    refine vcL_law_214 l G hx0 hb2 hL (by omega) σ _ _ ⟨fun _ => ?_, fun c => absurd (by omega) c⟩
    refine vcL_law_405 l G hx0 hb2 hL (by omega) σ _ ?_
    exact lw_head hx0 hb2 hL 26 0 0 0 0 D p [] σ (by omega) (by omega) rfl rfl ⟨hW.1, hW.2.1, hW.2.2.1, ⟨hn, by unfold nrN; omega⟩, fun x hx => by have := hW.2.2.2 x hx; omega⟩ (by omega)
  | succ m ih =>
    intro r x5 D p σ hr h5 hW hn h1
    obtain ⟨hV, hI, hM, hlim⟩ := id hW
    have hD : DOK D := hV.1
    have nb := nv_b hD
    have ern : nrN D = r := by omega
    refine vcL_law_214 l G hx0 hb2 hL (by omega) σ _ _ ⟨fun c => absurd c (by omega), fun _ => ⟨by omega, by omega, by omega, by omega, ?_⟩⟩
    generalize celF xs L (6 + x5) = x6
    generalize celF xs L (14 + x5) = x7
    have s280 : ∀ s : Sto, InvC s (D, p, []) → (∀ j, (j < 4 * r ∨ 4 * r + 4 ≤ j) → s 56 j = σ 56 j) → (∀ j, j < 4 → 0 ≤ s 56 (4 * r + j) ∧ s 56 (4 * r + j) < 40) → MWF l G mL (FL b L xs 0) 280 [(0, vR 228), (1, vR 0), (2, vR 56), (4, vI M), (5, vI x5), (7, vI x7)] [] s := by
      intro s I2 K2 B2
      have e0 : (4 * x5).toNat = 4 * r + 0 := by omega
      have e1 : (4 * x5 + 1).toNat = 4 * r + 1 := by omega
      have e2 : (4 * x5 + 2).toNat = 4 * r + 2 := by omega
      have e3 : (4 * x5 + 3).toNat = 4 * r + 3 := by omega
      have b0 := B2 0 (by omega)
      have b1 := B2 1 (by omega)
      have b2 := B2 2 (by omega)
      have b3 := B2 3 (by omega)
      have l1 := lowF_b (x := x7) (n := 3) (by omega)
      have l2 := lowF_b (x := shrI x7 2) (n := 150) (by omega)
      have l3 := lowF_b (x := shrI x7 10) (n := 200) (by omega)
      have l4 := lowF_b (x := shrI x7 18) (n := 300) (by omega)
      refine vcL_law_280 l G hx0 hb2 hL (by omega) s _ _ _ ⟨by omega, by omega, by omega, by omega, by omega, by omega, by omega, by omega, k_low (by omega) ⟨by omega, k_low (by omega) ⟨by omega, ?_⟩⟩⟩
      rw [e0, e1, e2, e3]
      have ha := faddR (D := D) (p := p) (hs := []) (fx := s 56 (4 * r + 0)) (fy := s 56 (4 * r + 1)) (tx := s 56 (4 * r + 2)) (ty := s 56 (4 * r + 3)) (c := 1 + lowF x7 3) (m := 20 + lowF (shrI x7 2) 150) ⟨⟨by omega, by omega, by omega, by omega⟩, ⟨by omega, by omega, by omega, by omega⟩, ⟨by omega, by omega⟩, ⟨by omega, by omega⟩⟩ (by omega)
      have Va := V_addR hV (s 56 (4 * r + 0)) (s 56 (4 * r + 1)) (s 56 (4 * r + 2)) (s 56 (4 * r + 3)) (1 + lowF x7 3) (20 + lowF (shrI x7 2) 150)
      obtain ⟨q1, q2, q6, q100, q101, q40, q41⟩ := dR D (s 56 (4 * r + 0)) (s 56 (4 * r + 1)) (s 56 (4 * r + 2)) (s 56 (4 * r + 3)) (1 + lowF x7 3) (20 + lowF (shrI x7 2) 150)
      refine c_addR hV I2 (fun s3 a f => ?_)
      rw [ha] at a Va ⊢
      generalize dAddR D (s 56 (4 * r + 0)) (s 56 (4 * r + 1)) (s 56 (4 * r + 2)) (s 56 (4 * r + 3)) (1 + lowF x7 3) (20 + lowF (shrI x7 2) 150) = D1 at a Va q1 q2 q6 q100 q101 q40 q41
      have hV1 : Val (D1, p, []) := Va
      have I3 : InvC s3 (D1, p, []) := a
      have ho : p.2.2 r = -1 := (VP hV).2.2.2 r (by omega) (by omega)
      refine ⟨fun _ => k_low (by omega) (fun y hy => ⟨by omega, k_low (by omega) ⟨by omega, ?_⟩⟩), fun z => absurd (show D 10 1 = x5 by omega) z⟩
      have hy01 : y = 0 ∨ y = 1 := by rw [hy]; split <;> omega
      obtain ⟨w, hw⟩ : ∃ w : Nat, w = 2 * r + (if y = 0 then 0 else 1) := ⟨_, rfl⟩
      have hw4 : D1 4 w = 5000 := by
        rcases hy01 with z | z
        · rw [if_pos z] at hw
          rw [hw, ← ern]; exact q40
        · rw [if_neg (by omega)] at hw
          rw [hw, ← ern]; exact q41
      have hsw := fsetW (D := D1) (p := p) (hs := []) (r := r) (s := w) (d := y) (f := lowF (shrI x7 10) 200) (l := lowF (shrI x7 10) 200 + 30 + lowF (shrI x7 18) 300) ⟨by omega, by omega⟩ ⟨by omega, by omega, by omega⟩ hw (by omega) ho
      have Vw := V_setW hV1 r y (lowF (shrI x7 10) 200) (lowF (shrI x7 10) 200 + 30 + lowF (shrI x7 18) 300)
      subst h5
      refine c_setW hV1 I3 (fun s4 a4 f4 => ?_)
      rw [hsw] at a4 Vw ⊢
      have k1 : stS (stS D1 3 w (lowF (shrI x7 10) 200)) 4 w (lowF (shrI x7 10) 200 + 30 + lowF (shrI x7 18) 300) 1 = D1 1 := (st_k (by decide)).trans (st_k (by decide))
      have k2 : stS (stS D1 3 w (lowF (shrI x7 10) 200)) 4 w (lowF (shrI x7 10) 200 + 30 + lowF (shrI x7 18) 300) 2 = D1 2 := (st_k (by decide)).trans (st_k (by decide))
      have k6 : stS (stS D1 3 w (lowF (shrI x7 10) 200)) 4 w (lowF (shrI x7 10) 200 + 30 + lowF (shrI x7 18) 300) 6 = D1 6 := (st_k (by decide)).trans (st_k (by decide))
      have k10 : stS (stS D1 3 w (lowF (shrI x7 10) 200)) 4 w (lowF (shrI x7 10) 200 + 30 + lowF (shrI x7 18) 300) 10 = D1 10 := (st_k (by decide)).trans (st_k (by decide))
      generalize stS (stS D1 3 w (lowF (shrI x7 10) 200)) 4 w (lowF (shrI x7 10) 200 + 30 + lowF (shrI x7 18) 300) = D2 at a4 Vw k1 k2 k6 k10
      have e56 : s4 56 = s 56 := (f4 56 (by omega) (by omega)).trans (f 56 (by omega) (by omega))
      have nv2 : nvN D2 = nvN D := by unfold nvN; rw [k10, q100]
      have nr2 : nrN D2 = r + 1 := by unfold nrN; rw [k10, q101]; omega
      refine ⟨fun _ => ⟨by omega, ih (r + 1) _ D2 p s4 (by omega) (by omega) ⟨Vw, a4, ⟨fun x hx => ?_, fun v hv => ?_⟩, fun x hx => ?_⟩ (by omega) (by rw [k10, q101]; omega)⟩, fun z => absurd rfl z⟩
      · rw [nr2] at hx
        rw [e56, k1, k2, q1, q2, ern]
        by_cases c1 : x = 2 * r + 1
        · subst c1
          rw [if_pos rfl, if_pos rfl]
          exact ⟨by rw [show 2 * (2 * r + 1) = 4 * r + 2 by omega], by rw [show 2 * (2 * r + 1) + 1 = 4 * r + 3 by omega]⟩
        · by_cases c2 : x = 2 * r
          · subst c2
            rw [if_neg (by omega), if_pos rfl, if_neg (by omega), if_pos rfl]
            exact ⟨by rw [show 2 * (2 * r) = 4 * r + 0 by omega], by rw [show 2 * (2 * r) + 1 = 4 * r + 1 by omega]⟩
          · rw [if_neg c1, if_neg c2, if_neg c1, if_neg c2, K2 _ (by omega), K2 _ (by omega)]
            exact hM.1 x (by omega)
      · rw [nv2] at hv
        rw [e56, k1, k2, q1, q2, ern, if_neg (by omega), if_neg (by omega), if_neg (by omega), if_neg (by omega), K2 _ (by omega), K2 _ (by omega)]
        exact hM.2 v hv
      · rw [k6, q6]
        split
        · omega
        · exact hlim x hx
    have s246 : ∀ (m k : Nat) (x8 : Int) (s : Sto), k + m = 4 → x8 = k → InvC s (D, p, []) → (∀ j, (j < 4 * r ∨ 4 * r + 4 ≤ j) → s 56 j = σ 56 j) → (∀ j, j < k → 0 ≤ s 56 (4 * r + j) ∧ s 56 (4 * r + j) < 40) → MWF l G mL (FL b L xs 0) 246 [(0, vR 228), (1, vR 0), (2, vR 56), (4, vI M), (5, vI x5), (6, vI x6), (7, vI x7), (8, vI x8)] [] s := by
      intro m
      induction m with
      | zero =>
        intro k x8 s hk h8 I2 K2 B2
        obtain rfl : k = 4 := by omega
        exact vcL_law_246 l G hx0 hb2 hL (by omega) s _ _ _ _ _ ⟨fun _ => s280 s I2 K2 B2, fun c => absurd (by omega) c⟩
      | succ m ihm =>
        intro k x8 s hk h8 I2 K2 B2
        have l1 := lowF_b (x := shrI x6 (7 * x8)) (n := 40) (by omega)
        have ei : (4 * x5 + x8).toNat = 4 * r + k := by omega
        refine vcL_law_246 l G hx0 hb2 hL (by omega) s _ _ _ _ _ ⟨fun c => absurd c (by omega), fun _ => ⟨by omega, by omega, by omega, k_low (by omega) ⟨by omega, by omega, ihm (k + 1) _ _ (by omega) (by omega) (InvC_y I2 (fun c hc => st_k (by omega))) (fun j hj => ?_) (fun j hj => ?_)⟩⟩⟩
        · rw [ei, stS_ni (by omega)]; exact K2 j hj
        · rw [ei]
          by_cases c : j = k
          · subst c; rw [stS_eq]; exact l1
          · rw [stS_ni (by omega)]; exact B2 j (by omega)
    exact s246 4 0 0 σ (by omega) rfl hI (fun _ _ => rfl) (fun j hj => absurd hj (Nat.not_lt_zero _))
theorem su_67 (hx0 : G.2.2.2.2 = 0) (hb2 : G.2.2.1 228 = b) (hL : L ≤ 260) {N : Nat} (hN1 : 1 ≤ N) (hN4 : N ≤ 4) : ∀ (m v : Nat) (x4 : Int) (D : Sto) (p : PL) (σ : Sto), v + m = N → x4 = v → LV D p σ → D 10 0 = v → D 10 1 = 0 → MWF l G mL (FL b L xs 0) 67 [(0, vR 228), (1, vR 0), (2, vR 56), (3, vI N), (4, vI x4)] [] σ := by
  intro m
  induction m with
  | zero =>
    intro v x4 D p σ hv h4 hW h0 h1
    refine vcL_law_67 l G hx0 hb2 hL (by omega) σ _ _ ⟨fun _ => ?_, fun c => absurd (by omega) c⟩
    have lb := lowF_b (x := celF xs L 5) (n := 7) (by omega)
    refine vcL_law_197 l G hx0 hb2 hL (by omega) σ (k_low (by omega) ⟨by omega, ?_⟩)
    obtain ⟨M, hM⟩ : ∃ M : Nat, 2 + lowF (celF xs L 5) 7 = M := ⟨(2 + lowF (celF xs L 5) 7).toNat, by omega⟩
    rw [hM]
    exact su_214 hx0 hb2 hL (by omega) (by omega) M 0 0 D p σ (by omega) rfl hW (by unfold nvN; omega) (by omega)
  | succ m ih =>
    intro v x4 D p σ hv h4 hW h0 h1
    obtain ⟨hV, hI, hM, hlim⟩ := id hW
    have hD : DOK D := hV.1
    have nb := nv_b hD
    have env : nvN D = v := by omega
    have enr : nrN D = 0 := by omega
    refine vcL_law_67 l G hx0 hb2 hL (by omega) σ _ _ ⟨fun c => absurd c (by omega), fun _ => ⟨by omega, by omega, by omega, by omega, ?_⟩⟩
    generalize celF xs L (1 + x4) = g
    have l1 := lowF_b (x := g) (n := 40) (by omega)
    have l2 := lowF_b (x := shrI g 6) (n := 40) (by omega)
    have l3 := lowF_b (x := shrI g 12) (n := 100) (by omega)
    have l4 := lowF_b (x := shrI g 19) (n := 6) (by omega)
    have l5 := lowF_b (x := shrI g 22) (n := 400) (by omega)
    have e1 : (48 + 2 * x4).toNat = 48 + 2 * v := by omega
    have e2 : (49 + 2 * x4).toNat = 49 + 2 * v := by omega
    refine k_low (by omega) ⟨by omega, by omega, k_low (by omega) ⟨by omega, k_low (by omega) (k_low (by omega) ⟨by omega, by omega, k_low (by omega) ⟨by omega, ?_⟩⟩)⟩⟩
    rw [e1, e2]
    rw [stS_ni (show 48 + 2 * v ≠ 49 + 2 * v by omega), stS_eq, stS_eq]
    have I2 : InvC (stS (stS σ 56 (48 + 2 * v) (lowF g 40)) 56 (49 + 2 * v) (lowF (shrI g 6) 40)) (D, p, []) := InvC_y hI (fun c hc => (st_k (by omega)).trans (st_k (by omega)))
    have ha := faddV (D := D) (p := p) (hs := []) (x := lowF g 40) (y := lowF (shrI g 6) 40) (c := 1 + lowF (shrI g 19) 6) (f := lowF (shrI g 12) 100) (l := lowF (shrI g 12) 100 + 200 + lowF (shrI g 22) 400) ⟨⟨by omega, by omega, by omega, by omega⟩, ⟨by omega, by omega⟩, ⟨by omega, by omega, by omega⟩⟩ (by omega)
    have Va := V_addV hV (lowF g 40) (lowF (shrI g 6) 40) (1 + lowF (shrI g 19) 6) (lowF (shrI g 12) 100) (lowF (shrI g 12) 100 + 200 + lowF (shrI g 22) 400)
    obtain ⟨q1, q2, q6, q100, q101⟩ := dV D (lowF g 40) (lowF (shrI g 6) 40) (1 + lowF (shrI g 19) 6) (lowF (shrI g 12) 100) (lowF (shrI g 12) 100 + 200 + lowF (shrI g 22) 400)
    refine c_addV hV I2 (fun s3 a f => ?_)
    rw [ha] at a Va ⊢
    generalize dAddV D (lowF g 40) (lowF (shrI g 6) 40) (1 + lowF (shrI g 19) 6) (lowF (shrI g 12) 100) (lowF (shrI g 12) 100 + 200 + lowF (shrI g 22) 400) = D1 at a Va q1 q2 q6 q100 q101
    have e56 : s3 56 = stS (stS σ 56 (48 + 2 * v) (lowF g 40)) 56 (49 + 2 * v) (lowF (shrI g 6) 40) 56 := f 56 (by omega) (by omega)
    have nv1 : nvN D1 = v + 1 := by unfold nvN; rw [q100]; omega
    have nr1 : nrN D1 = 0 := by unfold nrN; rw [q101]; omega
    refine ⟨fun _ => ⟨by omega, ih (v + 1) _ D1 p s3 (by omega) (by omega) ⟨Va, a, ⟨fun x hx => absurd hx (by omega), fun w hw => ?_⟩, fun x hx => by rw [q6]; exact hlim x hx⟩ (by omega) (by omega)⟩, fun z => absurd (show D 10 0 = x4 by omega) z⟩
    rw [nv1] at hw
    rw [e56, q1, q2, env]
    by_cases c : w = v
    · subst c
      rw [stS_ni (show 48 + 2 * w ≠ 49 + 2 * w by omega), stS_eq, stS_eq, if_pos rfl, if_pos rfl]
      exact ⟨rfl, rfl⟩
    · rw [stS_ni (show 48 + 2 * w ≠ 49 + 2 * v by omega), stS_ni (show 48 + 2 * w ≠ 48 + 2 * v by omega), stS_ni (show 49 + 2 * w ≠ 49 + 2 * v by omega), stS_ni (show 49 + 2 * w ≠ 48 + 2 * v by omega), if_neg (by omega), if_neg (by omega)]
      exact hM.2 w (by omega)
theorem su_13 (hx0 : G.2.2.2.2 = 0) (hb2 : G.2.2.1 228 = b) (hL : L ≤ 260) {D : Sto} {p : PL} {σ : Sto} (hV : Val (D, p, [])) (hI : InvC σ (D, p, [])) (h0 : D 10 0 = 0) (h1 : D 10 1 = 0) (hs1 : D 0 0 = 1) (hlim : ∀ r, r < 12 → D 6 r ≤ 200) : MWF l G mL (FL b L xs 0) 13 [(0, vR 228), (1, vR 0), (2, vR 56)] [] σ := by
  have nv0 : nvN D = 0 := by unfold nvN; omega
  have nr0 : nrN D = 0 := by unfold nrN; omega
  have im : f_im (D, p, []) = (-1007, (D, p, [])) := by
    unfold f_im
    show (match imS D p (nrN D) with
      | none => (-1007, (D, p, []))
      | some x => if x.2.1 = 99 then (-1007, (D, p, [])) else (tl D p - x.1, (D, x.2.2.2, recH [] p))) = _
    rw [nr0]
    rfl
  have t0 : tl D p = 0 := by unfold tl; rw [nv0]; rfl
  have lb := lowF_b (x := celF xs L 0) (n := 4) (by omega)
  have m0 : ∀ s : Sto, rM s D := fun s => ⟨fun a ha => absurd ha (by omega), fun v hv => absurd hv (by omega)⟩
  refine vcL_law_13 l G hx0 hb2 hL (by omega) σ (q_count hV (BI_r hI) fc_4 (fun s1 i1 => ⟨fun _ => ?_, fun c => absurd hs1 c⟩))
  refine c_un hV i1.1 (fun s2 a f => ⟨fun _ => ?_, fun c => absurd rfl c⟩)
  have i2 : BI σ s2 (D, p, []) := ⟨a, frC_t i1.2 f⟩
  refine q_im hV i2 im (fun s3 i3 => ⟨fun _ => ?_, fun c => absurd rfl c⟩)
  refine q_count hV i3 fc_3 (fun s4 i4 => ⟨fun _ => ?_, fun c => absurd t0 c⟩)
  refine vcL_law_52 l G hx0 hb2 hL (by omega) s4 (k_low (by omega) ⟨by omega, ?_⟩)
  obtain ⟨N, hN⟩ : ∃ N : Nat, 1 + lowF (celF xs L 0) 4 = N := ⟨(1 + lowF (celF xs L 0) 4).toNat, by omega⟩
  rw [hN]
  exact su_67 hx0 hb2 hL (by omega) (by omega) N 0 0 D p s4 (by omega) rfl ⟨hV, i4.1, m0 s4, hlim⟩ h0 h1
end SETUP
