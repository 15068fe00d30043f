section LAWB
variable {l : Launch} {G : GT} {D : Sto} {p : PL} {hs : List PL} {σ0 σ : Sto} {v : Nat} {Q : Int → Sto → Prop}
def rtB (D : Sto) (v n : Nat) (t : Nat → Nat) : Int := if n = 0 then 0 else ds D (24 + v) (t 0) + ds D (24 + v) (t (n - 1))
theorem rt_866 (hV : Val (D, p, hs)) (hv : v < nvN D) (h : BI σ0 σ (D, p, hs)) (hQ : ∀ σ', BI σ0 σ' (D, p, hs) → Q 1 σ') : MWi l G mL_route 866 [(0, vR 0), (2, vI (v)), (3, vI (p.1 v)), (5, vI (rl D v (p.1 v) (p.2.1 v))), (6, vI (0)), (7, vI (ldm D (p.2.1 v) (p.1 v))), (8, vI ((bsv p v 12 : Nat)))] [vI (1)] σ Q := by
  have nb := nv_b (D := D) hV.1
  have hl : ldm D (p.2.1 v) (p.1 v) ≤ D 7 v := (VF hV (v := v) (by omega)).1
  exact vcL_route_866 l G σ Q _ _ _ _ _ _ _ ⟨fun c => absurd c (by decide), fun _ => ⟨fun _ => q_veh hV h hv rfl (fv_4 hv) (fun σ1 i1 => ⟨fun _ => q_veh hV i1 hv rfl (fv_5 hv) (fun σ2 i2 => ⟨fun _ => q_veh hV i2 hv rfl (fv_0 hv) (fun σ3 i3 => ⟨fun c => absurd c (by omega), fun _ => q_veh hV i3 hv rfl (fv_6 hv) (fun σ4 i4 => ⟨fun _ => q_stop hV i4 rfl rfl (fs_n (Nat.le_refl _) 0) (fun σ5 i5 y hy => by rw [if_pos rfl] at hy; rw [hy]; exact hQ σ5 i5), fun c => absurd rfl c⟩)⟩), fun c => absurd rfl c⟩), fun c => absurd rfl c⟩), fun c => absurd rfl c⟩⟩
def rsF (D : Sto) (v n : Nat) (t : Nat → Nat) (e g : Nat → Int) (k : Nat) : Prop := (0 ≤ e k ∧ e k ≤ g k ∧ g k ≤ 5000) ∧ (0 ≤ D 3 (t k) ∧ D 3 (t k) ≤ e k ∧ g k ≤ D 4 (t k) ∧ D 4 (t k) ≤ 5000) ∧ (0 ≤ cms D v t e k ∧ cms D v t e k ≤ e k) ∧ (g k ≤ gos D v n t g k ∧ gos D v n t g k ≤ 5000)
theorem rt_F {D : Sto} (hD : DOK D) {v n : Nat} (hv : v < 4) {t : Nat → Nat} (hw : RW n t) (hf : FE D v n t) {k : Nat} (hk : k < n) : rsF D v n t (eS D v n t) (lS D v n t) k := by
  obtain ⟨hE, hL⟩ := FE_L hf
  have a := SC_0 hD hw hE.1 k hk
  have b := SC_0 hD hw hL.1 k hk
  have c := hE.2 _ hL.1 k hk
  have w1 := hE.1.2.2.1 k hk
  have w2 := hL.1.2.2.1 k hk
  have w3 := hD.2.2.1 (t k) (hw.2.1 k hk)
  have z := hD.1
  refine ⟨⟨a.1, c, b.2⟩, ⟨w3.1, w1.1, w2.2, w3.2.2.2⟩, ⟨?_, SC_com hE.1 hk⟩, ⟨SC_gos hL.1 hk, ?_⟩⟩
  · unfold cms
    split
    · have := hD.2.2.2.2.1 v hv
      have := ds_0 D (24 + v) (t 0)
      omega
    · have := SC_0 hD hw hE.1 (k - 1) (by omega)
      have := ds_0 D (t (k - 1)) (t k)
      omega
  · unfold gos
    split
    · have := hD.2.2.2.2.1 v hv
      have := ds_0 D (24 + v) (t k)
      omega
    · have := SC_0 hD hw hL.1 (k + 1) (by omega)
      have := ds_0 D (t k) (t (k + 1))
      omega
theorem rt_533 (hV : Val (D, p, hs)) (hM : rM σ0 D) (hv : v < nvN D) {k : Nat} (hk : k < p.1 v) {q : Nat} (hq : q < p.1 v) (hp0 : p.2.1 v k % 2 = 0 → p.2.1 v q = p.2.1 v k + 1) (hp1 : p.2.1 v k % 2 = 1 → p.2.1 v k = p.2.1 v q + 1) {x6 x7 x9 x21 z0 z1 : Int} (h9 : x9 = k) (h21 : x21 = q) (h6 : x6 = ld D (p.2.1 v) (k + 1)) (hz : z1 + z0 = rtB D v (p.1 v) (p.2.1 v) + sg D (p.2.1 v) (k + 1))
    (hn : ∀ (x5 x8 : Int) (σ1 : Sto), BI σ0 σ1 (D, p, hs) → x5 = rtB D v (p.1 v) (p.2.1 v) + sg D (p.2.1 v) (k + 1) → x8 = (stK (p.2.1 v) (k + 1) : Nat) → MWi l G mL_route 720 [(0, vR 0), (1, vR 56), (2, vI (v)), (3, vI (p.1 v)), (4, vI (D 0 0)), (5, vI (x5)), (6, vI (x6)), (7, vI (x7)), (8, vI (x8)), (9, vI (x9))] [] σ1 Q)
    (h : BI σ0 σ (D, p, hs)) : MWi l G mL_route 533 [(0, vR 0), (1, vR 56), (2, vI (v)), (3, vI (p.1 v)), (4, vI (D 0 0)), (6, vI (x6)), (7, vI (x7)), (8, vI ((stK (p.2.1 v) k : Nat))), (9, vI (x9)), (10, vI ((p.2.1 v k / 2 : Nat))), (11, vI ((p.2.1 v k % 2 : Nat))), (13, vI (eS D v (p.1 v) (p.2.1 v) k)), (14, vI (lS D v (p.1 v) (p.2.1 v) k)), (15, vI (cms D v (p.2.1 v) (eS D v (p.1 v) (p.2.1 v)) k)), (17, vI (D 3 (p.2.1 v k))), (18, vI (D 4 (p.2.1 v k))), (19, vI (eS D v (p.1 v) (p.2.1 v) k)), (20, vI (lS D v (p.1 v) (p.2.1 v) k)), (21, vI (x21))] [vI (z0), vI (z1)] σ Q := by
  have hD : DOK D := hV.1
  have nb := nv_b hD
  have hw := VW hV (v := v) (by omega)
  have hf := VF hV (v := v) (by omega)
  have hlt := WP_lt (VP hV) (by omega) hk
  have hlq := WP_lt (VP hV) (by omega) hq
  have hr : p.2.1 v k / 2 < nrN D := by have := nb.2.2.2; omega
  have F := rt_F hD (by omega) hw hf hk
  have Fq := rt_F hD (by omega) hw hf hq
  obtain ⟨⟨f1, f2, f3⟩, ⟨f4, f5, f6, f7⟩, ⟨f8, f9⟩, -⟩ := F
  obtain ⟨⟨g1, g2, g3⟩, -⟩ := Fq
  have sgb := sg_b hD (t := p.2.1 v) (k + 1) (fun i hi => hw.2.1 i (by omega))
  have s0 := hD.1
  have bB : 0 ≤ rtB D v (p.1 v) (p.2.1 v) ∧ rtB D v (p.1 v) (p.2.1 v) ≤ 396 := by
    unfold rtB
    split
    · omega
    · have a1 := hw.2.1 0 (by omega)
      have a2 := hw.2.1 (p.1 v - 1) (by omega)
      have a3 := ds_le hD (a := 24 + v) (b := p.2.1 v 0) (by omega) (by omega)
      have a4 := ds_le hD (a := 24 + v) (b := p.2.1 v (p.1 v - 1)) (by omega) (by omega)
      have a5 := ds_0 D (24 + v) (p.2.1 v 0)
      have a6 := ds_0 D (24 + v) (p.2.1 v (p.1 v - 1))
      omega
  have e8 : ((((stK (p.2.1 v) k : Nat) : Int).toNat ||| (((2 ^ ((p.2.1 v k / 2 : Nat) : Int).toNat : Nat) : Int)).toNat : Nat) : Int) = (stK (p.2.1 v) (k + 1) : Nat) := by
    rw [Int.toNat_natCast, Int.toNat_natCast, Int.toNat_natCast]; rfl
  have hn24 := hw.1
  have hb4 : p.2.2 (p.2.1 v k / 2) = (v : Int) := (VP hV).2.1 v (by omega) k hk
  have pw : (0 : Int) ≤ ((2 ^ ((p.2.1 v k / 2 : Nat) : Int).toNat : Nat) : Int) := Int.natCast_nonneg _
  refine vcL_route_533 l G σ Q _ _ _ _ _ _ _ _ _ _ _ _ _ _ _ _ _ _ _ ⟨by omega, by omega, Int.natCast_nonneg _, pw, ?_, fun c => absurd rfl c⟩
  refine fun _ => ⟨fun _ => ⟨fun c => absurd c (by omega), fun _ => ?_⟩, fun c => absurd rfl c⟩
  refine q_stop hV h rfl h9 (fs_5 hv hk) (fun σ1 i1 => ⟨by omega, fun _ => ?_, fun c => absurd rfl c⟩)
  refine q_stop hV i1 rfl h9 (fs_5 hv hk) (fun σ2 i2 => ⟨fun c => absurd c (by omega), fun _ => ?_⟩)
  refine q_stop hV i2 rfl h9 (fs_4 hv hk) (fun σ3 i3 => ⟨fun _ => ?_, fun c => absurd h6.symm c⟩)
  refine q_req hV i3 rfl (fr_0 hr) (fun σ4 i4 => ⟨fun _ => ?_, fun c => absurd (by rw [if_neg (by omega)]; exact hb4) c⟩)
  refine ⟨fun c => absurd c (by omega), fun _ => ⟨fun _ => ?_, fun c => absurd (by omega) c⟩⟩
  refine ⟨fun _ => hn _ _ σ4 i4 hz e8, fun c => ?_⟩
  have c1 : p.2.1 v k % 2 = 1 := by omega
  have hkq := hp1 c1
  have qr : p.2.1 v q = 2 * (p.2.1 v k / 2) := by omega
  have kr : p.2.1 v k = 2 * (p.2.1 v k / 2) + 1 := by omega
  obtain ⟨x1, x2⟩ := fq_a (hs := hs) (VP hV) hr (by omega) hb4 hq hk qr kr
  have hE := (FE_L hf).1.1.2.2.2.1 q k hq hk (by omega) hkq
  have hL := (FE_L hf).2.1.2.2.2.1 q k hq hk (by omega) hkq
  have eqr : p.2.1 v q / 2 = p.2.1 v k / 2 := by omega
  rw [eqr] at hE hL
  refine q_stop hV i4 rfl h21 (fs_2 hv hq) (fun σ5 i5 => ⟨by omega, by omega, ?_⟩)
  refine q_stop hV i5 rfl h21 (fs_3 hv hq) (fun σ6 i6 => ⟨by omega, by omega, ?_⟩)
  refine q_ride hV i6 rfl x1 (fun σ7 i7 => ⟨fun _ => ?_, fun c => absurd rfl c⟩)
  refine q_ride hV i7 rfl x2 (fun σ8 i8 => ⟨fun _ => ?_, fun c => absurd rfl c⟩)
  refine q_req hV i8 rfl (fr_2 hr) (fun σ9 i9 => ⟨fun c => absurd c (by omega), fun _ => ?_⟩)
  refine q_req hV i9 rfl (fr_2 hr) (fun σ10 i10 => ⟨fun _ => hn _ _ σ10 i10 hz e8, fun c => absurd (by omega) c⟩)
theorem rt_488 (hV : Val (D, p, hs)) (hM : rM σ0 D) (hv : v < nvN D) {k : Nat} (hk : k < p.1 v) {x5 x6 x7 x9 x21 z0 : Int} (h9 : x9 = k) (h5 : x5 = rtB D v (p.1 v) (p.2.1 v) + sg D (p.2.1 v) k) (h6 : x6 = ld D (p.2.1 v) k) (h7 : x7 = ldm D (p.2.1 v) k) (hz : z0 = lc D (p.2.1 v k))
    (hn : ∀ (x6 x7 y0 y1 : Int) (σ1 : Sto), BI σ0 σ1 (D, p, hs) → x6 = ld D (p.2.1 v) (k + 1) → x7 = ldm D (p.2.1 v) (k + 1) → y1 + y0 = rtB D v (p.1 v) (p.2.1 v) + sg D (p.2.1 v) (k + 1) → MWi l G mL_route 533 [(0, vR 0), (1, vR 56), (2, vI (v)), (3, vI (p.1 v)), (4, vI (D 0 0)), (6, vI (x6)), (7, vI (x7)), (8, vI ((stK (p.2.1 v) k : Nat))), (9, vI (x9)), (10, vI ((p.2.1 v k / 2 : Nat))), (11, vI ((p.2.1 v k % 2 : Nat))), (13, vI (eS D v (p.1 v) (p.2.1 v) k)), (14, vI (lS D v (p.1 v) (p.2.1 v) k)), (15, vI (cms D v (p.2.1 v) (eS D v (p.1 v) (p.2.1 v)) k)), (17, vI (D 3 (p.2.1 v k))), (18, vI (D 4 (p.2.1 v k))), (19, vI (eS D v (p.1 v) (p.2.1 v) k)), (20, vI (lS D v (p.1 v) (p.2.1 v) k)), (21, vI (x21))] [vI (y0), vI (y1)] σ1 Q)
    (h : BI σ0 σ (D, p, hs)) : MWi l G mL_route 488 [(0, vR 0), (1, vR 56), (2, vI (v)), (3, vI (p.1 v)), (4, vI (D 0 0)), (5, vI (x5)), (7, vI (x7)), (8, vI ((stK (p.2.1 v) k : Nat))), (9, vI (x9)), (10, vI ((p.2.1 v k / 2 : Nat))), (11, vI ((p.2.1 v k % 2 : Nat))), (12, vI ((p.2.1 v k : Nat))), (13, vI (eS D v (p.1 v) (p.2.1 v) k)), (14, vI (lS D v (p.1 v) (p.2.1 v) k)), (15, vI (cms D v (p.2.1 v) (eS D v (p.1 v) (p.2.1 v)) k)), (17, vI (D 3 (p.2.1 v k))), (18, vI (D 4 (p.2.1 v k))), (19, vI (eS D v (p.1 v) (p.2.1 v) k)), (20, vI (lS D v (p.1 v) (p.2.1 v) k)), (21, vI (x21))] [vI (z0), vI (x6)] σ Q := by
  have hD : DOK D := hV.1
  have nb := nv_b hD
  have hw := VW hV (v := v) (by omega)
  have hlt := WP_lt (VP hV) (by omega) hk
  have hn24 := hw.1
  have lb := ld_b hD (t := p.2.1 v) (k + 1) (fun i hi => hw.2.1 i (by omega))
  have es : x6 + z0 = ld D (p.2.1 v) (k + 1) := by rw [h6, hz]; rfl
  refine vcL_route_488 l G σ Q _ _ _ _ _ _ _ _ _ _ _ _ _ _ _ _ _ _ _ _ ⟨by omega, fun y hy => ?_⟩
  have ey : y = ldm D (p.2.1 v) (k + 1) := by
    rw [hy, es, h7]
    show _ = if ldm D (p.2.1 v) k < ld D (p.2.1 v) (k + 1) then ld D (p.2.1 v) (k + 1) else ldm D (p.2.1 v) k
    by_cases c : ld D (p.2.1 v) (k + 1) ≤ ldm D (p.2.1 v) k
    · rw [if_pos c, if_neg (by omega)]
    · rw [if_neg c, if_pos (by omega)]
  have sgs : sg D (p.2.1 v) (k + 1) = sg D (p.2.1 v) k + (if k = 0 then 0 else ds D (p.2.1 v (k - 1)) (p.2.1 v k)) := rfl
  refine ⟨fun c => hn _ _ _ _ σ h es ey (by rw [if_pos (by omega)] at sgs; omega), fun c => ⟨by omega, ?_⟩⟩
  rw [if_neg (by omega)] at sgs
  have hlp := WP_lt (VP hV) (v := v) (by omega) (k := k - 1) (by omega)
  have dl := ds_le hD (a := p.2.1 v (k - 1)) (b := p.2.1 v k) (by omega) (by omega)
  refine q_at hV h hv (k := k - 1) (by omega) rfl (by omega) (fun σ1 i1 => ?_)
  exact k_farS hD (rM_fr hM i1.2) (by omega) (by omega) rfl rfl (hn _ _ _ _ σ1 i1 es ey (by omega))
theorem rt_463 (hV : Val (D, p, hs)) (hM : rM σ0 D) (hv : v < nvN D) {k : Nat} (hk : k < p.1 v) {x5 x6 x7 x9 x21 : Int} (hn : ∀ (z0 : Int) (σ1 : Sto), BI σ0 σ1 (D, p, hs) → z0 = lc D (p.2.1 v k) → MWi l G mL_route 488 [(0, vR 0), (1, vR 56), (2, vI (v)), (3, vI (p.1 v)), (4, vI (D 0 0)), (5, vI (x5)), (7, vI (x7)), (8, vI ((stK (p.2.1 v) k : Nat))), (9, vI (x9)), (10, vI ((p.2.1 v k / 2 : Nat))), (11, vI ((p.2.1 v k % 2 : Nat))), (12, vI ((p.2.1 v k : Nat))), (13, vI (eS D v (p.1 v) (p.2.1 v) k)), (14, vI (lS D v (p.1 v) (p.2.1 v) k)), (15, vI (cms D v (p.2.1 v) (eS D v (p.1 v) (p.2.1 v)) k)), (17, vI (D 3 (p.2.1 v k))), (18, vI (D 4 (p.2.1 v k))), (19, vI (eS D v (p.1 v) (p.2.1 v) k)), (20, vI (lS D v (p.1 v) (p.2.1 v) k)), (21, vI (x21))] [vI (z0), vI (x6)] σ1 Q)
    (h : BI σ0 σ (D, p, hs)) : MWi l G mL_route 463 [(0, vR 0), (1, vR 56), (2, vI (v)), (3, vI (p.1 v)), (4, vI (D 0 0)), (5, vI (x5)), (6, vI (x6)), (7, vI (x7)), (8, vI ((stK (p.2.1 v) k : Nat))), (9, vI (x9)), (10, vI ((p.2.1 v k / 2 : Nat))), (11, vI ((p.2.1 v k % 2 : Nat))), (12, vI ((p.2.1 v k : Nat))), (13, vI (eS D v (p.1 v) (p.2.1 v) k)), (14, vI (lS D v (p.1 v) (p.2.1 v) k)), (15, vI (cms D v (p.2.1 v) (eS D v (p.1 v) (p.2.1 v)) k)), (17, vI (D 3 (p.2.1 v k))), (18, vI (D 4 (p.2.1 v k))), (19, vI (eS D v (p.1 v) (p.2.1 v) k)), (20, vI (lS D v (p.1 v) (p.2.1 v) k)), (21, vI (x21))] [] σ Q := by
  have hD : DOK D := hV.1
  have nb := nv_b hD
  have hlt := WP_lt (VP hV) (by omega) hk
  have hr : p.2.1 v k / 2 < nrN D := by have := nb.2.2.2; omega
  have b5 := hD.2.2.2.1 (p.2.1 v k / 2) (by omega)
  refine vcL_route_463 l G σ Q _ _ _ _ _ _ _ _ _ _ _ _ _ _ _ _ _ _ _ ⟨fun c => q_req hV h rfl (fr_1 hr) (fun σ1 i1 => hn _ σ1 i1 ?_), fun c => q_req hV h rfl (fr_1 hr) (fun σ1 i1 => ⟨by omega, hn _ σ1 i1 ?_⟩)⟩
  · unfold lc; rw [if_pos (by omega)]
  · unfold lc; rw [if_neg (by omega)]
theorem rt_321 (hV : Val (D, p, hs)) (hM : rM σ0 D) (hv : v < nvN D) {k : Nat} (hk : k < p.1 v) {q : Nat} (hq : q < p.1 v) (hp0 : p.2.1 v k % 2 = 0 → k < q ∧ p.2.1 v q = p.2.1 v k + 1) (hp1 : p.2.1 v k % 2 = 1 → q < k ∧ p.2.1 v k = p.2.1 v q + 1) {x5 x6 x7 x9 : Int} (h9 : x9 = k)
    (hn : ∀ (x21 : Int) (σ1 : Sto), BI σ0 σ1 (D, p, hs) → x21 = q → MWi l G mL_route 463 [(0, vR 0), (1, vR 56), (2, vI (v)), (3, vI (p.1 v)), (4, vI (D 0 0)), (5, vI (x5)), (6, vI (x6)), (7, vI (x7)), (8, vI ((stK (p.2.1 v) k : Nat))), (9, vI (x9)), (10, vI ((p.2.1 v k / 2 : Nat))), (11, vI ((p.2.1 v k % 2 : Nat))), (12, vI ((p.2.1 v k : Nat))), (13, vI (eS D v (p.1 v) (p.2.1 v) k)), (14, vI (lS D v (p.1 v) (p.2.1 v) k)), (15, vI (cms D v (p.2.1 v) (eS D v (p.1 v) (p.2.1 v)) k)), (17, vI (D 3 (p.2.1 v k))), (18, vI (D 4 (p.2.1 v k))), (19, vI (eS D v (p.1 v) (p.2.1 v) k)), (20, vI (lS D v (p.1 v) (p.2.1 v) k)), (21, vI (x21))] [] σ1 Q) : ∀ (m o : Nat) (x21 : Int) (σ : Sto), o + m = q → x21 = o → BI σ0 σ (D, p, hs) → MWi l G mL_route 321 [(0, vR 0), (1, vR 56), (2, vI (v)), (3, vI (p.1 v)), (4, vI (D 0 0)), (5, vI (x5)), (6, vI (x6)), (7, vI (x7)), (8, vI ((stK (p.2.1 v) k : Nat))), (9, vI (x9)), (10, vI ((p.2.1 v k / 2 : Nat))), (11, vI ((p.2.1 v k % 2 : Nat))), (12, vI ((p.2.1 v k : Nat))), (13, vI (eS D v (p.1 v) (p.2.1 v) k)), (14, vI (lS D v (p.1 v) (p.2.1 v) k)), (15, vI (cms D v (p.2.1 v) (eS D v (p.1 v) (p.2.1 v)) k)), (17, vI (D 3 (p.2.1 v k))), (18, vI (D 4 (p.2.1 v k))), (19, vI (mxI (D 3 (p.2.1 v k)) (cms D v (p.2.1 v) (eS D v (p.1 v) (p.2.1 v)) k))), (20, vI (mnI (D 4 (p.2.1 v k)) (gos D v (p.1 v) (p.2.1 v) (lS D v (p.1 v) (p.2.1 v)) k))), (21, vI (x21))] [] σ Q := by
  have hD : DOK D := hV.1
  have nb := nv_b hD
  have hw := VW hV (v := v) (by omega)
  have hf := VF hV (v := v) (by omega)
  have hlt := WP_lt (VP hV) (by omega) hk
  have hr : p.2.1 v k / 2 < nrN D := by have := nb.2.2.2; omega
  have hn24 := hw.1
  have b6 := hD.2.2.2.1 (p.2.1 v k / 2) (by omega)
  have s0 := hD.1
  intro m
  induction m with
  | succ m ih =>
    intro o x21 σ ho h21 h
    have hne : p.2.1 v o ≠ p.2.1 v q := fun z => by have := hw.2.2.1 o q (by omega) hq z; omega
    refine vcL_route_321 l G σ Q _ _ _ _ _ _ _ _ _ _ _ _ _ _ _ _ _ _ _ (q_stop hV h rfl h21 (fs_0 hv (by omega)) (fun σ1 i1 => ⟨fun c => ?_, fun c => ⟨by omega, ih (o + 1) _ σ1 (by omega) (by omega) i1⟩⟩))
    refine q_stop hV i1 rfl h21 (fs_1 hv (by omega)) (fun σ2 i2 y hy => ⟨fun _ => ⟨by omega, ih (o + 1) _ σ2 (by omega) (by omega) i2⟩, fun c2 => absurd ?_ c2⟩)
    by_cases d : p.2.1 v k % 2 = 0
    · have := hp0 d
      rw [if_neg (by omega)] at hy
      omega
    · have := hp1 (by omega)
      rw [if_pos (by omega)] at hy
      omega
  | zero =>
    intro o x21 σ ho h21 h
    obtain rfl : o = q := by omega
    obtain ⟨hE, hL⟩ := FE_L hf
    have Fq := rt_F hD (by omega) hw hf hq
    obtain ⟨⟨g1, g2, g3⟩, -⟩ := Fq
    refine vcL_route_321 l G σ Q _ _ _ _ _ _ _ _ _ _ _ _ _ _ _ _ _ _ _ (q_stop hV h rfl h21 (fs_0 hv hq) (fun σ1 i1 => ⟨fun c => ?_, fun c => absurd ?_ c⟩))
    · refine q_stop hV i1 rfl h21 (fs_1 hv hq) (fun σ2 i2 y hy => ⟨fun c2 => absurd c2 ?_, fun c2 z hz => ⟨fun _ => ⟨fun d => ?_, fun d => ?_⟩, fun c3 => absurd ?_ c3⟩⟩)
      · by_cases d : p.2.1 v k % 2 = 0
        · have := hp0 d
          rw [if_pos (by omega)] at hy
          omega
        · have := hp1 (by omega)
          rw [if_neg (by omega)] at hy
          omega
      · have d0 : p.2.1 v k % 2 = 0 := by omega
        have eE := isE_pick hw hE hk hq d0 (hp0 d0).2
        have eL := isL_pick hL hk d0
        refine q_stop hV i2 rfl h21 (fs_2 hv hq) (fun σ3 i3 => q_req hV i3 rfl (fr_2 hr) (fun σ4 i4 => ⟨by omega, by omega, fun y hy => ?_⟩))
        rw [← eE] at hy
        rw [hy, ← eL]
        exact hn _ σ4 i4 h21
      · have d1 : p.2.1 v k % 2 = 1 := by omega
        have hkq := (hp1 d1).2
        have eE := isE_drop hE hk d1
        have eL := isL_drop hw hL hk hq (by omega) hkq
        have eqr : p.2.1 v o / 2 = p.2.1 v k / 2 := by omega
        rw [eqr] at eL
        refine q_stop hV i2 rfl h21 (fs_3 hv hq) (fun σ3 i3 => ⟨by omega, q_req hV i3 rfl (fr_2 hr) (fun σ4 i4 => ⟨by omega, fun y hy => ?_⟩)⟩)
        rw [← eL] at hy
        rw [hy, ← eE]
        exact hn _ σ4 i4 h21
      · by_cases d : p.2.1 v k % 2 = 0
        · have := hp0 d
          rw [if_pos (by omega)] at hz
          omega
        · have := hp1 (by omega)
          rw [if_neg (by omega)] at hz
          omega
    · by_cases d : p.2.1 v k % 2 = 0
      · have := hp0 d
        omega
      · have := hp1 (by omega)
        omega
theorem rt_247 (hV : Val (D, p, hs)) (hM : rM σ0 D) (hv : v < nvN D) {k : Nat} (hk : k < p.1 v) {x5 x6 x7 x9 : Int}
    (hn : ∀ (σ1 : Sto), BI σ0 σ1 (D, p, hs) → MWi l G mL_route 321 [(0, vR 0), (1, vR 56), (2, vI (v)), (3, vI (p.1 v)), (4, vI (D 0 0)), (5, vI (x5)), (6, vI (x6)), (7, vI (x7)), (8, vI ((stK (p.2.1 v) k : Nat))), (9, vI (x9)), (10, vI ((p.2.1 v k / 2 : Nat))), (11, vI ((p.2.1 v k % 2 : Nat))), (12, vI ((p.2.1 v k : Nat))), (13, vI (eS D v (p.1 v) (p.2.1 v) k)), (14, vI (lS D v (p.1 v) (p.2.1 v) k)), (15, vI (cms D v (p.2.1 v) (eS D v (p.1 v) (p.2.1 v)) k)), (17, vI (D 3 (p.2.1 v k))), (18, vI (D 4 (p.2.1 v k))), (19, vI (mxI (D 3 (p.2.1 v k)) (cms D v (p.2.1 v) (eS D v (p.1 v) (p.2.1 v)) k))), (20, vI (mnI (D 4 (p.2.1 v k)) (gos D v (p.1 v) (p.2.1 v) (lS D v (p.1 v) (p.2.1 v)) k))), (21, vI (0))] [] σ1 Q) (h : BI σ0 σ (D, p, hs)) : MWi l G mL_route 247 [(0, vR 0), (1, vR 56), (2, vI (v)), (3, vI (p.1 v)), (4, vI (D 0 0)), (5, vI (x5)), (6, vI (x6)), (7, vI (x7)), (8, vI ((stK (p.2.1 v) k : Nat))), (9, vI (x9)), (10, vI ((p.2.1 v k / 2 : Nat))), (11, vI ((p.2.1 v k % 2 : Nat))), (12, vI ((p.2.1 v k : Nat))), (13, vI (eS D v (p.1 v) (p.2.1 v) k)), (14, vI (lS D v (p.1 v) (p.2.1 v) k)), (15, vI (cms D v (p.2.1 v) (eS D v (p.1 v) (p.2.1 v)) k))] [vI (gos D v (p.1 v) (p.2.1 v) (lS D v (p.1 v) (p.2.1 v)) k)] σ Q := by
  have hD : DOK D := hV.1
  have nb := nv_b hD
  have hlt := WP_lt (VP hV) (by omega) hk
  have hr : p.2.1 v k / 2 < nrN D := by have := nb.2.2.2; omega
  have e3 : f_req (D, p, hs) (p.2.1 v k / 2 : Nat) (if ((p.2.1 v k % 2 : Nat) : Int) = 0 then 3 else 5) = D 3 (p.2.1 v k) := by
    by_cases d : p.2.1 v k % 2 = 0
    · rw [if_pos (by omega), fr_3 hr, show 2 * (p.2.1 v k / 2) = p.2.1 v k by omega]
    · rw [if_neg (by omega), fr_5 hr, show 2 * (p.2.1 v k / 2) + 1 = p.2.1 v k by omega]
  have e4 : f_req (D, p, hs) (p.2.1 v k / 2 : Nat) (if ((p.2.1 v k % 2 : Nat) : Int) = 0 then 4 else 6) = D 4 (p.2.1 v k) := by
    by_cases d : p.2.1 v k % 2 = 0
    · rw [if_pos (by omega), fr_4 hr, show 2 * (p.2.1 v k / 2) = p.2.1 v k by omega]
    · rw [if_neg (by omega), fr_6 hr, show 2 * (p.2.1 v k / 2) + 1 = p.2.1 v k by omega]
  refine vcL_route_247 l G σ Q _ _ _ _ _ _ _ _ _ _ _ _ _ _ _ (fun y hy => ?_)
  rw [hy]
  refine q_req hV h rfl e3 (fun σ1 i1 y2 hy2 => ?_)
  rw [hy2]
  refine q_req hV i1 rfl e4 (fun σ2 i2 y3 hy3 y4 hy4 => ?_)
  have a3 : y3 = mxI (D 3 (p.2.1 v k)) (cms D v (p.2.1 v) (eS D v (p.1 v) (p.2.1 v)) k) := hy3
  have a4 : y4 = mnI (D 4 (p.2.1 v k)) (gos D v (p.1 v) (p.2.1 v) (lS D v (p.1 v) (p.2.1 v)) k) := hy4
  rw [a3, a4]
  exact hn σ2 i2
theorem rt_185 (hV : Val (D, p, hs)) (hM : rM σ0 D) (hv : v < nvN D) {k : Nat} (hk : k < p.1 v) {x5 x6 x7 x9 : Int} (h9 : x9 = k)
    (hn : ∀ (σ1 : Sto), BI σ0 σ1 (D, p, hs) → MWi l G mL_route 247 [(0, vR 0), (1, vR 56), (2, vI (v)), (3, vI (p.1 v)), (4, vI (D 0 0)), (5, vI (x5)), (6, vI (x6)), (7, vI (x7)), (8, vI ((stK (p.2.1 v) k : Nat))), (9, vI (x9)), (10, vI ((p.2.1 v k / 2 : Nat))), (11, vI ((p.2.1 v k % 2 : Nat))), (12, vI ((p.2.1 v k : Nat))), (13, vI (eS D v (p.1 v) (p.2.1 v) k)), (14, vI (lS D v (p.1 v) (p.2.1 v) k)), (15, vI (cms D v (p.2.1 v) (eS D v (p.1 v) (p.2.1 v)) k))] [vI (gos D v (p.1 v) (p.2.1 v) (lS D v (p.1 v) (p.2.1 v)) k)] σ1 Q) (h : BI σ0 σ (D, p, hs)) : MWi l G mL_route 185 [(0, vR 0), (1, vR 56), (2, vI (v)), (3, vI (p.1 v)), (4, vI (D 0 0)), (5, vI (x5)), (6, vI (x6)), (7, vI (x7)), (8, vI ((stK (p.2.1 v) k : Nat))), (9, vI (x9)), (10, vI ((p.2.1 v k / 2 : Nat))), (11, vI ((p.2.1 v k % 2 : Nat))), (12, vI ((p.2.1 v k : Nat))), (13, vI (eS D v (p.1 v) (p.2.1 v) k)), (14, vI (lS D v (p.1 v) (p.2.1 v) k))] [vI (cms D v (p.2.1 v) (eS D v (p.1 v) (p.2.1 v)) k)] σ Q := by
  have hD : DOK D := hV.1
  have nb := nv_b hD
  have hw := VW hV (v := v) (by omega)
  have hf := VF hV (v := v) (by omega)
  have hlt := WP_lt (VP hV) (by omega) hk
  have hn24 := hw.1
  have s0 := hD.1
  have b9 := hD.2.2.2.2.1 v (by omega)
  obtain ⟨hE, hL⟩ := FE_L hf
  refine vcL_route_185 l G σ Q _ _ _ _ _ _ _ _ _ _ _ _ _ _ ⟨by omega, fun c => ?_, fun c => ⟨by omega, ?_⟩⟩
  · have eg : gos D v (p.1 v) (p.2.1 v) (lS D v (p.1 v) (p.2.1 v)) k = D 9 v - D 0 0 - ds D (24 + v) (p.2.1 v k) := by unfold gos; rw [if_pos (by omega)]
    have dl := ds_le hD (a := 24 + v) (b := p.2.1 v k) (by omega) (by omega)
    have d0 := ds_0 D (24 + v) (p.2.1 v k)
    rw [eg] at hn
    refine q_veh hV h hv rfl (fv_2 hv) (fun σ1 i1 => ⟨by omega, by omega, ?_⟩)
    exact k_farV hD (rM_fr hM i1.2) hv (by omega) rfl rfl ⟨by omega, hn σ1 i1⟩
  · have hlp := WP_lt (VP hV) (v := v) (by omega) (k := k + 1) (by omega)
    have eg : gos D v (p.1 v) (p.2.1 v) (lS D v (p.1 v) (p.2.1 v)) k = lS D v (p.1 v) (p.2.1 v) (k + 1) - D 0 0 - ds D (p.2.1 v k) (p.2.1 v (k + 1)) := by unfold gos; rw [if_neg (by omega)]
    have dl := ds_le hD (a := p.2.1 v k) (b := p.2.1 v (k + 1)) (by omega) (by omega)
    have d0 := ds_0 D (p.2.1 v k) (p.2.1 v (k + 1))
    have bl := SC_0 hD hw hL.1 (k + 1) (by omega)
    rw [eg] at hn
    refine q_stop hV h rfl (k := k + 1) (by omega) (fs_3 hv (by omega)) (fun σ1 i1 => ⟨by omega, ?_⟩)
    refine q_at hV i1 hv (k := k + 1) (by omega) rfl (by omega) (fun σ2 i2 => ?_)
    exact k_farS hD (rM_fr hM i2.2) (by omega) (by omega) rfl rfl ⟨by omega, hn σ2 i2⟩
theorem rt_67 (hV : Val (D, p, hs)) (hM : rM σ0 D) (hv : v < nvN D) (hQ : ∀ σ', BI σ0 σ' (D, p, hs) → Q 1 σ') : ∀ (m k : Nat) (x5 x6 x7 x8 x9 : Int) (σ : Sto), k + m = p.1 v → x9 = k → x5 = rtB D v (p.1 v) (p.2.1 v) + sg D (p.2.1 v) k → x6 = ld D (p.2.1 v) k → x7 = ldm D (p.2.1 v) k → x8 = (stK (p.2.1 v) k : Nat) → BI σ0 σ (D, p, hs) → MWi l G mL_route 67 [(0, vR 0), (1, vR 56), (2, vI (v)), (3, vI (p.1 v)), (4, vI (D 0 0)), (5, vI (x5)), (6, vI (x6)), (7, vI (x7)), (8, vI (x8)), (9, vI (x9))] [] σ Q := by
  have hD : DOK D := hV.1
  have nb := nv_b hD
  have hw := VW hV (v := v) (by omega)
  have hf := VF hV (v := v) (by omega)
  have hn24 := hw.1
  have s0 := hD.1
  have b9 := hD.2.2.2.2.1 v (by omega)
  obtain ⟨hE, hL⟩ := FE_L hf
  intro m
  induction m with
  | zero =>
    intro k x5 x6 x7 x8 x9 σ hk h9 h5 h6 h7 h8 h
    obtain rfl : k = p.1 v := by omega
    have e5 : x5 = rl D v (p.1 v) (p.2.1 v) := by rw [h5, rl_sg]; rfl
    have e6 : x6 = 0 := by rw [h6, ld_n hw]
    have e8 : x8 = (bsv p v 12 : Nat) := by rw [h8, stK_bsv (VP hV) (by omega)]
    rw [e5, e6, h7, e8]
    have fin : ∀ σ1, BI σ0 σ1 (D, p, hs) → MWi l G mL_route 866 [(0, vR 0), (2, vI (v)), (3, vI (p.1 v)), (5, vI (rl D v (p.1 v) (p.2.1 v))), (6, vI (0)), (7, vI (ldm D (p.2.1 v) (p.1 v))), (8, vI ((bsv p v 12 : Nat)))] [vI (1)] σ1 Q := fun σ1 i1 => rt_866 hV hv i1 hQ
    refine vcL_route_67 l G σ Q _ _ _ _ _ _ _ _ ⟨fun _ => ⟨fun c => ?_, fun c => ?_⟩, fun c => absurd (by omega) c⟩
    · refine q_depot hV h rfl (fd_n hv (by omega) 0) (fun σ1 i1 => ⟨fun _ => ?_, fun c => absurd rfl c⟩)
      exact q_depot hV i1 rfl (fd_n hv (by omega) 1) (fun σ2 i2 => ⟨fun _ => fin σ2 i2, fun c => absurd rfl c⟩)
    · have hn0 : p.1 v ≠ 0 := by omega
      obtain ⟨y1, y2⟩ := fd_a (hs := hs) hv hn0
      have t0 := WP_lt (VP hV) (v := v) (by omega) (k := 0) (by omega)
      have tn := WP_lt (VP hV) (v := v) (by omega) (k := p.1 v - 1) (by omega)
      have d0 := ds_0 D (24 + v) (p.2.1 v 0)
      have dn := ds_0 D (24 + v) (p.2.1 v (p.1 v - 1))
      have dl0 := ds_le hD (a := 24 + v) (b := p.2.1 v 0) (by omega) (by omega)
      have dln := ds_le hD (a := 24 + v) (b := p.2.1 v (p.1 v - 1)) (by omega) (by omega)
      have q0 := SC_0 hD hw hL.1 0 (by omega)
      have qn := SC_0 hD hw hE.1 (p.1 v - 1) (by omega)
      have z1 := hL.1.1 (by omega)
      have z2 := hE.1.2.2.2.2 (by omega)
      rw [ds_s D (p.2.1 v (p.1 v - 1))] at y2 z2
      refine q_depot hV h rfl y1 (fun σ1 i1 => q_stop hV i1 rfl (k := 0) rfl (fs_3 hv (by omega)) (fun σ2 i2 => ⟨by omega, q_at hV i2 hv (k := 0) (by omega) rfl rfl (fun σ3 i3 => k_farV hD (rM_fr hM i3.2) hv (by omega) rfl rfl ⟨by omega, fun _ => ?_, fun c => absurd rfl c⟩)⟩))
      refine q_depot hV i3 rfl y2 (fun σ4 i4 => ⟨by omega, q_stop hV i4 rfl (k := p.1 v - 1) (by omega) (fs_2 hv (by omega)) (fun σ5 i5 => ⟨by omega, q_at hV i5 hv (k := p.1 v - 1) (by omega) rfl (by omega) (fun σ6 i6 => k_farV hD (rM_fr hM i6.2) hv (by omega) rfl rfl ⟨by omega, fun _ => ?_, fun c => absurd (by omega) c⟩)⟩)⟩)
      refine q_depot hV i6 rfl y2 (fun σ7 i7 => q_veh hV i7 hv rfl (fv_2 hv) (fun σ8 i8 => ⟨fun c => absurd c (by omega), fun _ => ?_⟩))
      exact q_depot hV i8 rfl y1 (fun σ9 i9 => q_veh hV i9 hv rfl (fv_1 hv) (fun σ10 i10 => ⟨fun c => absurd c (by omega), fun _ => fin σ10 i10⟩))
  | succ m ih =>
    intro k x5 x6 x7 x8 x9 σ hk h9 h5 h6 h7 h8 h
    have hk1 : k < p.1 v := by omega
    subst h8
    have hlt := WP_lt (VP hV) (by omega) hk1
    have hr : p.2.1 v k / 2 < nrN D := by have := nb.2.2.2; omega
    have hq : ∃ q, q < p.1 v ∧ (p.2.1 v k % 2 = 0 → k < q ∧ p.2.1 v q = p.2.1 v k + 1) ∧ (p.2.1 v k % 2 = 1 → q < k ∧ p.2.1 v k = p.2.1 v q + 1) := by
      by_cases d : p.2.1 v k % 2 = 0
      · obtain ⟨j, a, b, c⟩ := hw.2.2.2.1 k hk1 d
        exact ⟨j, b, fun _ => ⟨a, c⟩, fun z => by omega⟩
      · obtain ⟨i, a, b⟩ := hw.2.2.2.2 k hk1 (by omega)
        exact ⟨i, by omega, fun z => absurd z d, fun _ => ⟨a, b.symm⟩⟩
    obtain ⟨q, hq, hp0, hp1⟩ := hq
    have s720 : ∀ (x5 x6 x7 x8 : Int) (σ1 : Sto), BI σ0 σ1 (D, p, hs) → x5 = rtB D v (p.1 v) (p.2.1 v) + sg D (p.2.1 v) (k + 1) → x6 = ld D (p.2.1 v) (k + 1) → x7 = ldm D (p.2.1 v) (k + 1) → x8 = (stK (p.2.1 v) (k + 1) : Nat) → MWi l G mL_route 720 [(0, vR 0), (1, vR 56), (2, vI (v)), (3, vI (p.1 v)), (4, vI (D 0 0)), (5, vI (x5)), (6, vI (x6)), (7, vI (x7)), (8, vI (x8)), (9, vI (x9))] [] σ1 Q := fun x5 x6 x7 x8 σ1 i1 a5 a6 a7 a8 => vcL_route_720 l G σ1 Q _ _ _ _ _ _ _ _ ⟨by omega, ih (k + 1) _ _ _ _ _ σ1 (by omega) (by omega) a5 a6 a7 a8 i1⟩
    have s463 : ∀ (x21 : Int) (σ1 : Sto), BI σ0 σ1 (D, p, hs) → x21 = q → MWi l G mL_route 463 [(0, vR 0), (1, vR 56), (2, vI (v)), (3, vI (p.1 v)), (4, vI (D 0 0)), (5, vI (x5)), (6, vI (x6)), (7, vI (x7)), (8, vI ((stK (p.2.1 v) k : Nat))), (9, vI (x9)), (10, vI ((p.2.1 v k / 2 : Nat))), (11, vI ((p.2.1 v k % 2 : Nat))), (12, vI ((p.2.1 v k : Nat))), (13, vI (eS D v (p.1 v) (p.2.1 v) k)), (14, vI (lS D v (p.1 v) (p.2.1 v) k)), (15, vI (cms D v (p.2.1 v) (eS D v (p.1 v) (p.2.1 v)) k)), (17, vI (D 3 (p.2.1 v k))), (18, vI (D 4 (p.2.1 v k))), (19, vI (eS D v (p.1 v) (p.2.1 v) k)), (20, vI (lS D v (p.1 v) (p.2.1 v) k)), (21, vI (x21))] [] σ1 Q := fun x21 σ1 i1 h21 => rt_463 hV hM hv hk1 (fun z0 σ2 i2 hz => rt_488 hV hM hv hk1 h9 h5 h6 h7 hz (fun y6 y7 y0 y1 σ3 i3 e6 e7 ey => rt_533 hV hM hv hk1 hq (fun d => (hp0 d).2) (fun d => (hp1 d).2) h9 h21 e6 ey (fun y5 y8 σ4 i4 e5 e8 => s720 _ _ _ _ σ4 i4 e5 e6 e7 e8) i3) i2) i1
    have s185 : ∀ (σ1 : Sto), BI σ0 σ1 (D, p, hs) → MWi l G mL_route 185 [(0, vR 0), (1, vR 56), (2, vI (v)), (3, vI (p.1 v)), (4, vI (D 0 0)), (5, vI (x5)), (6, vI (x6)), (7, vI (x7)), (8, vI ((stK (p.2.1 v) k : Nat))), (9, vI (x9)), (10, vI ((p.2.1 v k / 2 : Nat))), (11, vI ((p.2.1 v k % 2 : Nat))), (12, vI ((p.2.1 v k : Nat))), (13, vI (eS D v (p.1 v) (p.2.1 v) k)), (14, vI (lS D v (p.1 v) (p.2.1 v) k))] [vI (cms D v (p.2.1 v) (eS D v (p.1 v) (p.2.1 v)) k)] σ1 Q := fun σ1 i1 => rt_185 hV hM hv hk1 h9 (fun σ2 i2 => rt_247 hV hM hv hk1 (fun σ3 i3 => rt_321 hV hM hv hk1 hq hp0 hp1 h9 s463 q 0 0 σ3 (by omega) rfl i3) i2) i1
    refine vcL_route_67 l G σ Q _ _ _ _ _ _ _ _ ⟨fun c => absurd c (by omega), fun _ => ?_⟩
    refine q_stop hV h rfl h9 (fs_0 hv hk1) (fun σ1 i1 => q_stop hV i1 rfl h9 (fs_1 hv hk1) (fun σ2 i2 y hy => ?_))
    have ey : y = (p.2.1 v k % 2 : Nat) := by
      rw [hy]
      split <;> omega
    rw [ey]
    refine q_at hV i2 hv hk1 rfl h9 (fun σ3 i3 => q_stop hV i3 rfl h9 (fs_2 hv hk1) (fun σ4 i4 => q_stop hV i4 rfl h9 (fs_3 hv hk1) (fun σ5 i5 => ⟨fun c => ?_, fun c => ⟨by omega, ?_⟩⟩)))
    · have ec : cms D v (p.2.1 v) (eS D v (p.1 v) (p.2.1 v)) k = D 8 v + ds D (24 + v) (p.2.1 v k) := by unfold cms; rw [if_pos (by omega), show k = 0 by omega]
      have dl := ds_le hD (a := 24 + v) (b := p.2.1 v k) (by omega) (by omega)
      have d0 := ds_0 D (24 + v) (p.2.1 v k)
      rw [ec] at s185
      refine q_veh hV i5 hv rfl (fv_1 hv) (fun σ6 i6 => ⟨by omega, ?_⟩)
      exact k_farV hD (rM_fr hM i6.2) hv (by omega) rfl rfl ⟨by omega, s185 σ6 i6⟩
    · have hlp := WP_lt (VP hV) (v := v) (by omega) (k := k - 1) (by omega)
      have ec : cms D v (p.2.1 v) (eS D v (p.1 v) (p.2.1 v)) k = eS D v (p.1 v) (p.2.1 v) (k - 1) + D 0 0 + ds D (p.2.1 v (k - 1)) (p.2.1 v k) := by unfold cms; rw [if_neg (by omega)]
      have dl := ds_le hD (a := p.2.1 v (k - 1)) (b := p.2.1 v k) (by omega) (by omega)
      have d0 := ds_0 D (p.2.1 v (k - 1)) (p.2.1 v k)
      have bl := SC_0 hD hw hE.1 (k - 1) (by omega)
      rw [ec] at s185
      refine q_stop hV i5 rfl (k := k - 1) (by omega) (fs_2 hv (by omega)) (fun σ6 i6 => ⟨by omega, ?_⟩)
      refine q_at hV i6 hv (k := k - 1) (by omega) rfl (by omega) (fun σ7 i7 => ?_)
      exact k_farS hD (rM_fr hM i7.2) (by omega) (by omega) rfl rfl ⟨by omega, s185 σ7 i7⟩
theorem k_route (hV : Val (D, p, hs)) (hM : rM σ0 D) (hv : v < nvN D) (h : BI σ0 σ (D, p, hs)) {x2 : Int} (h2 : x2 = v) (hQ : ∀ σ', BI σ0 σ' (D, p, hs) → Q 1 σ') : CLi l G mL_route [vR 0, vR 56, vI x2] σ Q := by
  subst h2
  have hD : DOK D := hV.1
  have nb := nv_b hD
  have hw := VW hV (v := v) (by omega)
  have hn24 := hw.1
  have s53 : ∀ (z0 : Int) (σ1 : Sto), BI σ0 σ1 (D, p, hs) → z0 = rtB D v (p.1 v) (p.2.1 v) → MWi l G mL_route 53 [(0, vR 0), (1, vR 56), (2, vI (v)), (3, vI (p.1 v)), (4, vI (D 0 0))] [vI (z0)] σ1 Q := fun z0 σ1 i1 hz => vcL_route_53 l G σ1 Q _ _ _ _ (rt_67 hV hM hv hQ (p.1 v) 0 _ _ _ _ _ σ1 (by omega) rfl (by rw [hz]; simp [sg]) rfl rfl rfl i1)
  refine clL_route l G σ Q v (q_veh hV h hv rfl (fv_3 hv) (fun σ1 i1 => q_count hV i1 fc_4 (fun σ2 i2 => ⟨fun c => s53 0 σ2 i2 ?_, fun c => ⟨by omega, ?_⟩⟩)))
  · unfold rtB; rw [if_pos (by omega)]
  · have t0 := WP_lt (VP hV) (v := v) (by omega) (k := 0) (by omega)
    have tn := WP_lt (VP hV) (v := v) (by omega) (k := p.1 v - 1) (by omega)
    have d0 := ds_0 D (24 + v) (p.2.1 v 0)
    have dn := ds_0 D (24 + v) (p.2.1 v (p.1 v - 1))
    have dl0 := ds_le hD (a := 24 + v) (b := p.2.1 v 0) (by omega) (by omega)
    have dln := ds_le hD (a := 24 + v) (b := p.2.1 v (p.1 v - 1)) (by omega) (by omega)
    refine q_at hV i2 hv (k := 0) (by omega) rfl rfl (fun σ3 i3 => k_farV hD (rM_fr hM i3.2) hv (by omega) rfl rfl ⟨by omega, q_at hV i3 hv (k := p.1 v - 1) (by omega) rfl (by omega) (fun σ4 i4 => k_farV hD (rM_fr hM i4.2) hv (by omega) rfl rfl ⟨by omega, s53 _ σ4 i4 ?_⟩)⟩)
    unfold rtB; rw [if_neg (by omega)]
end LAWB
