def LW (D : Sto) (p : PL) (hs : List PL) (σ : Sto) (e : Nat) : Prop := Val (D, p, hs) ∧ InvC σ (D, p, hs) ∧ rM σ D ∧ (1 ≤ nvN D ∧ 1 ≤ nrN D) ∧ ∀ r, r < 12 → D 6 r ≤ 200 + e
theorem LW_up {D : Sto} {p : PL} {hs : List PL} {σ : Sto} {e : Nat} (h : LW D p hs σ e) : LW D p hs σ (e + 1) := ⟨h.1, h.2.1, h.2.2.1, h.2.2.2.1, fun r hr => by have := h.2.2.2.2 r hr; omega⟩
theorem LW_b {D : Sto} {p p' : PL} {hs hs' : List PL} {σ σ' : Sto} {e : Nat} (h : LW D p hs σ e) (hV : Val (D, p', hs')) (i : BI σ σ' (D, p', hs')) : LW D p' hs' σ' e := ⟨hV, i.1, rM_fr h.2.2.1 i.2, h.2.2.2.1, h.2.2.2.2⟩
def PE (x5 : Int) (x11 : Int64) (x13 : Int) (D : Sto) (p : PL) (hs : List PL) : Prop := x5 = x13 ∧ ((x11 = prF D p ∧ x13 = hs.length) ∨ ∃ (p0 : PL) (hs0 : List PL), hs = recH hs0 p0 ∧ hs0.length ≤ 10 ∧ x13 = hs0.length ∧ x11 = prF D p0)
abbrev l1150 (x4 x5 x6 x7 : Int) (x11 : Int64) (x13 : Int) : List (Nat × MV) := [(0, vR 228), (1, vR 0), (2, vR 56), (4, vI x4), (5, vI x5), (6, vI x6), (7, vI x7), (11, vJ x11), (13, vI x13)]
def C1150 (l : Launch) (G : GT) (b L : Nat) (xs : Nat → Int32) (e : Nat) (x4 x6 x7 : Int) : Prop := ∀ (D : Sto) (p : PL) (hs : List PL) (σ : Sto) (κ : Nat) (x5 : Int) (x11 : Int64) (x13 : Int), κ ≤ e + 1 → LW D p hs σ (e + 1) → D 10 1 = x4 → PE x5 x11 x13 D p hs → MWF l G mL (FL b L xs κ) 1150 (l1150 x4 x5 x6 x7 x11 x13) [] σ
def C1256 (l : Launch) (G : GT) (b L : Nat) (xs : Nat → Int32) (e : Nat) (x4 x6 : Int) : Prop := ∀ (D : Sto) (p : PL) (hs : List PL) (σ : Sto) (κ : Nat) (x5 : Int), κ ≤ e + 1 → LW D p hs σ (e + 1) → D 10 1 = x4 → x5 = hs.length → MWF l G mL (FL b L xs κ) 1256 [(0, vR 228), (1, vR 0), (2, vR 56), (4, vI x4), (5, vI x5), (6, vI x6)] [] σ
section EVENTS
variable {l : Launch} {G : GT} {b L : Nat} {xs : Nat → Int32} {κ e : Nat} {D : Sto} {p : PL} {hs : List PL} {σ : Sto} {x4 x5 x6 x7 x8 x9 x10 x13 : Int} {x11 : Int64}
theorem ev_1150 (hx0 : G.2.2.2.2 = 0) (hb2 : G.2.2.1 228 = b) (hL : L ≤ 260) (he : e < 26) (hC : C1256 l G b L xs e x4 x6) : C1150 l G b L xs e x4 x6 x7 := by
  intro D p hs σ κ x5 x11 x13 hκ hW h4 hP
  obtain ⟨hV, hI, hM, hn, hlim⟩ := id hW
  obtain ⟨rfl, hP⟩ := hP
  have hk : κ ≤ 100 := by omega
  have hsl : hs.length ≤ 10 := hV.2.2.2.2
  refine vcL_law_1150 l G hx0 hb2 hL hk σ _ _ _ _ _ _ (k_print hV (BI_r hI) (fun s1 i1 => ⟨fun c => ?_, fun c => ?_⟩))
  · refine vcL_law_1216 l G hx0 hb2 hL hk s1 _ _ _ _ (q_count hV i1 fc_5 (fun s2 i2 => ⟨fun z => hC D p hs s2 κ _ hκ (LW_b hW hV i2) h4 z.symm, fun z => q_count hV i2 fc_5 (fun s3 i3 => ?_)⟩))
    rcases hP with ⟨-, y⟩ | ⟨p0, hs0, a1, a2, a3, a4⟩
    · exact absurd y.symm z
    · have rl := recH_len (p := p0) a2
      rw [← a1] at rl
      refine ⟨fun _ => ⟨by omega, trivial⟩, fun y hy => ⟨fun _ => hC D p hs s3 κ _ hκ (LW_b hW hV i3) h4 rfl, fun w => absurd ?_ w⟩⟩
      rw [hy, rl, a3]
      by_cases q : 10 ≤ hs0.length
      · rw [if_pos q, if_pos (by omega)]; rfl
      · rw [if_neg q, if_neg (by omega)]; rfl
  · rcases hP with ⟨y, -⟩ | ⟨p0, hs0, a1, a2, a3, a4⟩
    · exact absurd (lcI_0.mpr y.symm) c
    · have rl := recH_len (p := p0) a2
      have rl' := rl
      rw [← a1] at rl
      refine ⟨fun _ => ⟨by omega, trivial⟩, fun y hy => ?_⟩
      have ey : y = hs.length := by
        rw [hy, rl, a3]
        by_cases q : 10 ≤ hs0.length
        · rw [if_pos q, if_pos (by omega)]; rfl
        · rw [if_neg q, if_neg (by omega)]; rfl
      refine ⟨fun _ => ⟨by omega, ?_⟩, fun _ => hC D p hs s1 κ _ hκ (LW_b hW hV i1) h4 ey⟩
      obtain ⟨u1, u2, u3, u4⟩ := recH_un D p (hs := hs0) (p := p0)
      rw [← a1] at u1 u2 u3 u4
      have Vu := V_un hV
      cases hu : f_un (D, p, hs) with
      | mk x S' =>
        obtain ⟨D', p', hs'⟩ := S'
        rw [hu] at u1 u2 u3 u4 Vu
        have u1 : x = (hs.length : Int) - 1 := u1
        have u2 : D' = D := u2
        have u3 : p' = p0 := u3
        have u4 : hs'.length = hs.length - 1 := u4
        subst u2; subst u3
        have hVu : Val (D', p', hs') := Vu
        refine c_un hV i1.1 (fun s2 a f => ?_)
        rw [hu] at a ⊢
        have i2 : BI σ s2 (D', p', hs') := ⟨a, frC_t i1.2 f⟩
        refine ⟨fun _ => k_print hVu i2 (fun s3 i3 => ⟨fun _ => hC D' p' hs' s3 κ _ hκ (LW_b hW hVu i3) h4 (by omega), fun z => absurd (lcI_0.mpr a4.symm) z⟩), fun z => absurd (by show x = y + -1; omega) z⟩
theorem PE_l (hx : x5 = hs.length) : PE x5 (prF D p) (hs.length) D p hs := ⟨hx, Or.inl ⟨rfl, rfl⟩⟩
theorem PE_r {p0 : PL} (hx : x5 = hs.length) (h10 : hs.length ≤ 10) : PE x5 (prF D p0) (hs.length) D p (recH hs p0) := ⟨hx, Or.inr ⟨p0, hs, rfl, h10, rfl, rfl⟩⟩
theorem oe_a {r : Nat} (hr : r < nrN D) (ha : p.2.2 r ≠ -1) : f_oe (D, p, hs) r = -1003 := by
  have e1 : ((r : Nat) : Int).toNat = r := Int.toNat_natCast r
  have hr2 : isRq D r := by unfold nrN at hr; exact ⟨by omega, by omega⟩
  unfold f_oe
  rw [if_t hr2]
  simp only [e1]
  rw [if_neg ha]
theorem ev_491 (hx0 : G.2.2.2.2 = 0) (hb2 : G.2.2.1 228 = b) (hL : L ≤ 260) (he : e < 26) (hκ : κ ≤ e) (hC : C1150 l G b L xs e x4 x6 x7) (hW : LW D p hs σ e) (h4 : D 10 1 = x4) (h5 : x5 = hs.length) {r : Nat} (hr : r < nrN D) (h9 : x9 = r) (hop : (x10 = 0 ∧ p.2.2 r ≠ -1) ∨ (x10 = 1 ∧ p.2.2 r = -1)) (h8 : ¬ 6 ≤ x8) (hx : x11 = prF D p ∧ x13 = hs.length) : MWF l G mL (FL b L xs κ) 491 [(0, vR 228), (1, vR 0), (2, vR 56), (4, vI x4), (5, vI x5), (6, vI x6), (7, vI x7), (8, vI x8), (9, vI x9), (10, vI x10), (11, vJ x11), (13, vI x13)] [] σ := by
  obtain ⟨hV, hI, hM, hn, hlim⟩ := id hW
  obtain ⟨rfl, rfl⟩ := hx
  subst h9
  have nb := nv_b (D := D) hV.1
  have v0 : isVh D 0 := ⟨by omega, by omega⟩
  have hr2 : isRq D r := ⟨by omega, by omega⟩
  have e1 : ((r : Nat) : Int).toNat = r := Int.toNat_natCast r
  have hsl : hs.length ≤ 10 := hV.2.2.2.2
  refine vcL_law_491 l G hx0 hb2 hL (by omega) σ _ _ _ _ _ _ _ _ _ ⟨fun c => absurd c h8, fun _ => ⟨fun c => ?_, fun c => ?_⟩⟩
  · have ha : p.2.2 r ≠ -1 := by
      rcases hop with ⟨-, z⟩ | ⟨z, -⟩
      · exact z
      · omega
    have oe := oe_a (hs := hs) hr ha
    have oe2 : f_oe2 (D, p, hs) r 0 = -1003 := by unfold f_oe2; rw [if_t v0, oe]
    have ie : f_ie (D, p, hs) r 0 0 1 = -1003 := by
      unfold f_ie
      rw [if_t ⟨hr2, v0⟩, if_t ⟨by omega, by omega, by omega⟩]
      simp only [e1]
      rw [if_neg ha]
    refine q_asg hV (BI_r hI) (x := -1003) (by unfold f_asg; rw [oe, if_neg (by decide)]) (fun s1 i1 => ⟨fun _ => ?_, fun z => absurd rfl z⟩)
    refine q_cost hV i1 (x := -1003) (by unfold f_cost; rw [ie, if_neg (by decide)]) (fun s2 i2 => ⟨fun _ => ?_, fun z => absurd rfl z⟩)
    refine q_best hV i2 (x := -1003) (by unfold f_best; rw [oe2, if_neg (by decide)]) (fun s3 i3 => ⟨fun _ => ?_, fun z => absurd rfl z⟩)
    refine q_ch hV i3 (x := -1003) (by unfold f_ch; rw [oe, if_neg (by decide)]) (fun s4 i4 => ⟨fun _ => ?_, fun z => absurd rfl z⟩)
    exact hC D p hs s4 κ _ _ _ (by omega) (LW_up (LW_b hW hV i4)) h4 (PE_l h5)
  · have ho : p.2.2 r = -1 := by
      rcases hop with ⟨z, -⟩ | ⟨-, z⟩
      · exact absurd z c
      · exact z
    intro sz
    refine k_puts hx0 hV hM hI hr ho hn.1 rfl (fun p' hs' s1 V1 I1 M1 hp => ⟨fun z => absurd z (by decide), fun _ => ?_⟩)
    refine hC D p' hs' s1 (κ + 1) _ _ _ (by omega) (LW_up ⟨V1, I1, M1, hn, hlim⟩) h4 ?_
    rcases hp with ⟨rfl, rfl⟩ | rfl
    · exact PE_l h5
    · exact PE_r h5 hsl
theorem ev_remove (hx0 : G.2.2.2.2 = 0) (hb2 : G.2.2.1 228 = b) (hL : L ≤ 260) (he : e < 26) (hκ : κ ≤ e) (hC : C1150 l G b L xs e x4 x6 x7) (hW : LW D p hs σ e) (h4 : D 10 1 = x4) (h5 : x5 = hs.length) {r : Nat} (hr : r < nrN D) (h9 : x9 = r) (hop : (x10 = 0 ∧ p.2.2 r ≠ -1) ∨ (x10 = 1 ∧ p.2.2 r = -1)) (h8 : x8 = 6) (hx : x11 = prF D p ∧ x13 = hs.length) : MWF l G mL (FL b L xs κ) 574 [(0, vR 228), (1, vR 0), (2, vR 56), (4, vI x4), (5, vI x5), (6, vI x6), (7, vI x7), (8, vI x8), (9, vI x9), (10, vI x10), (11, vJ x11), (13, vI x13)] [] σ := by
  obtain ⟨hV, hI, hM, hn, hlim⟩ := id hW
  obtain ⟨rfl, rfl⟩ := hx
  subst h9
  have hD : DOK D := hV.1
  have nb := nv_b hD
  have hk : κ ≤ 100 := by omega
  have hr2 : isRq D r := ⟨by omega, by omega⟩
  have e1 : ((r : Nat) : Int).toNat = r := Int.toNat_natCast r
  have hsl : hs.length ≤ 10 := hV.2.2.2.2
  refine vcL_law_574 l G hx0 hb2 hL hk σ _ _ _ _ _ _ _ _ _ ⟨fun _ => ?_, fun c => absurd h8 c⟩
  refine q_req hV (BI_r hI) rfl (fr_0 hr) (fun s1 i1 => ⟨fun c => ?_, fun c => ?_⟩)
  · have ha : p.2.2 r ≠ -1 := by
      rcases hop with ⟨-, z⟩ | ⟨z, -⟩
      · exact z
      · omega
    obtain ⟨v, a1, a2, a3, a4, a5⟩ := tl_tk hD (VP hV) (r := r) (by omega) ha
    have hvn : v < nvN D := by omega
    have hw := VW hV (v := v) (by omega)
    have hwt := (WP_tk (VP hV) (r := r) (by omega)).1
    have b1 := rl_b hD (v := v) (by omega) hw
    have b2 := rl_b hD (v := v) (by omega) (hwt.1 v (by omega))
    have er : f_rem (D, p, hs) r = (tl D p - tl D (ptk p r), (D, ptk p r, recH hs p)) := by
      unfold f_rem
      rw [if_t hr2]
      simp only [e1]
      rw [if_neg ha]
    have Va := V_rem hV r
    rw [er] at Va
    have hVa : Val (D, ptk p r, recH hs p) := Va
    rw [if_neg ha, a1]
    refine q_veh hV i1 hvn rfl (fv_4 hvn) (fun s2 i2 => vcL_law_606 l G hx0 hb2 hL hk s2 _ _ _ _ _ _ _ _ _ _ (c_rem hV i2.1 (fun s3 a f => ?_)))
    rw [er] at a ⊢
    have i3 : BI σ s3 (D, ptk p r, recH hs p) := ⟨a, frC_t i2.2 f⟩
    refine ⟨fun _ => q_veh hVa i3 hvn rfl (fv_4 hvn) (fun s4 i4 => ⟨by omega, fun _ => ⟨fun z => absurd z (by show ¬ (tl D p - tl D (ptk p r) < 0); omega), fun _ => ?_⟩, fun z => absurd a4 z⟩), fun z => absurd c z⟩
    have eo : f_req (D, ptk p r, recH hs p) r 0 = -1007 := by
      rw [fr_0 hr, (WP_tk (VP hV) (r := r) (by omega)).2.1, if_pos rfl]
    refine q_req hVa i4 rfl eo (fun s5 i5 => ⟨fun _ => ?_, fun z => absurd rfl z⟩)
    exact vcL_law_667 l G hx0 hb2 hL hk s5 _ _ _ _ _ _ (hC D (ptk p r) (recH hs p) s5 κ _ _ _ (by omega) (LW_up (LW_b hW hVa i5)) h4 (PE_r h5 hsl))
  · have ho : p.2.2 r = -1 := by
      rcases hop with ⟨z, -⟩ | ⟨-, z⟩
      · exact absurd z c
      · exact z
    have er : f_rem (D, p, hs) r = (-1004, (D, p, hs)) := by
      unfold f_rem
      rw [if_t hr2]
      simp only [e1]
      rw [if_pos ho]
    refine vcL_law_606 l G hx0 hb2 hL hk s1 _ _ _ _ _ _ _ _ _ _ (q_rem hV i1 er (fun s2 i2 => ⟨fun z => absurd z c, fun _ => ⟨fun _ => ?_, fun z => absurd rfl z⟩⟩))
    exact vcL_law_667 l G hx0 hb2 hL hk s2 _ _ _ _ _ _ (hC D p hs s2 κ _ _ _ (by omega) (LW_up (LW_b hW hV i2)) h4 (PE_l h5))
theorem ev_chain (hx0 : G.2.2.2.2 = 0) (hb2 : G.2.2.1 228 = b) (hL : L ≤ 260) (he : e < 26) (hκ : κ ≤ e) (hC : C1150 l G b L xs e x4 x6 x7) (hW : LW D p hs σ e) (h4 : D 10 1 = x4) (h5 : x5 = hs.length) {r : Nat} (hr : r < nrN D) (h9 : x9 = r) (hop : (x10 = 0 ∧ p.2.2 r ≠ -1) ∨ (x10 = 1 ∧ p.2.2 r = -1)) (h8 : ¬ 9 ≤ x8) (hx : x11 = prF D p ∧ x13 = hs.length) : MWF l G mL (FL b L xs κ) 670 [(0, vR 228), (1, vR 0), (2, vR 56), (4, vI x4), (5, vI x5), (6, vI x6), (7, vI x7), (8, vI x8), (9, vI x9), (10, vI x10), (11, vJ x11), (13, vI x13)] [] σ := by
  obtain ⟨hV, hI, hM, hn, hlim⟩ := id hW
  obtain ⟨rfl, rfl⟩ := hx
  subst h9
  have hk : κ ≤ 100 := by omega
  have hsl : hs.length ≤ 10 := hV.2.2.2.2
  refine vcL_law_670 l G hx0 hb2 hL hk σ _ _ _ _ _ _ _ _ _ ⟨fun c => absurd c h8, fun _ => ⟨fun c => hC D p hs σ κ _ _ _ (by omega) (LW_up hW) h4 (PE_l h5), fun c => ?_⟩⟩
  have ho : p.2.2 r = -1 := by
    rcases hop with ⟨z, -⟩ | ⟨-, z⟩
    · exact absurd z c
    · exact z
  intro sz
  refine k_chains hx0 hV hM hI hr ho hn.1 rfl (fun p' hs' s1 V1 I1 M1 hp => ⟨fun z => absurd z (by decide), fun _ => ?_⟩)
  refine hC D p' hs' s1 (κ + 1) _ _ _ (by omega) (LW_up ⟨V1, I1, M1, hn, hlim⟩) h4 ?_
  rcases hp with ⟨rfl, rfl⟩ | rfl
  · exact PE_l h5
  · exact PE_r h5 hsl
theorem ev_improve (hx0 : G.2.2.2.2 = 0) (hb2 : G.2.2.1 228 = b) (hL : L ≤ 260) (he : e < 26) (hκ : κ ≤ e) (hC : C1150 l G b L xs e x4 x6 x7) (hW : LW D p hs σ e) (h4 : D 10 1 = x4) (h5 : x5 = hs.length) (h8 : x8 = 9) (hx : x11 = prF D p ∧ x13 = hs.length) : MWF l G mL (FL b L xs κ) 693 [(0, vR 228), (1, vR 0), (2, vR 56), (4, vI x4), (5, vI x5), (6, vI x6), (7, vI x7), (8, vI x8), (9, vI x9), (10, vI x10), (11, vJ x11), (13, vI x13)] [] σ := by
  obtain ⟨hV, hI, hM, hn, hlim⟩ := id hW
  obtain ⟨rfl, rfl⟩ := hx
  have hD : DOK D := hV.1
  have nb := nv_b hD
  have hk : κ ≤ 100 := by omega
  have hsl : hs.length ≤ 10 := hV.2.2.2.2
  have tb := tl_5k hD (VP hV)
  obtain ⟨x, ex, hx⟩ := imS_I (D := D) (p := p) (nrN D) nb.2.2.1
  refine vcL_law_693 l G hx0 hb2 hL hk σ _ _ _ _ _ _ _ _ _ ⟨fun _ => ?_, fun c => absurd h8 c⟩
  refine q_count hV (BI_r hI) fc_3 (fun s1 i1 => ?_)
  by_cases c9 : x.2.1 = 99
  · have e : f_im (D, p, hs) = (-1007, (D, p, hs)) := by
      unfold f_im
      show (match imS D p (nrN D) with
        | none => (-1007, (D, p, hs))
        | some x => if x.2.1 = 99 then (-1007, (D, p, hs)) else (tl D p - x.1, (D, x.2.2.2, recH hs p))) = _
      rw [ex]
      show (if x.2.1 = 99 then _ else _) = _
      rw [if_pos c9]
    refine q_im hV i1 e (fun s2 i2 => ⟨fun z => absurd z (by decide), fun _ => ⟨fun z => absurd z (by decide), fun _ => ⟨fun _ => ⟨fun _ => ?_, fun z => absurd (by decide) z⟩, fun z => absurd rfl z⟩⟩⟩)
    exact hC D p hs s2 κ _ _ _ (by omega) (LW_up (LW_b hW hV i2)) h4 (PE_l h5)
  · have e : f_im (D, p, hs) = (tl D p - x.1, (D, x.2.2.2, recH hs p)) := by
      unfold f_im
      show (match imS D p (nrN D) with
        | none => (-1007, (D, p, hs))
        | some x => if x.2.1 = 99 then (-1007, (D, p, hs)) else (tl D p - x.1, (D, x.2.2.2, recH hs p))) = _
      rw [ex]
      show (if x.2.1 = 99 then _ else _) = _
      rw [if_neg c9]
    have hlt : x.1 < tl D p := by
      rcases hx with ⟨z, -⟩ | ⟨-, z⟩
      · exact absurd z c9
      · exact z
    have ec : x.1 = tl D x.2.2.2 := (CAP_imS hD ⟨VP hV, hV.2.2.1⟩ x ex).2
    have Va := V_im hV
    rw [e] at Va
    have hVa : Val (D, x.2.2.2, recH hs p) := Va
    have tb2 := tl_5k hD (VP hVa)
    refine c_im hV i1.1 (fun s2 a f => ?_)
    rw [e] at a ⊢
    have i2 : BI σ s2 (D, x.2.2.2, recH hs p) := ⟨a, frC_t i1.2 f⟩
    refine ⟨fun z => absurd z (by show ¬ (tl D p - x.1 = 0); omega), fun _ => ⟨fun _ => ⟨fun z => absurd z (by show ¬ (tl D p - x.1 ≤ 0); omega), fun _ => ?_⟩, fun z => absurd (by show 0 ≤ tl D p - x.1; omega) z⟩⟩
    refine q_count hVa i2 fc_3 (fun s3 i3 => ⟨by show _ ≤ tl D p - (tl D p - x.1) ∧ tl D p - (tl D p - x.1) ≤ _; omega, fun _ => ?_, fun z => absurd (by show tl D x.2.2.2 = tl D p - (tl D p - x.1); omega) z⟩)
    exact hC D _ _ s3 κ _ _ _ (by omega) (LW_up (LW_b hW hVa i3)) h4 (PE_r h5 hsl)
theorem ev_undo (hx0 : G.2.2.2.2 = 0) (hb2 : G.2.2.1 228 = b) (hL : L ≤ 260) (he : e < 26) (hκ : κ ≤ e) (hC : C1150 l G b L xs e x4 x6 x7) (hW : LW D p hs σ e) (h4 : D 10 1 = x4) (h5 : x5 = hs.length) (h8 : x8 = 10) : MWF l G mL (FL b L xs κ) 754 [(0, vR 228), (1, vR 0), (2, vR 56), (4, vI x4), (5, vI x5), (6, vI x6), (7, vI x7), (8, vI x8), (9, vI x9), (10, vI x10), (11, vJ x11)] [] σ := by
  obtain ⟨hV, hI, hM, hn, hlim⟩ := id hW
  have hk : κ ≤ 100 := by omega
  have hsl : hs.length ≤ 10 := hV.2.2.2.2
  obtain ⟨u1, u2, u3⟩ := un_len (D, p, hs)
  have Vu := V_un hV
  refine vcL_law_754 l G hx0 hb2 hL hk σ _ _ _ _ _ _ _ _ ⟨fun _ => ?_, fun c => absurd h8 c⟩
  cases hu : f_un (D, p, hs) with
  | mk x S' =>
    obtain ⟨D', p', hs'⟩ := S'
    rw [hu] at u1 u2 u3 Vu
    have v1 : x = if hs.length = 0 then -1007 else (hs.length : Int) - 1 := u1
    have u2 : D' = D := u2
    have v3 : hs'.length = hs.length - 1 := u3
    subst u2
    have hVu : Val (D', p', hs') := Vu
    refine c_un hV hI (fun s2 a f => ?_)
    rw [hu] at a ⊢
    have i2 : BI σ s2 (D', p', hs') := ⟨a, f⟩
    refine ⟨fun _ => ⟨by omega, trivial⟩, fun y hy => ⟨fun _ => ⟨fun _ => ⟨by omega, trivial⟩, fun z hz => ?_⟩, fun w => absurd ?_ w⟩⟩
    · refine k_print hVu i2 (fun s3 i3 => ?_)
      have ez : z = hs'.length := by
        by_cases q : x5 = 0
        · rw [if_pos q] at hz; omega
        · rw [if_neg q] at hz; omega
      rw [ez]
      exact hC D' p' hs' s3 κ _ _ _ (by omega) (LW_up (LW_b hW hVu i3)) h4 (PE_l rfl)
    · show x = y
      rw [v1, hy]
      by_cases q : hs.length = 0
      · rw [if_pos q, if_pos (by omega)]
      · rw [if_neg q, if_neg (by omega), h5]
end EVENTS
