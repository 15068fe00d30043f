section LAWE
variable {l : Launch} {G : GT} {D : Sto} {p : PL} {hs : List PL}
theorem fcc {r : Nat} (hr : r < nrN D) (hv : 1 ≤ nvN D) (ho : p.2.2 r = -1) : (fch D p r = none → f_cc (D, p, hs) r = -1005 ∧ f_ch (D, p, hs) r = (-1005, (D, p, hs))) ∧ ∀ c a b q, fch D p r = some (c, a, b, q) → f_cc (D, p, hs) r = c - tl D p + 10000 ∧ f_ch (D, p, hs) r = (100 * (a : Int) + (b : Int), (D, q, recH hs p)) := by
  have e1 : ((r : Nat) : Int).toNat = r := Int.toNat_natCast r
  have h0 := (fbe (hs := hs) hr (v := 0) (by omega) ho).1
  refine ⟨fun e => ⟨?_, ?_⟩, fun c a b q e => ⟨?_, ?_⟩⟩
  · unfold f_cc
    rw [if_pos h0]
    simp only [e1, e]
  · unfold f_ch
    rw [if_pos h0]
    simp only [e1, e]
  · unfold f_cc
    rw [if_pos h0]
    simp only [e1, e]
  · unfold f_ch
    rw [if_pos h0]
    simp only [e1, e]
theorem k_ch {σ : Sto} {S' : ST} (hV : Val (D, p, hs)) (hI : InvC σ (D, p, hs)) {r x : Int} {Q : Int → Sto → Prop} (hx : f_ch (D, p, hs) r = (x, S')) (hQ : ∀ σ', BI σ σ' S' → Q x σ') : CLi l G mX7_chain [vR 0, vI r] σ Q :=
  c_ch hV hI (fun σ' a b => by rw [hx] at a ⊢; exact hQ σ' ⟨a, b⟩)
def hmF (p : PL) (i : Nat) : Int := if p.2.2 i = -1 then -1007 else p.2.2 i
theorem k_chains (hx0 : G.2.2.2.2 = 0) {sz : Nat} {σ : Sto} (hV : Val (D, p, hs)) (hM : rM σ D) (hI : InvC σ (D, p, hs)) {r : Nat} (hr : r < nrN D) (ho : p.2.2 r = -1) (hnv : 1 ≤ nvN D) {x1 : Int} (h1 : x1 = r) {Q : Int → Sto → Prop} (hQ : ∀ (p' : PL) (hs' : List PL) (σ' : Sto), Val (D, p', hs') → InvC σ' (D, p', hs') → rM σ' D → ((p' = p ∧ hs' = hs) ∨ hs' = recH hs p) → Q 1 σ') : MXi l G G mL_chains 12 sz 0 0 0 [(0, vR 0), (1, vI x1)] [] σ Q := by
  subst h1
  have hD : DOK D := hV.1
  have nb := nv_b hD
  have tb := tl_5k hD (VP hV)
  have ob := opn_b p (nrN D)
  obtain ⟨cn, cs⟩ := fcc (hs := hs) hr hnv ho
  refine clL_chains l G hx0 sz σ Q r (q_count hV (BI_r hI) fc_3 (fun s1 i1 => q_count hV i1 fc_2 (fun s2 i2 => q_cc hV i2 rfl (fun s3 i3 => k_print hV i3 (fun s4 i4 q => ?_)))))
  have hg := gR_X hx0 (x := 58) (q := q) (by decide)
  have hx' : (gX G 58 q).2.2.2.2 = 58 := rfl
  have s62 : ∀ σ1 : Sto, InvC σ1 (D, p, hs) → rM σ1 D → (∀ i, i < nrN D → σ1 58 i = hmF p i) → MXi l G (gX G 58 q) mL_chains 12 sz 1 12 62 [(0, vR 0), (1, vI r), (2, vI (tl D p)), (3, vI (opn p (nrN D))), (4, vI (f_cc (D, p, hs) r)), (5, vJ (prF D p)), (7, vR 58)] [] σ1 Q := by
    intro σ1 I1 M1 C1
    cases hf : fch D p r with
    | none =>
      obtain ⟨e1, e2⟩ := cn hf
      rw [e1]
      refine vcL_chains_62 l G _ hg hx' sz σ1 Q _ _ _ _ _ (k_ch hV I1 e2 (fun s5 i5 => ⟨fun _ => ⟨fun _ => ⟨fun _ => k_print hV i5 (fun s6 i6 y hy => ?_), fun c => absurd rfl c⟩, fun c => absurd rfl c⟩, fun c => absurd (by decide) c⟩))
      rw [if_pos (lcI_0.mpr rfl)] at hy
      rw [hy]
      exact hQ p hs s6 hV i6.1 (rM_fr M1 i6.2) (Or.inl ⟨rfl, rfl⟩)
    | some x =>
      obtain ⟨c, a, b, q'⟩ := x
      obtain ⟨e1, e2⟩ := cs c a b q' hf
      obtain ⟨ha, c1, c2, c3⟩ := chA_fch hD (VP hV) (r := r) (by omega) (by omega) ho _ hf
      have ha : a < 12 := ha
      have c1 : q'.2.2 r = p.2.2 a := c1
      have c2 : p.2.2 a ≠ -1 := c2
      have hVa : Val (D, q', recH hs p) := by
        have := V_ch hV r
        rw [e2] at this
        exact this
      have ec : c = tl D q' := (CAP_fch hD ⟨VP hV, hV.2.2.1⟩ (r := r) (by omega) (by omega) ho _ hf).2
      have tb2 := tl_5k hD (VP hVa)
      have han : a < nrN D := by have := lt_nr (VP hV) ha c2; omega
      have hra : r ≠ a := fun z => c2 (by rw [← z]; exact ho)
      have hb : b = 99 ∨ (b < 12 ∧ b < nrN D ∧ p.2.2 b ≠ -1 ∧ r ≠ b) := by
        rcases c3 with ⟨z, -⟩ | ⟨z, z2, -⟩
        · exact Or.inl z
        · have z : b < 12 := z
          have z2 : p.2.2 b ≠ -1 := z2
          have := lt_nr (VP hV) z z2
          exact Or.inr ⟨z, by omega, z2, fun y => z2 (by rw [← y]; exact ho)⟩
      have oth : ∀ k, k < 12 → k ≠ r → k ≠ a → k ≠ b → q'.2.2 k = p.2.2 k := by
        intro k h0 h1 h2 h3
        rcases c3 with ⟨-, -, -, z⟩ | ⟨-, -, -, -, -, -, z⟩
        · exact z k h1 h2
        · exact z k h1 h2 h3
      have eo : opn q' (nrN D) = opn p (nrN D) - 1 := by
        have := opn_1 (p := p) (q := q') (r := r) (fun k hk => ?_) ho (by rw [c1]; exact c2) (nrN D)
        · rw [if_pos hr] at this; exact this
        · rcases c3 with ⟨-, y1, y2, z⟩ | ⟨-, y1, y2, y3, y4, y5, z⟩
          · have y1 : q'.2.2 a ≠ p.2.2 a := y1
            have y2 : 0 ≤ q'.2.2 a := y2
            by_cases w : k = a
            · subst w; exact ⟨fun u => by omega, fun u => absurd u c2⟩
            · have := z k hk w
              have this : q'.2.2 k = p.2.2 k := this
              rw [this]
          · have y1 : p.2.2 b ≠ -1 := y1
            have y2 : q'.2.2 a = p.2.2 b := y2
            have y5 : 0 ≤ q'.2.2 b := y5
            by_cases w : k = a
            · subst w; exact ⟨fun u => absurd (y2.symm.trans u) y1, fun u => absurd u c2⟩
            · by_cases w2 : k = b
              · subst w2; exact ⟨fun u => by omega, fun u => absurd u y1⟩
              · have this : q'.2.2 k = p.2.2 k := z k hk w w2
                rw [this]
      have hma : hmF p a = p.2.2 a := by unfold hmF; rw [if_neg c2]
      rw [e1]
      have s290 : ∀ s5, BI σ1 s5 (D, q', recH hs p) → MXi l G (gX G 58 q) mL_chains 12 sz 1 12 290 [(0, vR 0), (2, vI (tl D p)), (3, vI (opn p (nrN D))), (4, vI (c - tl D p + 10000)), (11, vI 1)] [] s5 Q := by
        intro s5 i5
        refine vcL_chains_290 l G _ hg hx' sz s5 Q _ _ _ _ ⟨fun z => absurd z (by decide), fun _ => q_count hVa i5 fc_3 (fun s6 i6 => ⟨by omega, by omega, fun _ => q_count hVa i6 fc_2 (fun s7 i7 => ⟨by omega, fun y hy => ?_⟩), fun z => absurd (by omega) z⟩)⟩
        rw [if_pos eo] at hy
        rw [hy]
        exact hQ q' _ s7 hVa i7.1 (rM_fr M1 i7.2) (Or.inr rfl)
      have s237 : ∀ (m k : Nat) (x9 x10 x12 : Int) (s5 : Sto), k + m = nrN D → x9 = a → x10 = b → x12 = k → BI σ1 s5 (D, q', recH hs p) → MXi l G (gX G 58 q) mL_chains 12 sz 1 12 237 [(0, vR 0), (1, vI r), (2, vI (tl D p)), (3, vI (opn p (nrN D))), (4, vI (c - tl D p + 10000)), (7, vR 58), (9, vI x9), (10, vI x10), (11, vI 1), (12, vI x12)] [] s5 Q := by
        intro m
        induction m with
        | zero =>
          intro k x9 x10 x12 s5 hk h9 h10 h12 i5
          exact vcL_chains_237 l G _ hg hx' sz s5 Q _ _ _ _ _ _ _ _ (q_count hVa i5 fc_1 (fun s6 i6 => ⟨fun _ => s290 s6 i6, fun z => absurd (by omega) z⟩))
        | succ m ih =>
          intro k x9 x10 x12 s5 hk h9 h10 h12 i5
          refine vcL_chains_237 l G _ hg hx' sz s5 Q _ _ _ _ _ _ _ _ (q_count hVa i5 fc_1 (fun s6 i6 => ⟨fun z => absurd z (by omega), fun _ => ⟨fun _ => ⟨by omega, ih (k + 1) _ _ _ s6 (by omega) h9 h10 (by omega) i6⟩, fun n1 => ⟨fun _ => ⟨by omega, ih (k + 1) _ _ _ s6 (by omega) h9 h10 (by omega) i6⟩, fun n2 => ⟨fun _ => ⟨by omega, ih (k + 1) _ _ _ s6 (by omega) h9 h10 (by omega) i6⟩, fun n3 => ?_⟩⟩⟩⟩))
          refine q_req hVa i6 h12 (fr_0 (by omega)) (fun s7 i7 => ⟨by omega, fun _ => ⟨by omega, ih (k + 1) _ _ _ s7 (by omega) h9 h10 (by omega) i7⟩, fun z => absurd ?_ z⟩)
          have ek : x12.toNat = k := by omega
          have e58 : s7 58 = σ1 58 := i7.2 58 (by omega) (by omega)
          rw [ek, e58, C1 k (by omega), oth k (by omega) (by omega) (by omega) (by omega)]
          rfl
      have s232 : ∀ (x9 x10 : Int) (s5 : Sto), x9 = a → x10 = b → BI σ1 s5 (D, q', recH hs p) → MXi l G (gX G 58 q) mL_chains 12 sz 1 12 232 [(0, vR 0), (1, vI r), (2, vI (tl D p)), (3, vI (opn p (nrN D))), (4, vI (c - tl D p + 10000)), (7, vR 58), (9, vI x9), (10, vI x10)] [vI 1] s5 Q :=
        fun x9 x10 s5 h9 h10 i5 => vcL_chains_232 l G _ hg hx' sz s5 Q _ _ _ _ _ _ _ (s237 (nrN D) 0 _ _ _ s5 (by omega) h9 h10 rfl i5)
      have ta : ((100 * (a : Int) + (b : Int)) / 100).toNat = a := by omega
      have tq : (100 * (a : Int) + (b : Int)) / 100 = a := by omega
      have tr : (100 * (a : Int) + (b : Int)) % 100 = b := by omega
      have rr : f_req (D, q', recH hs p) r 0 = p.2.2 a := by rw [fr_0 hr, c1, if_neg c2]
      refine vcL_chains_62 l G _ hg hx' sz σ1 Q _ _ _ _ _ (k_ch hV I1 e2 (fun s5 i5 => ⟨fun z => absurd z (by omega), fun _ => ⟨fun _ => ⟨by omega, ?_⟩, fun z => absurd (by omega) z⟩⟩))
      refine q_req hVa i5 rfl rr (fun s6 i6 => ⟨by omega, fun _ => ⟨fun z99 => ?_, fun z99 => ?_⟩, fun z => absurd ?_ z⟩)
      · rcases c3 with ⟨-, y1, y2, -⟩ | ⟨y0, -⟩
        · have y1 : q'.2.2 a ≠ p.2.2 a := y1
          have y2 : 0 ≤ q'.2.2 a := y2
          have ra : f_req (D, q', recH hs p) a 0 = q'.2.2 a := by rw [fr_0 han, if_neg (by omega)]
          refine q_req hVa i6 tq ra (fun s7 i7 => ⟨fun z => absurd z ?_, fun _ => q_req hVa i7 tq ra (fun s8 i8 => ⟨fun z => absurd z (by omega), fun _ => s232 _ _ s8 tq tr i8⟩)⟩)
          have e58 : s7 58 = σ1 58 := i7.2 58 (by omega) (by omega)
          rw [ta, e58, C1 a han, hma]
          exact y1
        · have y0 : b < 12 := y0
          omega
      · rcases c3 with ⟨y0, -⟩ | ⟨y0, yb, y2, y3, y4, y5, -⟩
        · have y0 : b = 99 := y0
          omega
        · have y0 : b < 12 := y0
          have yb : p.2.2 b ≠ -1 := yb
          have y2 : q'.2.2 a = p.2.2 b := y2
          have y3 : p.2.2 a ≠ p.2.2 b := y3
          have y4 : q'.2.2 b ≠ p.2.2 b := y4
          have y5 : 0 ≤ q'.2.2 b := y5
          have hbn : b < nrN D := by have := lt_nr (VP hV) y0 yb; omega
          have hmb : hmF p b = p.2.2 b := by unfold hmF; rw [if_neg yb]
          have tbN : ((100 * (a : Int) + (b : Int)) % 100).toNat = b := by omega
          have ra : f_req (D, q', recH hs p) a 0 = p.2.2 b := by rw [fr_0 han, y2, if_neg yb]
          have rb : f_req (D, q', recH hs p) b 0 = q'.2.2 b := by rw [fr_0 hbn, if_neg (by omega)]
          refine q_req hVa i6 tq ra (fun s7 i7 => ⟨by omega, fun _ => q_req hVa i7 tr rb (fun s8 i8 => ⟨fun z => absurd z ?_, fun _ => q_req hVa i8 tr rb (fun s9 i9 => ⟨fun z => absurd z (by omega), fun _ => ⟨fun z => absurd z ?_, fun _ => s232 _ _ s9 tq tr i9⟩⟩)⟩), fun z => absurd ?_ z⟩)
          · have e58 : s8 58 = σ1 58 := i8.2 58 (by omega) (by omega)
            rw [tbN, e58, C1 b hbn, hmb]
            exact y4
          · have e58 : s9 58 = σ1 58 := i9.2 58 (by omega) (by omega)
            rw [ta, tbN, e58, C1 a han, C1 b hbn, hma, hmb]
            exact y3
          · have e58 : s7 58 = σ1 58 := i7.2 58 (by omega) (by omega)
            rw [tbN, e58, C1 b hbn, hmb]
      · have e58 : s6 58 = σ1 58 := i6.2 58 (by omega) (by omega)
        rw [ta, e58, C1 a han, hma]
  have s34 : ∀ (m k : Nat) (x8 : Int) (σ1 : Sto), k + m = nrN D → x8 = k → InvC σ1 (D, p, hs) → rM σ1 D → (∀ i, i < k → σ1 58 i = hmF p i) → MXi l G (gX G 58 q) mL_chains 12 sz 1 12 34 [(0, vR 0), (1, vI r), (2, vI (tl D p)), (3, vI (opn p (nrN D))), (4, vI (f_cc (D, p, hs) r)), (5, vJ (prF D p)), (7, vR 58), (8, vI x8)] [] σ1 Q := by
    intro m
    induction m with
    | zero =>
      intro k x8 σ1 hk h8 I1 M1 C1
      obtain rfl : k = nrN D := by omega
      exact vcL_chains_34 l G _ hg hx' sz σ1 Q _ _ _ _ _ _ (q_count hV (BI_r I1) fc_1 (fun s5 i5 => ⟨fun _ => s62 s5 i5.1 (rM_fr M1 i5.2) (fun i hi => by rw [i5.2 58 (by omega) (by omega)]; exact C1 i hi), fun z => absurd (by omega) z⟩))
    | succ m ih =>
      intro k x8 σ1 hk h8 I1 M1 C1
      refine vcL_chains_34 l G _ hg hx' sz σ1 Q _ _ _ _ _ _ (q_count hV (BI_r I1) fc_1 (fun s5 i5 => ⟨fun z => absurd z (by omega), fun _ => q_req hV i5 h8 (fr_0 (by omega)) (fun s6 i6 => ⟨by omega, by omega, ih (k + 1) _ _ (by omega) (by omega) (InvC_x i6.1 (fun c _ h2 => st_k h2)) (rM_x (rM_fr M1 i6.2) (st_k (by decide))) (fun i hi => ?_)⟩)⟩))
      have ek : x8.toNat = k := by omega
      have e58 : s6 58 = σ1 58 := i6.2 58 (by omega) (by omega)
      by_cases z : i = k
      · subst z
        rw [ek, stS_eq]; rfl
      · rw [ek, stS_ni z, e58]
        exact C1 i (by omega)
  exact s34 (nrN D) 0 0 _ (by omega) rfl (InvC_x i4.1 (fun c _ h2 => zS_k h2)) (rM_x (rM_fr hM i4.2) (zS_k (by decide))) (fun i hi => absurd hi (Nat.not_lt_zero _))
end LAWE
