section MODELJ
variable {l : Launch} {G : GT} {D : Sto}
theorem mG_7 {σ σ' : Sto} {x : Int} (h : σ 56 7 = x) (g : mG σ σ') : σ' 56 7 = x := (g.1.2 7 A3_3.2.2).trans h
theorem sm_new (hD : DOK D) {σ : Sto} (hM : mMD D σ) {p q : PL} (hq : WP D q) (hR : mR (σ 68) 0 q) (hA : mR (σ 73) 0 p) (hz : SZ p) {a b : Nat} {x3 x4 : Int} (h3 : x3 = a) (h4 : x4 = b) {K : Sto → Prop} (hK : ∀ σ', mG σ σ' → mR (σ' 68) 0 p → mR (σ' 73) 0 p → rC σ' 1 (some (tl D q, a, b, q)) → K σ') : CLi l G mX8_total [vR 56] (stS (stS σ 56 25 x3) 56 26 x4) (fun r s => CLv l G mX8_takeBack [vR 56] (stS s 56 27 r) K) := by
  have g0 : mG σ (stS (stS σ 56 25 x3) 56 26 x4) := mG_st (mG_st mG_r (by omega)) (by omega)
  refine sm_total hD (mG_M hM g0) hq (show mR (stS (stS σ 56 25 x3) 56 26 x4 68) 0 q from hR) (fun s f => ?_)
  have g1 : mG σ (stS s 56 27 (tl D q)) := mG_st (mG_t g0 (mG_F f (by omega) (by omega) A_13)) (by omega)
  have a1 : mR (stS s 56 27 (tl D q) 73) 0 p := by
    have : stS s 56 27 (tl D q) 73 = σ 73 := by
      show s 73 = σ 73
      rw [f.1 73 (by decide) (by omega)]; rfl
    rw [this]; exact hA
  refine sm_back a1 hz (fun s2 f2 R2 => hK s2 (mG_t g1 (mG_F f2 (by omega) (by omega) A_03)) R2 (by rw [f2.1 73 (by decide) (by omega)]; exact a1) ⟨rfl, ?_, ?_, ?_⟩)
  · rw [f2.2 25 trivial, stS_ni (by decide), f.2 25 (by unfold A1; omega), stS_ni (by decide), stS_eq]; exact h3
  · rw [f2.2 26 trivial, stS_ni (by decide), f.2 26 (by unfold A1; omega), stS_eq]; exact h4
  · rw [f2.2 27 trivial, stS_eq]
theorem sm_old {σ : Sto} {p : PL} (hA : mR (σ 73) 0 p) (hz : SZ p) {y : Int} {acc : CA} (hC : rC σ y acc) {K : Sto → Prop} (hK : ∀ σ', mG σ σ' → mR (σ' 68) 0 p → mR (σ' 73) 0 p → rC σ' y acc → K σ') : CLv l G mX8_takeBack [vR 56] σ K :=
  sm_back hA hz (fun s2 f2 R2 => hK s2 (mG_F f2 (by omega) (by omega) A_03) R2 (by rw [f2.1 73 (by decide) (by omega)]; exact hA) (rC_F hC f2 ⟨trivial, trivial, trivial⟩))
theorem rC_2 {σ σ' : Sto} {y : Int} {acc : CA} (h : rC σ y acc) (k : ∀ i, A2 i → σ' 56 i = σ 56 i) : rC σ' y acc := by
  cases acc with
  | none => exact h
  | some a => exact ⟨h.1, by rw [k 25 A2_25.1]; exact h.2.1, by rw [k 26 A2_25.2.1]; exact h.2.2.1, by rw [k 27 A2_25.2.2]; exact h.2.2.2⟩
theorem sm_fCh (hD : DOK D) {σ : Sto} (hM : mMD D σ) {p : PL} (hv : PV D p) (hR : mR (σ 68) 0 p) {r : Nat} (hr : r < 12) (hr2 : (r : Int) < D 10 1) (ho : p.2.2 r = -1) {x1 : Int} (h1 : x1 = r) {Q : Int → Sto → Prop} (hQ : ∀ y σ', mG σ σ' → mR (σ' 68) 0 p → mR (σ' 73) 0 p → rC σ' y (fch D p r) → Q y σ') : CLi l G mX8_findChain [vR 56, vI x1] σ Q := by
  have nb := nv_b hD
  have hw := hv.1
  have hz := SZ_w hw
  have npos : 0 < nrN D := by omega
  have e7 : σ 56 7 = (nrN D : Int) := by rw [hM.1.2.2]; omega
  have sq : (nrN D : Int) * (nrN D : Int) = ((nrN D * nrN D : Nat) : Int) := (Int.natCast_mul _ _).symm
  have sqb : nrN D * nrN D ≤ 144 := Nat.mul_le_mul nb.2.2.1 nb.2.2.1
  have flat : shS D p r (nrN D) = none → ∀ (m a : Nat) (x2 x4 : Int) (s : Sto), a + m = nrN D → x4 = (nrN D * a : Nat) → mG σ s → mR (s 68) 0 p → mR (s 73) 0 p → rC s x2 (lgA D p r a) → MWi l G mX8_findChain 76 [(0, vR 56), (1, vI x1), (2, vI x2), (3, vI 0), (4, vI x4)] [] s Q := by
    intro hsN m
    induction m with
    | zero =>
      intro a x2 x4 s hm h4 g R A C
      obtain rfl : a = nrN D := by omega
      have e7s := mG_7 e7 g
      refine vcX8_findChain_76 l G s Q x1 x2 0 x4 ?_
      rw [e7s, sq]
      refine ⟨by omega, fun _ => ⟨rC_01 C, hQ x2 s g R A ?_⟩, fun c => absurd (by omega) c⟩
      unfold fch; rw [hsN]; exact C
    | succ m ih =>
      intro a x2 x4 s hm h4 g R A C
      have inner : ∀ (e b : Nat) (x2 x4 : Int) (s : Sto), b + e = nrN D → x4 = (nrN D * a + b : Nat) → mG σ s → mR (s 68) 0 p → mR (s 73) 0 p → rC s x2 (lgB D p r a (lgA D p r a) b) → MWi l G mX8_findChain 76 [(0, vR 56), (1, vI x1), (2, vI x2), (3, vI 0), (4, vI x4)] [] s Q := by
        intro e
        induction e with
        | zero =>
          intro b x2 x4 s he h4 g R A C
          obtain rfl : b = nrN D := by omega
          exact ih (a + 1) x2 x4 s (by omega) (by rw [h4, Nat.mul_succ]) g R A C
        | succ e ih2 =>
          intro b x2 x4 s he h4 g R A C
          have e7s := mG_7 e7 g
          have hMs := mG_M hM g
          have lt : nrN D * a + b < nrN D * nrN D := by
            have := Nat.mul_le_mul_left (nrN D) (show a + 1 ≤ nrN D by omega)
            rw [Nat.mul_succ] at this
            omega
          have ed : x4 / (nrN D : Int) = (a : Nat) := by
            rw [h4, ← Int.natCast_ediv, Nat.mul_add_div npos, Nat.div_eq_of_lt (by omega), Nat.add_zero]
          have em : x4 % (nrN D : Int) = (b : Nat) := by
            rw [h4, ← Int.natCast_emod, Nat.mul_add_mod, Nat.mod_eq_of_lt (by omega)]
          have nx : ∀ y s', mG σ s' → mR (s' 68) 0 p → mR (s' 73) 0 p → rC s' y (lgB D p r a (lgA D p r a) (b + 1)) → (-2147483648 ≤ x4 + 1 ∧ x4 + 1 ≤ 2147483647) ∧ MWi l G mX8_findChain 76 [(0, vR 56), (1, vI x1), (2, vI y), (3, vI 0), (4, vI (x4 + 1))] [] s' Q := fun y s' g' R' A' C' => ⟨by omega, ih2 (b + 1) y _ s' (by omega) (by omega) g' R' A' C'⟩
          have hS : lgB D p r a (lgA D p r a) (b + 1) = kst D (lgB D p r a (lgA D p r a) b) a b (longF D p r a b) := rfl
          rw [hS] at nx
          refine vcX8_findChain_76 l G s Q x1 x2 0 x4 ?_
          rw [e7s, sq, ed, em]
          refine ⟨by omega, fun c => absurd c (by omega), fun _ => ⟨fun _ => ⟨by omega, by omega, ?_⟩, fun c => absurd rfl c⟩⟩
          refine sm_long hD hMs hw R hr hr2 ho (a := a) (b := b) (by omega) (by omega) h1 rfl rfl (fun s1 g1 eN k1 k3 => ⟨fun _ => ?_, fun z => absurd rfl z⟩) (fun s1 q g1 eS R1 k1 k3 => ⟨fun z => absurd z (by decide), fun _ => ?_⟩)
          · rw [eN] at nx
            exact sm_old (by rw [k3]; exact A) hz (rC_2 C k1) (fun s2 g2 R2 A2' C2 => nx _ s2 (mG_t (mG_t g g1) g2) R2 A2' C2)
          · have hqv := PV_long hD hv hr hr2 ho (a := a) (b := b) (by omega) (by omega) eS
            have e7t := mG_7 e7s g1
            have C1 := rC_2 C k1
            have A1' : mR (s1 73) 0 p := by rw [k3]; exact A
            rw [eS] at nx
            refine ⟨fun c => ?_, fun c => ?_⟩
            · rw [e7t, ed, em]
              refine ⟨by omega, sm_new hD (mG_M hMs g1) hqv.1 R1 A1' hz rfl rfl (fun s2 g2 R2 A2' C2 => nx 1 s2 (mG_t (mG_t g g1) g2) R2 A2' ?_)⟩
              cases ea : lgB D p r a (lgA D p r a) b with
              | some x => rw [ea] at C1; exact absurd c (by rw [C1.1]; decide)
              | none => exact C2
            · refine sm_total hD (mG_M hMs g1) hqv.1 R1 (fun s2 f2 => ?_)
              have g2 : mG σ s2 := mG_t (mG_t g g1) (mG_F f2 (by omega) (by omega) A_13)
              have C2 := rC_F C1 f2 (by unfold A1; omega)
              have A2' : mR (s2 73) 0 p := by rw [f2.1 73 (by decide) (by omega)]; exact A1'
              have e7u := mG_7 e7 g2
              cases ea : lgB D p r a (lgA D p r a) b with
              | none => rw [ea] at C1; exact absurd C1 c
              | some x =>
                rw [ea] at C2 nx
                simp only [kst] at nx
                obtain ⟨c1, c2, c3, c4⟩ := id C2
                rw [c4]
                refine ⟨fun le => ?_, fun le => ?_⟩
                · rw [if_neg (by omega)] at nx
                  exact sm_old A2' hz C2 (fun s3 g3 R3 A3' C3 => nx _ s3 (mG_t g2 g3) R3 A3' C3)
                · rw [if_pos (by omega)] at nx
                  rw [e7u, ed, em]
                  exact ⟨by omega, sm_new hD (mG_M hM g2) hqv.1 (mR_F R1 f2 (by omega)) A2' hz rfl rfl (fun s3 g3 R3 A3' C3 => nx 1 s3 (mG_t g2 g3) R3 A3' C3)⟩
      exact inner (nrN D) 0 x2 x4 s (by omega) (by rw [h4]; rfl) g R A C
  have long : ∀ (x2 : Int) (s : Sto), mG σ s → mR (s 68) 0 p → mR (s 73) 0 p → rC s x2 (shS D p r (nrN D)) → MWi l G mX8_findChain 76 [(0, vR 56), (1, vI x1), (2, vI x2), (3, vI x2), (4, vI 0)] [] s Q := by
    intro x2 s g R A C
    cases ea : shS D p r (nrN D) with
    | none =>
      rw [ea] at C
      have C : x2 = 0 := C
      subst C
      exact flat ea (nrN D) 0 0 0 s (by omega) (by rw [Nat.mul_zero]; rfl) g R A rfl
    | some x =>
      have e7s := mG_7 e7 g
      have hf : fch D p r = some x := by unfold fch; rw [ea]
      rw [ea] at C
      refine vcX8_findChain_76 l G s Q x1 x2 x2 0 ?_
      rw [e7s, sq]
      exact ⟨by omega, fun _ => ⟨Or.inr C.1, hQ x2 s g R A (by rw [hf]; exact C)⟩, fun _ => ⟨fun z => absurd z (by rw [C.1]; decide), fun _ => ⟨Or.inr C.1, hQ x2 s g R A (by rw [hf]; exact C)⟩⟩⟩
  have key : ∀ (m k : Nat) (x2 x3 : Int) (s : Sto), k + m = nrN D → x3 = k → mG σ s → mR (s 68) 0 p → mR (s 73) 0 p → rC s x2 (shS D p r k) → MWi l G mX8_findChain 8 [(0, vR 56), (1, vI x1), (2, vI x2), (3, vI x3)] [] s Q := by
    intro m
    induction m with
    | zero =>
      intro k x2 x3 s hm h3 g R A C
      obtain rfl : k = nrN D := by omega
      have e7s := mG_7 e7 g
      exact vcX8_findChain_8 l G s Q x1 x2 x3 ⟨fun _ => long x2 s g R A C, fun c => absurd (by omega) c⟩
    | succ m ih =>
      intro k x2 x3 s hm h3 g R A C
      have e7s := mG_7 e7 g
      have hMs := mG_M hM g
      have nx : ∀ y s', mG σ s' → mR (s' 68) 0 p → mR (s' 73) 0 p → rC s' y (shS D p r (k + 1)) → (-2147483648 ≤ x3 + 1 ∧ x3 + 1 ≤ 2147483647) ∧ MWi l G mX8_findChain 8 [(0, vR 56), (1, vI x1), (2, vI y), (3, vI (x3 + 1))] [] s' Q := fun y s' g' R' A' C' => ⟨by omega, ih (k + 1) y _ s' (by omega) (by omega) g' R' A' C'⟩
      have hS : shS D p r (k + 1) = kst D (shS D p r k) k 99 (shortF D p r k) := rfl
      rw [hS] at nx
      refine vcX8_findChain_8 l G s Q x1 x2 x3 ⟨fun c => absurd c (by omega), fun _ => ?_⟩
      refine sm_short hD hMs hw R hr hr2 ho (a := k) (by omega) h1 h3 (fun s1 g1 eN k1 k3 => ⟨fun _ => ?_, fun z => absurd rfl z⟩) (fun s1 q g1 eS R1 k1 k3 => ⟨fun z => absurd z (by decide), fun _ => ?_⟩)
      · rw [eN] at nx
        exact sm_old (by rw [k3]; exact A) hz (rC_2 C k1) (fun s2 g2 R2 A2' C2 => nx _ s2 (mG_t (mG_t g g1) g2) R2 A2' C2)
      · have hqv := PV_short hD hv hr hr2 ho (a := k) (by omega) eS
        have C1 := rC_2 C k1
        have A1' : mR (s1 73) 0 p := by rw [k3]; exact A
        rw [eS] at nx
        refine ⟨fun c => ?_, fun c => ?_⟩
        · refine sm_new hD (mG_M hMs g1) hqv.1 R1 A1' hz h3 rfl (fun s2 g2 R2 A2' C2 => nx 1 s2 (mG_t (mG_t g g1) g2) R2 A2' ?_)
          cases ea : shS D p r k with
          | some x => rw [ea] at C1; exact absurd c (by rw [C1.1]; decide)
          | none => exact C2
        · refine sm_total hD (mG_M hMs g1) hqv.1 R1 (fun s2 f2 => ?_)
          have g2 : mG σ s2 := mG_t (mG_t g g1) (mG_F f2 (by omega) (by omega) A_13)
          have C2 := rC_F C1 f2 (by unfold A1; omega)
          have A2' : mR (s2 73) 0 p := by rw [f2.1 73 (by decide) (by omega)]; exact A1'
          cases ea : shS D p r k with
          | none => rw [ea] at C1; exact absurd C1 c
          | some x =>
            rw [ea] at C2 nx
            simp only [kst] at nx
            obtain ⟨c1, c2, c3, c4⟩ := id C2
            rw [c4]
            refine ⟨fun le => ?_, fun le => ?_⟩
            · rw [if_neg (by omega)] at nx
              exact sm_old A2' hz C2 (fun s3 g3 R3 A3' C3 => nx _ s3 (mG_t g2 g3) R3 A3' C3)
            · rw [if_pos (by omega)] at nx
              exact sm_new hD (mG_M hM g2) hqv.1 (mR_F R1 f2 (by omega)) A2' hz h3 rfl (fun s3 g3 R3 A3' C3 => nx 1 s3 (mG_t g2 g3) R3 A3' C3)
  refine clX8_findChain l G σ Q x1 (sm_aside hR hz (fun s f A => key (nrN D) 0 0 0 s (by omega) rfl (mG_F f (by omega) (by omega) A_03) (mR_F hR f (by omega)) A rfl))
theorem frM_G {σ σ' : Sto} (g : mG σ σ') : frM σ σ' := frM_F g.1 (by omega) (by omega)
theorem m_cc {S : ST} (hV : Val S) {σ : Sto} (hI : InvM σ S) {x1 : Int} {Q : Int → Sto → Prop} (hQ : ∀ σ', InvM σ' S → frM σ σ' → Q (f_cc S x1) σ') : CLi l G mX8_chainCost [vR 56, vI x1] σ Q := by
  obtain ⟨hM, hR, hH⟩ := id hI
  obtain ⟨hD, hw, hf, -, hl⟩ := id hV
  have nb := nv_b hD
  unfold f_cc at hQ
  refine clX8_chainCost l G σ Q x1 (sm_obar hV hI (fun e0 q ho => ⟨fun _ => ?_, fun c => absurd (by decide) c⟩) (fun e0 => ⟨fun c => absurd c (by omega), fun _ => by rw [if_neg (by omega)] at hQ; exact hQ σ hI frM_r⟩))
  rw [if_pos e0] at hQ
  have hr : 0 ≤ x1 ∧ x1 < S.1 10 1 := q
  have hr12 : x1.toNat < 12 := by omega
  have r1 : x1 = x1.toNat := by omega
  have hr2 : (x1.toNat : Int) < S.1 10 1 := by omega
  have cap := CAP_fch hD ⟨hw, hf⟩ hr12 hr2 ho
  refine sm_fCh hD hM ⟨hw, hf⟩ hR hr12 hr2 ho r1 (fun y s g R A C => ?_)
  have iS : InvM s S := ⟨mG_M hM g, R, mG_H hH g⟩
  cases ea : fch S.1 S.2.1 x1.toNat with
  | none =>
    rw [ea] at C
    simp only [ea] at hQ
    exact ⟨fun _ => hQ s iS (frM_G g), fun c => absurd C c⟩
  | some x =>
    rw [ea] at C
    simp only [ea] at hQ
    obtain ⟨c1, c2, c3, c4⟩ := C
    obtain ⟨b1, b2⟩ := cap x ea
    have t1 := tl_b hD b1.1
    have t2 := tl_b hD hw
    rw [c4]
    refine ⟨fun z => absurd z (by omega), fun _ => ⟨by omega, sm_total hD iS.1 hw iS.2.1 (fun s2 f2 => ⟨by omega, ?_⟩)⟩⟩
    have := hQ s2 (InvM_1 iS f2 (by omega) (by omega)) (frM_t (frM_G g) (frM_F f2 (by omega) (by omega)))
    rw [show 10000 + x.1 - tl S.1 S.2.1 = x.1 - tl S.1 S.2.1 + 10000 by omega]
    exact this
theorem m_ch {S : ST} (hV : Val S) {σ : Sto} (hI : InvM σ S) {x1 : Int} {Q : Int → Sto → Prop} (hQ : ∀ σ', InvM σ' (f_ch S x1).2 → frM σ σ' → Q (f_ch S x1).1 σ') : CLi l G mX8_chain [vR 56, vI x1] σ Q := by
  obtain ⟨hM, hR, hH⟩ := id hI
  obtain ⟨hD, hw, hf, -, hl⟩ := id hV
  have nb := nv_b hD
  unfold f_ch at hQ
  refine clX8_chain l G σ Q x1 (sm_obar hV hI (fun e0 q ho => ⟨fun _ => ?_, fun c => absurd (by decide) c⟩) (fun e0 => ⟨fun c => absurd c (by omega), fun _ => by rw [if_neg (by omega)] at hQ; exact hQ σ hI frM_r⟩))
  rw [if_pos e0] at hQ
  have hr : 0 ≤ x1 ∧ x1 < S.1 10 1 := q
  have hr12 : x1.toNat < 12 := by omega
  have r1 : x1 = x1.toNat := by omega
  have hr2 : (x1.toNat : Int) < S.1 10 1 := by omega
  have cok := COK_fch hD S.2.1 x1.toNat
  refine sm_fCh hD hM ⟨hw, hf⟩ hR hr12 hr2 ho r1 (fun y s g R A C => ?_)
  have M1 := mG_M hM g
  have h1 := mG_H hH g
  cases ea : fch S.1 S.2.1 x1.toNat with
  | none =>
    rw [ea] at C
    simp only [ea] at hQ
    exact ⟨fun _ => hQ s ⟨M1, R, h1⟩ (frM_G g), fun c => absurd C c⟩
  | some x =>
    rw [ea] at C
    simp only [ea] at hQ
    obtain ⟨c1, c2, c3, c4⟩ := C
    obtain ⟨a12, hb⟩ := cok x ea
    refine ⟨fun z => absurd z (by omega), fun _ => sm_keep h1 hl (SZ_h hV) A (SZ_w hw) (fun s2 f2 h2 => ?_)⟩
    have M2 := mMD_F M1 f2 (by omega) A22_3
    have R2 : mR (s2 68) 0 S.2.1 := mR_F R f2 (by omega)
    have e25 : s2 56 25 = (x.2.1 : Nat) := by rw [f2.2 25 (by unfold A22; omega)]; exact c2
    have e26 : s2 56 26 = (x.2.2.1 : Nat) := by rw [f2.2 26 (by unfold A22; omega)]; exact c3
    have fr2 : frM σ s2 := frM_t (frM_G g) (frM_F f2 (by omega) (by omega))
    rw [e25, e26]
    have done : ∀ s3 q, mG s2 s3 → some q = some x.2.2.2 → mR (s3 68) 0 q → (∀ i, A2 i → s3 56 i = s2 56 i) → (-2147483648 ≤ 100 * s3 56 25 ∧ 100 * s3 56 25 ≤ 2147483647) ∧ (-2147483648 ≤ 100 * s3 56 25 + s3 56 26 ∧ 100 * s3 56 25 + s3 56 26 ≤ 2147483647) ∧ Q (100 * s3 56 25 + s3 56 26) s3 := by
      intro s3 q g3 eq R3 k3
      cases eq
      rw [k3 25 A2_25.1, k3 26 A2_25.2.1, e25, e26]
      refine ⟨by omega, by omega, hQ s3 ⟨mG_M M2 g3, R3, mG_H h2 g3⟩ (frM_t fr2 (frM_G g3))⟩
    refine ⟨fun c => ?_, fun c => ?_⟩
    · have hs : shortF S.1 S.2.1 x1.toNat x.2.1 = some x.2.2.2 := by
        rcases hb with hb | hb
        · exact hb.2
        · omega
      refine sm_short hD M2 hw R2 hr12 hr2 ho a12 r1 rfl (fun s3 g3 eN k1 k3 => absurd hs (by rw [eN]; exact fun z => by cases z)) (fun s3 q g3 eS R3 k1 k3 => ?_)
      obtain ⟨d1, d2, d3⟩ := done s3 q g3 (eS.symm.trans hs) R3 k1
      refine ⟨fun _ => ⟨d1, d2, trivial⟩, fun y hy => ?_⟩
      rw [if_neg (by decide)] at hy
      rw [hy]; exact d3
    · have hs : x.2.2.1 < 12 ∧ longF S.1 S.2.1 x1.toNat x.2.1 x.2.2.1 = some x.2.2.2 := by
        rcases hb with hb | hb
        · omega
        · exact hb
      refine sm_long hD M2 hw R2 hr12 hr2 ho a12 hs.1 r1 rfl rfl (fun s3 g3 eN k1 k3 => absurd hs.2 (by rw [eN]; exact fun z => by cases z)) (fun s3 q g3 eS R3 k1 k3 => ?_)
      obtain ⟨d1, d2, d3⟩ := done s3 q g3 (eS.symm.trans hs.2) R3 k1
      refine ⟨fun _ => ⟨d1, d2, trivial⟩, fun y hy => ?_⟩
      rw [if_neg (by decide)] at hy
      rw [hy]; exact d3
theorem m_im {S : ST} (hV : Val S) {σ : Sto} (hI : InvM σ S) {Q : Int → Sto → Prop} (hQ : ∀ σ', InvM σ' (f_im S).2 → frM σ σ' → Q (f_im S).1 σ') : CLi l G mX8_improve [vR 56] σ Q := by
  obtain ⟨hM, hR, hH⟩ := id hI
  obtain ⟨hD, hw, hf, -, hl⟩ := id hV
  have nb := nv_b hD
  have hz := SZ_w hw
  have e7 : σ 56 7 = (nrN S.1 : Int) := by rw [hM.1.2.2]; omega
  have t0 := tl_b hD hw
  have cap := CAP_imS hD ⟨hw, hf⟩
  unfold f_im at hQ
  have key : ∀ (m k : Nat) (x2 x3 x4 : Int) (s : Sto), k + m = nrN S.1 → x4 = k → mG σ s → mR (s 68) 0 S.2.1 → mR (s 73) 0 S.2.1 → (∃ x, imS S.1 S.2.1 k = some x ∧ x3 = x.1 ∧ ((x.2.1 = 99 ∧ x2 = -1) ∨ (x.2.1 < 12 ∧ x2 = (x.2.1 : Nat)))) → MWi l G mX8_improve 16 [(0, vR 56), (1, vI (tl S.1 S.2.1)), (2, vI x2), (3, vI x3), (4, vI x4)] [] s Q := by
    intro m
    induction m with
    | zero =>
      intro k x2 x3 x4 s hm h4 g R A C
      obtain rfl : k = nrN S.1 := by omega
      have e7s := mG_7 e7 g
      have M1 := mG_M hM g
      have h1 := mG_H hH g
      obtain ⟨x, ex, e3, C⟩ := C
      obtain ⟨x', ex', hx⟩ := imS_ok (D := S.1) (p := S.2.1) (nrN S.1) nb.2.2.1
      rw [ex] at ex'
      cases ex'
      simp only [ex] at hQ
      refine vcX8_improve_16 l G s Q _ x2 x3 x4 ⟨fun _ => ⟨fun c => ?_, fun c => ?_⟩, fun c => absurd (by omega) c⟩
      · have hx9 : ¬ x.2.1 = 99 := by rcases C with C | C <;> omega
        have e2 : x2 = (x.2.1 : Nat) := by rcases C with C | C <;> omega
        have h12 : x.2.1 < 12 := by rcases C with C | C <;> omega
        simp only [if_neg hx9] at hQ
        have hx2 : S.2.1.2.2 x.2.1 ≠ -1 ∧ anyF S.1 (ptk S.2.1 x.2.1) x.2.1 (-1) = some x.2.2.2 := by
          rcases hx with hx | hx
          · exact absurd hx.1 hx9
          · exact hx.2
        obtain ⟨w1, w2, w3⟩ := WP_tk hw h12
        obtain ⟨b1, b2⟩ := cap x ex
        have t1 := tl_b hD b1.1
        refine sm_keep h1 hl (SZ_h hV) A hz (fun s2 f2 h2 => ?_)
        have M2 := mMD_F M1 f2 (by omega) A22_3
        have R2 : mR (s2 68) 0 S.2.1 := mR_F R f2 (by omega)
        refine sm_takeOut hD M2 hw R2 h12 hx2.1 e2 (fun s3 f3 R3 => ?_)
        have M3 := mMD_F M2 f3 (by omega) A1_3
        have h3 := mH_F h2 f3 (by omega) (by omega) A1_22
        have fr3 : frM σ s3 := frM_t (frM_t (frM_G g) (frM_F f2 (by omega) (by omega))) (frM_F f3 (by omega) (by omega))
        refine sm_any hD M3 w1 R3 h12 w2 e2 (fun s4 g4 eN k1 k3 => absurd hx2.2 (by rw [eN]; exact fun z => by cases z)) (fun s4 v q g4 eS R4 k1 k3 => ?_)
        rw [eS] at hx2
        have : q = x.2.2.2 := Option.some.inj hx2.2
        subst this
        rw [e3]
        exact ⟨by omega, hQ s4 ⟨mG_M M3 g4, R4, mG_H h3 g4⟩ (frM_t fr3 (frM_G g4))⟩
      · have hx9 : x.2.1 = 99 := by rcases C with C | C <;> omega
        simp only [if_pos hx9] at hQ
        exact hQ s ⟨M1, R, h1⟩ (frM_G g)
    | succ m ih =>
      intro k x2 x3 x4 s hm h4 g R A C
      have e7s := mG_7 e7 g
      have M1 := mG_M hM g
      obtain ⟨x, ex, e3, C⟩ := C
      refine vcX8_improve_16 l G s Q _ x2 x3 x4 ⟨fun c => absurd c (by omega), fun _ => sm_vOf hD M1 hw R (r := k) (by omega) h4 ⟨fun c => ⟨by omega, ih (k + 1) _ _ _ s (by omega) (by omega) g R A ⟨x, ?_, e3, C⟩⟩, fun c => ?_⟩⟩
      · simp only [imS]
        rw [if_pos (op_of hw (by omega) c)]; exact ex
      · have haa : S.2.1.2.2 k ≠ -1 := by omega
        obtain ⟨w1, w2, w3⟩ := WP_tk hw (r := k) (by omega)
        refine sm_takeOut hD M1 hw R (r := k) (by omega) haa h4 (fun s2 f2 R2 => ?_)
        have g2 : mG σ s2 := mG_t g (mG_F f2 (by omega) (by omega) A_13)
        refine sm_any hD (mG_M hM g2) w1 R2 (r := k) (by omega) w2 h4 (fun s3 g3 eN k1 k3 => ?_) (fun s3 v q g3 eS R3 k1 k3 => ?_)
        · exfalso
          have := any_ex hD ⟨hw, hf⟩ (r := k) (by omega) haa
          unfold anyF at eN
          cases ea : alb S.1 (ptk S.2.1 k) k (-1) (nvN S.1) with
          | none => exact this ea
          | some y => rw [ea] at eN; cases eN
        · have wq : WP S.1 q := by
            unfold anyF at eS
            exact (WP_pins w1 (by omega) (by have := lt_nr hw (r := k) (by omega) haa; exact this) w2 (AOK_alb _ nb.1 (by omega)) eS).1
          refine sm_total hD (mG_M hM (mG_t g2 g3)) wq R3 (fun s4 f4 y25 h25 y26 h26 => ?_)
          have g4 : mG σ s4 := mG_t (mG_t g2 g3) (mG_F f4 (by omega) (by omega) A_13)
          have A4 : mR (s4 73) 0 S.2.1 := by rw [f4.1 73 (by decide) (by omega), k3, f2.1 73 (by decide) (by omega)]; exact A
          refine sm_back A4 hz (fun s5 f5 R5 => ⟨by omega, ih (k + 1) _ _ _ s5 (by omega) (by omega) (mG_t g4 (mG_F f5 (by omega) (by omega) A_03)) R5 (by rw [f5.1 73 (by decide) (by omega)]; exact A4) ?_⟩)
          have eI : imS S.1 S.2.1 (k + 1) = kst S.1 (some x) k k (some q) := by
            simp only [imS]
            rw [if_neg haa, ex, eS]
          by_cases c2 : tl S.1 q < x.1
          · refine ⟨(tl S.1 q, k, k, q), by rw [eI]; simp only [kst]; rw [if_pos c2], ?_, Or.inr ⟨by show k < 12; omega, ?_⟩⟩
            · rw [h26, if_neg (by omega)]
            · rw [h25, if_neg (by omega)]; exact h4
          · refine ⟨x, by rw [eI]; simp only [kst]; rw [if_neg c2], ?_, ?_⟩
            · rw [h26, if_pos (by omega)]; exact e3
            · rw [h25, if_pos (by omega)]; exact C
  refine clX8_improve l G σ Q (sm_aside hR hz (fun s f A => ?_))
  have g := mG_F f (by omega) (by omega) A_03
  refine sm_total hD (mG_M hM g) hw (mR_F hR f (by omega)) (fun s2 f2 => ?_)
  exact key (nrN S.1) 0 (-1) _ 0 s2 (by omega) rfl (mG_t g (mG_F f2 (by omega) (by omega) A_13)) (mR_F (mR_F hR f (by omega)) f2 (by omega)) (by rw [f2.1 73 (by decide) (by omega)]; exact A) ⟨_, rfl, rfl, Or.inl ⟨rfl, rfl⟩⟩
theorem m_un {S : ST} (hV : Val S) {σ : Sto} (hI : InvM σ S) {Q : Int → Sto → Prop} (hQ : ∀ σ', InvM σ' (f_un S).2 → frM σ σ' → Q (f_un S).1 σ') : CLi l G mX8_undo [vR 56] σ Q := by
  obtain ⟨D, p, hs⟩ := S
  obtain ⟨hM, hR, hH⟩ := id hI
  have hH : mH σ hs := hH
  have hM : mMD D σ := hM
  have hl : hs.length ≤ 10 := hV.2.2.2.2
  unfold f_un at hQ
  have hQ : ∀ σ', InvM σ' (match hs.getLast? with | none => (-1007, (D, p, hs)) | some h => ((hs.dropLast.length : Int), (D, h, hs.dropLast))).2 → frM σ σ' → Q (match hs.getLast? with | none => (-1007, (D, p, hs)) | some h => ((hs.dropLast.length : Int), (D, h, hs.dropLast))).1 σ' := hQ
  have e22 := hH.1
  cases hg : hs.getLast? with
  | none =>
    have hn : hs = [] := List.getLast?_eq_none_iff.mp hg
    rw [hn] at e22
    rw [hg] at hQ
    exact clX8_undo l G σ Q ⟨fun _ => hQ σ hI frM_r, fun z => absurd e22 z⟩
  | some h =>
    have he : hs.dropLast ++ [h] = hs := by
      have hne : hs ≠ [] := fun q => by rw [q] at hg; cases hg
      have h2 := List.dropLast_concat_getLast hne
      rw [List.getLast?_eq_some_getLast hne] at hg
      rwa [Option.some.inj hg] at h2
    rw [hg] at hQ
    have hlen : hs.length = hs.dropLast.length + 1 := by
      have := congrArg List.length he
      rw [List.length_append, List.length_singleton] at this
      exact this.symm
    have hm : h ∈ hs := List.mem_of_getLast? hg
    have hz : SZ h := SZ_w (hV.2.2.2.1 h hm).1
    have hlast : hs[hs.dropLast.length]? = some h := by rw [← he]; simp
    have f0 : frM σ (stS σ 56 22 (σ 56 22 - 1)) := frM_st frM_r (by omega)
    have n1 : stS σ 56 22 (σ 56 22 - 1) 56 22 = (hs.dropLast.length : Nat) := by rw [stS_eq]; omega
    generalize hX : stS σ 56 22 (σ 56 22 - 1) = X at *
    have x72 : X 72 = σ 72 := by rw [← hX]; rfl
    have xM : mMD D X := by rw [← hX]; exact mMD_22 hM _
    have key : ∀ (m k : Nat) (x1 : Int) (s : Sto), k + m = 100 → x1 = k → mF 68 68 A0 X s → (∀ a, a < k → s 68 a = σ 72 (100 * hs.dropLast.length + a)) → MWi l G mX8_undo 23 [(0, vR 56), (1, vI x1)] [] s Q := by
      intro m
      induction m with
      | zero =>
        intro k x1 s hm h1 f hk
        refine vcX8_undo_23 l G s Q x1 ⟨fun _ => ?_, fun c => absurd (by omega) c⟩
        rw [f.2 22 trivial, n1]
        have fr : frM X s := frM_F f (by omega) (by omega)
        refine hQ s ⟨mMD_F xM f (by omega) A0_3, ?_, ?_, fun i x hx => ?_⟩ (frM_t f0 fr)
        · exact mR_c (hH.2 _ h hlast) hz (fun a ha => by rw [Nat.zero_add]; exact hk a (by omega))
        · show s 56 22 = _
          rw [f.2 22 trivial, n1]
        · show mR (s 72) (100 * i) x
          rw [f.1 72 (by decide) (by omega), x72]
          have hi := (List.getElem?_eq_some_iff.mp hx).1
          exact hH.2 i x (by rw [← he, List.getElem?_append_left hi]; exact hx)
      | succ m ih =>
        intro k x1 s hm h1 f hk
        have e1 : s 56 22 = (hs.dropLast.length : Nat) := by rw [f.2 22 trivial, n1]
        refine vcX8_undo_23 l G s Q x1 ⟨fun c => absurd c (by omega), fun _ => ?_⟩
        rw [e1, show x1.toNat = k by omega, show (100 * ((hs.dropLast.length : Nat) : Int) + x1).toNat = 100 * hs.dropLast.length + k by omega, show s 72 (100 * hs.dropLast.length + k) = σ 72 (100 * hs.dropLast.length + k) by rw [mF_at f (by decide) (by omega), x72]]
        refine ⟨by omega, by omega, by omega, by omega, by omega, ih (k + 1) _ _ (by omega) (by omega) (mF_st f (by decide) (by omega)) (fun a ha => ?_)⟩
        by_cases c : a = k
        · subst c; rw [stS_eq]
        · rw [stS_ni c]; exact hk a (by omega)
    refine clX8_undo l G σ Q ⟨fun z => absurd z (by omega), fun _ => ⟨by omega, ?_⟩⟩
    rw [hX]
    exact key 100 0 0 X (by omega) rfl mF_r (fun a ha => absurd ha (Nat.not_lt_zero _))
end MODELJ
