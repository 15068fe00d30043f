theorem InvC_x {σ σ' : Sto} {S : ST} (h : InvC σ S) (f : ∀ k, k ≠ 57 → k ≠ 58 → σ' k = σ k) : InvC σ' S :=
  ⟨rP_k h.1 (fun k hk => f k (by omega) (by omega)), rPl_k h.2.1 (fun k a b => f k (by omega) (by omega)), rH_k h.2.2 (f 53 (by omega) (by omega)) (fun k hk => f k (by omega) (by omega))⟩
theorem rM_x {σ σ' D : Sto} (h : rM σ D) (e : σ' 56 = σ 56) : rM σ' D := by
  unfold rM
  rw [e]
  exact h
theorem zS_k {σ : Sto} {x k : Nat} (h : k ≠ x) : zS σ x k = σ k := by
  funext i
  show (if k = x then 0 else σ k i) = σ k i
  rw [if_neg h]
theorem st_k {σ : Sto} {x k j : Nat} {z : Int} (h : k ≠ x) : stS σ x j z k = σ k := by
  funext i
  exact stS_ne h
section LAWD
variable {l : Launch} {G : GT} {D : Sto} {p : PL} {hs : List PL}
theorem fasg {r : Nat} (hr : r < nrN D) (hv : 1 ≤ nvN D) (ho : p.2.2 r = -1) : f_asg (D, p, hs) r = (match alb D p r (-1) (nvN D) with
  | none => (-1005, (D, p, hs))
  | some a => ((a.2.1 : Int), (D, pput p r a.2.1 a.2.2.1 a.2.2.2, recH hs p))) := by
  have e1 : ((r : Nat) : Int).toNat = r := Int.toNat_natCast r
  unfold f_asg
  rw [if_pos (fbe hr (v := 0) (by omega) ho).1]
  simp only [e1]
  cases alb D p r (-1) (nvN D) <;> rfl
theorem fasT {r v : Nat} (hr : r < nrN D) (hv : v < nvN D) (ho : p.2.2 r = -1) : f_asT (D, p, hs) r v = (match sc D v (p.1 v) (p.2.1 v) r none with
  | none => (-1005, (D, p, hs))
  | some a => (a.1, (D, pput p r a.2.1 a.2.2.1 a.2.2.2, recH hs p))) := by
  have e1 : ((r : Nat) : Int).toNat = r := Int.toNat_natCast r
  obtain ⟨-, b, c, -⟩ := fbe (hs := hs) hr hv ho
  unfold f_asT
  rw [if_pos b, c]
  simp only [e1]
  cases sc D v (p.1 v) (p.2.1 v) r none <;> rfl
theorem V_put {r v i j : Nat} (hV : Val (D, p, hs)) (hr : r < nrN D) (hv : v < nvN D) (hij : i < j) (hj : j < p.1 v + 2) (ho : p.2.2 r = -1) (hf : FE D v (p.1 v + 2) (insT (p.2.1 v) r i j)) : Val (D, pput p r v i j, recH hs p) := by
  have nb := nv_b (D := D) hV.1
  exact Val_rec hV ⟨WP_put (VP hV) (by omega) (by omega) ho (by omega) (by omega) hij hj, FEP_put hV.2.2.1 hf⟩
theorem fr_put {r v i j : Nat} (hr : r < nrN D) (h' : List PL) : f_req (D, pput p r v i j, h') r 0 = (v : Int) := by
  rw [fr_0 hr]
  have e : (pput p r v i j).2.2 r = (v : Int) := by
    show (if r = r then (v : Int) else _) = _
    rw [if_pos rfl]
  rw [e, if_neg (by omega)]
theorem k_puts (hx0 : G.2.2.2.2 = 0) {sz : Nat} {σ : Sto} (hV : Val (D, p, hs)) (hM : rM σ D) (hI : InvC σ (D, p, hs)) {r : Nat} (hr : r < nrN D) (ho : p.2.2 r = -1) (hnv : 1 ≤ nvN D) {x1 x2 : Int} (h1 : x1 = r) {Q : Int → Sto → Prop} (hQ : ∀ (p' : PL) (hs' : List PL) (σ' : Sto), Val (D, p', hs') → InvC σ' (D, p', hs') → rM σ' D → ((p' = p ∧ hs' = hs) ∨ hs' = recH hs p) → Q 1 σ') : MXi l G G mL_puts 4 sz 0 0 0 [(0, vR 0), (1, vI x1), (2, vI x2)] [] σ Q := by
  subst h1
  have hD : DOK D := hV.1
  have nb := nv_b hD
  have tb := tl_5k hD (VP hV)
  have lb := lowF_b (x := x2) (n := D 10 0) (by omega)
  refine clL_puts l G hx0 sz σ Q r x2 (q_count hV (BI_r hI) fc_0 (fun s1 i1 => k_low (by omega) (q_count hV i1 fc_3 (fun s2 i2 q => ?_))))
  have hg := gR_X hx0 (x := 57) (q := q) (by decide)
  have hx' : (gX G 57 q).2.2.2.2 = 57 := rfl
  obtain ⟨v, hv⟩ : ∃ v : Nat, lowF x2 (D 10 0) = v := ⟨(lowF x2 (D 10 0)).toNat, by omega⟩
  rw [hv]
  rw [hv] at lb
  have hvn : v < nvN D := by omega
  have hcA := cbA_alb hD (VP hV) (r := r) (by omega) (nvN D) nb.1
  have cAb := costA_b hcA
  have s110 : ∀ σ1 : Sto, InvC σ1 (D, p, hs) → rM σ1 D → (∀ i, i < nvN D → σ1 57 i = costA (sc D i (p.1 i) (p.2.1 i) r none)) → MXi l G (gX G 57 q) mL_puts 4 sz 1 4 110 [(0, vR 0), (1, vI r), (2, vI x2), (4, vI v), (5, vI (tl D p)), (6, vR 57), (7, vI (costA (alb D p r (-1) (nvN D)))), (8, vI (whA (alb D p r (-1) (nvN D))))] [] σ1 Q := by
    intro σ1 I1 M1 C1
    refine vcL_puts_110 l G _ hg hx' sz σ1 Q _ _ _ _ _ _ (k_low (by omega) ⟨fun _ => ?_, fun _ => ⟨fun _ => ?_, fun _ => ?_⟩⟩)
    · refine c_asg hV I1 (fun s a b => ?_)
      have e := fasg (hs := hs) hr hnv ho
      have Va := V_asg hV r
      cases ha : alb D p r (-1) (nvN D) with
      | none =>
        rw [ha] at e
        rw [e] at a ⊢
        intro y hy
        rw [show whA none = -1 from rfl, if_neg (by decide)] at hy
        exact ⟨fun _ => ⟨fun _ => hQ p hs s hV a (rM_fr M1 b) (Or.inl ⟨rfl, rfl⟩), fun c => absurd (by decide) c⟩, fun c => absurd hy.symm c⟩
      | some x =>
        obtain ⟨xc, xv, xi, xj⟩ := x
        obtain ⟨z1, z2, z3, z4, z5, z6⟩ := AOK_alb (D := D) (p := p) (r := r) (ex := -1) (nvN D) nb.1 (by omega) xc xv xi xj ha
        rw [ha] at e
        rw [e] at a Va ⊢
        have hVa : Val (D, pput p r xv xi xj, recH hs p) := Va
        have ea := tl_put hD (p := p) (r := r) (v := xv) (i := xi) (j := xj) z2 z3 z4
        have bc := hcA _ ha
        have bc1 : 0 ≤ xc ∧ xc ≤ 2000 := bc
        intro y hy
        rw [show whA (some (xc, xv, xi, xj)) = (xv : Int) from rfl, if_pos (by omega)] at hy
        refine ⟨fun _ => ⟨fun c => absurd c (by show ¬ ((xv : Int) < 0); omega), fun _ => ?_⟩, fun c => absurd hy.symm c⟩
        refine q_count hVa ⟨a, b⟩ fc_3 (fun s3 i3 => ⟨by show _ ≤ tl D p + xc ∧ tl D p + xc ≤ _; omega, fun _ => ?_, fun c => absurd (by rw [ea, ← z5]; rfl) c⟩)
        refine q_req hVa i3 rfl (fr_put hr _) (fun s4 i4 y2 hy2 => ?_)
        rw [if_pos (show (xv : Int) = whA (some (xc, xv, xi, xj)) from rfl)] at hy2
        rw [hy2]
        exact hQ _ _ s4 hVa i4.1 (rM_fr M1 i4.2) (Or.inr rfl)
    · refine c_asT hV I1 (fun s a b => ?_)
      have e := fasT (hs := hs) hr hvn ho
      have Va := V_asT hV r v
      have e57 : s 57 = σ1 57 := b 57 (by omega) (by omega)
      have cs := C1 v hvn
      refine ⟨by omega, fun y hy => ?_⟩
      have ev : ((v : Nat) : Int).toNat = v := Int.toNat_natCast v
      rw [ev, e57, cs] at hy
      cases ha : sc D v (p.1 v) (p.2.1 v) r none with
      | none =>
        rw [ha] at e hy
        rw [if_pos (show costA none = 99999 from rfl)] at hy
        rw [e] at a ⊢
        exact ⟨fun _ => ⟨fun _ => hQ p hs s hV a (rM_fr M1 b) (Or.inl ⟨rfl, rfl⟩), fun c => absurd (show (-1005 : Int) < 0 by decide) c⟩, fun c => absurd hy.symm c⟩
      | some x =>
        obtain ⟨xc, xv, xi, xj⟩ := x
        have e3 : xv = v := vhA_sc _ ha
        subst e3
        have hw := VW hV (v := xv) (by omega)
        obtain ⟨z1, z2, z3, z4, z5, z6⟩ := AOK_sc (D := D) (p := p) (r := r) (v := xv) (by omega) (by omega) (acc := none) (fun _ _ _ _ h => by cases h) xc xv xi xj ha
        have bc := cbA_sc hD (v := xv) (by omega) hw (r := r) (by omega) _ ha
        have bc1 : 0 ≤ xc ∧ xc ≤ 2000 := bc
        rw [ha] at e hy
        rw [if_neg (show ¬ costA (some (xc, xv, xi, xj)) = 99999 from fun z => by have z : xc = 99999 := z; omega)] at hy
        rw [e] at a Va ⊢
        have hVa : Val (D, pput p r xv xi xj, recH hs p) := Va
        have ea := tl_put hD (p := p) (r := r) (v := xv) (i := xi) (j := xj) z2 z3 z4
        refine ⟨fun _ => ⟨fun c => absurd c (by show ¬ (xc < 0); omega), fun _ => ?_⟩, fun c => absurd hy.symm c⟩
        refine q_count hVa ⟨a, b⟩ fc_3 (fun s3 i3 => ⟨by show _ ≤ tl D p + xc ∧ tl D p + xc ≤ _; omega, fun _ => ?_, fun c => absurd (by rw [ea, ← z5]) c⟩)
        refine q_req hVa i3 rfl (fr_put hr _) (fun s4 i4 y2 hy2 => ?_)
        rw [if_pos rfl] at hy2
        rw [hy2]
        exact hQ _ _ s4 hVa i4.1 (rM_fr M1 i4.2) (Or.inr rfl)
    · have hw := VW hV (v := v) (by omega)
      have hn24 := hw.1
      refine q_veh hV (BI_r I1) hvn rfl (fv_3 hvn) (fun s3 i3 => ⟨by omega, k_low (by omega) ⟨?_, ?_, ?_⟩⟩)
      · have := lowF_b (x := shrI x2 5) (n := (p.1 v : Int) + 1) (by omega); omega
      · have := lowF_b (x := shrI x2 5) (n := (p.1 v : Int) + 1) (by omega); omega
      have b1 := lowF_b (x := shrI x2 5) (n := (p.1 v : Int) + 1) (by omega)
      obtain ⟨i, hi⟩ : ∃ i : Nat, lowF (shrI x2 5) ((p.1 v : Int) + 1) = i := ⟨(lowF (shrI x2 5) ((p.1 v : Int) + 1)).toNat, by omega⟩
      rw [hi]
      rw [hi] at b1
      refine k_low (by omega) ?_
      have b2 := lowF_b (x := shrI x2 9) (n := (p.1 v : Int) + 1 - i) (by omega)
      obtain ⟨j, hj⟩ : ∃ j : Nat, (i : Int) + 1 + lowF (shrI x2 9) ((p.1 v : Int) + 1 - i) = j := ⟨((i : Int) + 1 + lowF (shrI x2 9) ((p.1 v : Int) + 1 - i)).toNat, by omega⟩
      rw [hj]
      have hij : i < j := by omega
      have hj2 : j < p.1 v + 2 := by omega
      have ei : ((i : Nat) : Int).toNat = i := Int.toNat_natCast i
      have ej : ((j : Nat) : Int).toNat = j := Int.toNat_natCast j
      have er : ((r : Nat) : Int).toNat = r := Int.toNat_natCast r
      have ev : ((v : Nat) : Int).toNat = v := Int.toNat_natCast v
      refine ⟨by omega, ?_⟩
      by_cases hf : FE D v (p.1 v + 2) (insT (p.2.1 v) r i j)
      · obtain ⟨f1, f2⟩ := fco_t (hs := hs) hr hvn hij hj2 ho hf
        have a0 := adL_0 D (v := v) (n := p.1 v) (t := p.2.1 v) (r := r) (i := i) (j := j)
        have a1 := (adL_b hD (v := v) (by omega) hw (r := r) (i := i) (j := j) (by omega)).2
        have hVa := V_put hV hr hvn hij hj2 ho hf
        have ea := tl_put hD (p := p) (r := r) (v := v) (i := i) (j := j) (by omega) hij hj2
        have e : f_ins (D, p, hs) r v i j = (adL D v (p.1 v) (p.2.1 v) r i j, (D, pput p r v i j, recH hs p)) := by
          unfold f_ins
          rw [if_pos f2]
          simp only [er, ev, ei, ej]
        refine q_cost hV i3 f1 (fun s4 i4 => c_ins hV i4.1 (fun s5 a b => ?_))
        rw [e] at a ⊢
        have i5 : BI σ1 s5 (D, pput p r v i j, recH hs p) := ⟨a, frC_t i4.2 b⟩
        have n1 : (pput p r v i j).1 v = p.1 v + 2 := by show (if v = v then p.1 v + 2 else _) = _; rw [if_pos rfl]
        have t1 : (pput p r v i j).2.1 v = insT (p.2.1 v) r i j := by show (if v = v then insT (p.2.1 v) r i j else _) = _; rw [if_pos rfl]
        have g1 : f_stop (D, pput p r v i j, recH hs p) v i 0 = r := by
          rw [fs_0 hvn (by rw [n1]; omega), t1, insT_i]; omega
        have g2 : f_stop (D, pput p r v i j, recH hs p) v j 0 = r := by
          rw [fs_0 hvn (by rw [n1]; omega), t1, insT_j hij]; omega
        have g3 : f_stop (D, pput p r v i j, recH hs p) v j 1 = 1 := by
          rw [fs_1 hvn (by rw [n1]; omega), t1, insT_j hij]; omega
        refine ⟨fun _ => ⟨fun _ => ?_, fun c => absurd a0 c⟩, fun c => absurd rfl c⟩
        refine q_stop hVa i5 rfl rfl g1 (fun s6 i6 => ⟨fun _ => ?_, fun c => absurd rfl c⟩)
        refine q_stop hVa i6 rfl rfl g2 (fun s7 i7 => ⟨fun _ => ?_, fun c => absurd rfl c⟩)
        refine q_stop hVa i7 rfl rfl g3 (fun s8 i8 => ⟨fun _ => ?_, fun c => absurd rfl c⟩)
        refine q_count hVa i8 fc_3 (fun s9 i9 => ⟨by omega, fun y hy => ?_⟩)
        rw [if_pos ea] at hy
        rw [hy]
        exact hQ _ _ s9 hVa i9.1 (rM_fr M1 i9.2) (Or.inr rfl)
      · obtain ⟨f1, f2⟩ := fco_f (hs := hs) hr hvn hij hj2 ho hf
        have e : f_ins (D, p, hs) r v i j = (-1005, (D, p, hs)) := by
          unfold f_ins
          rw [if_neg (by rw [f2]; decide), f2]
        refine q_cost hV i3 f1 (fun s4 i4 => q_ins hV i4 e (fun s5 i5 => ⟨fun _ => ⟨fun c => absurd c (by decide), fun _ y hy => ?_⟩, fun c => absurd rfl c⟩))
        rw [if_pos rfl] at hy
        rw [hy]
        exact hQ _ _ s5 hV i5.1 (rM_fr M1 i5.2) (Or.inl ⟨rfl, rfl⟩)
  have s35 : ∀ (m k : Nat) (x7 x8 x9 : Int) (σ1 : Sto), k + m = nvN D → x9 = k → x7 = costA (alb D p r (-1) k) → x8 = whA (alb D p r (-1) k) → InvC σ1 (D, p, hs) → rM σ1 D → (∀ i, i < k → σ1 57 i = costA (sc D i (p.1 i) (p.2.1 i) r none)) → MXi l G (gX G 57 q) mL_puts 4 sz 1 4 35 [(0, vR 0), (1, vI r), (2, vI x2), (3, vI (D 10 0)), (4, vI v), (5, vI (tl D p)), (6, vR 57), (7, vI x7), (8, vI x8), (9, vI x9)] [] σ1 Q := by
    intro m
    induction m with
    | zero =>
      intro k x7 x8 x9 σ1 hk h9 h7 h8 I1 M1 C1
      obtain rfl : k = nvN D := by omega
      refine vcL_puts_35 l G _ hg hx' sz σ1 Q _ _ _ _ _ _ _ _ ⟨fun _ => ?_, fun c => absurd (by omega) c⟩
      rw [h7, h8]
      exact s110 σ1 I1 M1 C1
    | succ m ih =>
      intro k x7 x8 x9 σ1 hk h9 h7 h8 I1 M1 C1
      have hkn : k < nvN D := by omega
      have hw := VW hV (v := k) (by omega)
      have hca := cbA_alb hD (VP hV) (r := r) (by omega) k (by omega)
      have hcs := cbA_sc hD (v := k) (by omega) hw (r := r) (by omega)
      have ba := costA_b hca
      have bs := costA_b hcs
      refine vcL_puts_35 l G _ hg hx' sz σ1 Q _ _ _ _ _ _ _ _ ⟨fun c => absurd c (by omega), fun _ => ?_⟩
      refine k_best hV (BI_r I1) hr ho hkn rfl h9 (fun s3 i3 => ⟨by omega, fun _ y hy z hz => ⟨by omega, ?_⟩, fun c => absurd bs.1 c⟩)
      have ek : x9.toNat = k := by omega
      have e57 : s3 57 = σ1 57 := i3.2 57 (by omega) (by omega)
      refine ih (k + 1) z y _ _ (by omega) (by omega) ?_ ?_ (InvC_x i3.1 (fun c h1 _ => st_k h1)) (rM_x (rM_fr M1 i3.2) (st_k (by decide))) (fun i hi => ?_)
      · rw [alb_s]
        by_cases c : x7 ≤ costA (sc D k (p.1 k) (p.2.1 k) r none)
        · rw [if_pos c] at hz
          rw [cmb_le hca hcs (by rw [← h7]; exact c), hz, h7]
        · rw [if_neg c] at hz
          rw [cmb_gt hca (by rw [← h7]; exact c), hz]
      · rw [alb_s]
        by_cases c : x7 ≤ costA (sc D k (p.1 k) (p.2.1 k) r none)
        · rw [if_pos c] at hy
          rw [cmb_le hca hcs (by rw [← h7]; exact c), hy, h8]
        · rw [if_neg c] at hy
          rw [cmb_gt hca (by rw [← h7]; exact c), hy, h9]
          cases hsc : sc D k (p.1 k) (p.2.1 k) r none with
          | none =>
            exfalso
            rw [hsc] at c
            exact c (by rw [h7]; exact ba.2.1)
          | some x =>
            have := vhA_sc _ hsc
            show (k : Int) = (x.2.1 : Int)
            omega
      · by_cases c : i = k
        · subst c
          rw [ek, stS_eq]
        · rw [ek, stS_ni c, e57]
          exact C1 i (by omega)
  exact s35 (nvN D) 0 _ _ _ _ (by omega) rfl rfl rfl (InvC_x i2.1 (fun c h1 _ => zS_k h1)) (rM_x (rM_fr hM i2.2) (zS_k (by decide))) (fun i hi => absurd hi (Nat.not_lt_zero _))
end LAWD
