section HEAD
variable {l : Launch} {G : GT} {b L : Nat} {xs : Nat → Int32}
theorem lw_head (hx0 : G.2.2.2.2 = 0) (hb2 : G.2.2.1 228 = b) (hL : L ≤ 260) {x4 : Int} : ∀ (m e κ : Nat) (x5 x6 : Int) (D : Sto) (p : PL) (hs : List PL) (σ : Sto), e + m = 26 → κ ≤ e → x6 = e → x5 = hs.length → LW D p hs σ e → D 10 1 = x4 → MWF l G mL (FL b L xs κ) 411 [(0, vR 228), (1, vR 0), (2, vR 56), (4, vI x4), (5, vI x5), (6, vI x6)] [] σ := by
  intro m
  induction m with
  | zero =>
    intro e κ x5 x6 D p hs σ he hκ h6 h5 hW h4
    exact vcL_law_411 l G hx0 hb2 hL (by omega) σ _ _ _ ⟨fun _ => k_errors hW.1 hW.2.2.2.1.1 hW.2.2.2.1.2 (BI_r hW.2.1) (fun _ _ => rfl), fun c => absurd (by omega) c⟩
  | succ m ih =>
    intro e κ x5 x6 D p hs σ he hκ h6 h5 hW h4
    have hk : κ ≤ 100 := by omega
    have c1256 : C1256 l G b L xs e x4 x6 := fun D p hs σ κ x5 hκ hW h4 h5 => vcL_law_1256 l G hx0 hb2 hL (by omega) σ _ _ _ (k_plan hW.1 hW.2.2.1 (BI_r hW.2.1) (fun s i => ⟨fun c => absurd c (by decide), fun _ => ⟨by omega, ih (e + 1) κ _ _ D p hs s (by omega) hκ (by omega) h5 (LW_b hW hW.1 i) h4⟩⟩))
    obtain ⟨hV, hI, hM, hn, hlim⟩ := id hW
    have nb := nv_b (D := D) hV.1
    have lb := lowF_b (x := shrI (celF xs L (22 + x6)) 4) (n := x4) (by omega)
    refine vcL_law_411 l G hx0 hb2 hL hk σ _ _ _ ⟨fun c => absurd c (by omega), fun _ => ⟨by omega, by omega, k_low (by omega) (k_low (by omega) ?_)⟩⟩
    generalize celF xs L (22 + x6) = x7 at lb ⊢
    have hC := ev_1150 (x7 := x7) hx0 hb2 hL (by omega) c1256
    generalize lowF x7 14 = x8
    obtain ⟨r, hr⟩ : ∃ r : Nat, lowF (shrI x7 4) x4 = r := ⟨(lowF (shrI x7 4) x4).toNat, by omega⟩
    rw [hr] at lb ⊢
    have hrn : r < nrN D := by omega
    have s467 : ∀ (z0 : Int) (s : Sto), ((z0 = 0 ∧ p.2.2 r ≠ -1) ∨ (z0 = 1 ∧ p.2.2 r = -1)) → BI σ s (D, p, hs) → MWF l G mL (FL b L xs κ) 467 [(0, vR 228), (1, vR 0), (2, vR 56), (4, vI x4), (5, vI x5), (6, vI x6), (7, vI x7), (8, vI x8), (9, vI r)] [vI z0] s := by
      intro z0 s hop i0
      refine vcL_law_467 l G hx0 hb2 hL hk s _ _ _ _ _ _ _ (k_print hV i0 (fun s1 i1 => q_count hV i1 fc_5 (fun s2 i2 => ⟨fun _ => ?_, fun c => absurd h5.symm c⟩)))
      have hW2 := LW_b hW hV i2
      by_cases c6 : 6 ≤ x8
      · refine vcL_law_491 l G hx0 hb2 hL hk s2 _ _ _ _ _ _ _ _ _ ⟨fun _ => ?_, fun c => absurd c6 c⟩
        by_cases d6 : x8 = 6
        · exact ev_remove hx0 hb2 hL (by omega) hκ hC hW2 h4 h5 hrn rfl hop d6 ⟨rfl, rfl⟩
        · refine vcL_law_574 l G hx0 hb2 hL hk s2 _ _ _ _ _ _ _ _ _ ⟨fun c => absurd c d6, fun _ => ?_⟩
          by_cases c9 : 9 ≤ x8
          · refine vcL_law_670 l G hx0 hb2 hL hk s2 _ _ _ _ _ _ _ _ _ ⟨fun _ => ?_, fun c => absurd c9 c⟩
            by_cases d9 : x8 = 9
            · exact ev_improve hx0 hb2 hL (by omega) hκ hC hW2 h4 h5 d9 ⟨rfl, rfl⟩
            · refine vcL_law_693 l G hx0 hb2 hL hk s2 _ _ _ _ _ _ _ _ _ ⟨fun c => absurd c d9, fun _ => ?_⟩
              by_cases d10 : x8 = 10
              · exact ev_undo hx0 hb2 hL (by omega) hκ hC hW2 h4 h5 d10
              · refine vcL_law_754 l G hx0 hb2 hL hk s2 _ _ _ _ _ _ _ _ ⟨fun c => absurd c d10, fun _ => ?_⟩
                by_cases d11 : x8 = 11
                · exact ev_limit hx0 hb2 hL (by omega) hκ hC hW2 h4 h5 hrn rfl hop d11 rfl
                · refine vcL_law_817 l G hx0 hb2 hL hk s2 _ _ _ _ _ _ _ _ ⟨fun c => absurd c d11, fun _ => ?_⟩
                  by_cases d12 : x8 = 12
                  · exact ev_service hx0 hb2 hL (by omega) hκ hC hW2 h4 h5 d12 rfl
                  · refine vcL_law_970 l G hx0 hb2 hL hk s2 _ _ _ _ _ _ _ _ ⟨fun c => absurd c d12, fun _ => ?_⟩
                    exact ev_load hx0 hb2 hL (by omega) hκ hC hW2 h4 h5 hrn rfl hop rfl
          · exact ev_chain hx0 hb2 hL (by omega) hκ hC hW2 h4 h5 hrn rfl hop c9 ⟨rfl, rfl⟩
      · exact ev_491 hx0 hb2 hL (by omega) hκ hC hW2 h4 h5 hrn rfl hop c6 ⟨rfl, rfl⟩
    refine q_req hV (BI_r hI) rfl (fr_0 hrn) (fun s1 i1 => ⟨fun c => s467 1 s1 (Or.inr ⟨rfl, ?_⟩) i1, fun c => s467 0 s1 (Or.inl ⟨rfl, ?_⟩) i1⟩)
    · apply Classical.byContradiction
      intro z
      rw [if_neg z] at c
      rcases (VP hV).2.2.1 r (by omega) with q | ⟨v, _, _, q, _⟩
      · exact z q
      · omega
    · intro z
      rw [if_pos z] at c
      exact c rfl
end HEAD
