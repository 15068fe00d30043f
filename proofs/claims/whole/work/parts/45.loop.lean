section LAWLOOP
variable {l : Launch} {G : GT} {b L : Nat} {xs : Nat → Int32}
theorem lw_head (hb2 : G.2.2.1 228 = b) (hL : L ≤ 3584) : ∀ (n : Nat) (x : Int) (S : ST) (σ : Sto), 0 ≤ x → x ≤ (L : Int) + 7 → (L : Int) + 8 ≤ x + n → Val S → InvC σ S → InvM σ S → MWF l G mL (FL b L xs) 18 (lwS x) [] σ := by
  intro n
  induction n with
  | zero =>
    intro x S σ h0 h1 h2
    exact absurd h2 (by omega)
  | succ n ih =>
    intro x S σ h0 h1 h2 hV hC hM
    refine r_iload_n 0 dL_law_18 rfl rfl ?_
    refine r_aload_n 3 dL_law_19 rfl rfl ?_
    refine r_slen hb2 hL dL_law_20 ?_
    refine r_bipush dL_law_21 (by decide) (by decide) ?_
    refine r_isub dL_law_23 (by omega) ?_
    refine r_icmp_gt (tgt := 958) dL_law_24 (by decide) (fun c => ?_) (fun c => ?_)
    · refine r_iconst dL_law_958 (by decide) ?_
      exact r_lret dL_law_959
    · have hx : 0 ≤ x ∧ x + 7 ≤ (L : Int) ∧ (L : Int) ≤ 3584 := by omega
      have head : ∀ (S : ST) (σ : Sto), Val S → InvC σ S → InvM σ S → MWF l G mL (FL b L xs) 952 (lwS x) [] σ := by
        intro S σ hV hC hM
        refine r_iinc (ls' := lwS (x + 7)) 0 dL_law_952 rfl (by decide) (by omega) rfl ?_
        refine r_goto (tgt := 18) dL_law_955 (by decide) ?_
        exact ih (x + 7) S σ (by omega) (by omega) (by omega) hV hC hM
      refine r_aload_n 3 dL_law_27 rfl rfl ?_
      refine r_iload_n 0 dL_law_28 rfl rfl ?_
      refine r_sld hb2 dL_law_29 (by omega) ?_
      refine r_bipush dL_law_30 (by decide) (by decide) ?_
      refine r_iand dL_law_32 (fun z => ?_)
      by_cases cz : z < 0 ∨ 21 < z
      · exact r_tableOut (tgt := 952) dL_law_33 cz (by decide) (head S σ hV hC hM)
      · rcases (show z = 0 ∨ z = 1 ∨ z = 2 ∨ z = 3 ∨ z = 4 ∨ z = 5 ∨ z = 6 ∨ z = 7 ∨ z = 8 ∨ z = 9 ∨ z = 10 ∨ z = 11 ∨ z = 12 ∨ z = 13 ∨ z = 14 ∨ z = 15 ∨ z = 16 ∨ z = 17 ∨ z = 18 ∨ z = 19 ∨ z = 20 ∨ z = 21 by omega) with rfl | rfl | rfl | rfl | rfl | rfl | rfl | rfl | rfl | rfl | rfl | rfl | rfl | rfl | rfl | rfl | rfl | rfl | rfl | rfl | rfl | rfl
        · exact r_tableIn (tgt := 136) dL_law_33 (by decide) (by decide) (off := 103) rfl (by decide) (lw_c0 hb2 hx head hV hC hM)
        · exact r_tableIn (tgt := 199) dL_law_33 (by decide) (by decide) (off := 166) rfl (by decide) (lw_c1 hb2 hx head hV hC hM)
        · exact r_tableIn (tgt := 274) dL_law_33 (by decide) (by decide) (off := 241) rfl (by decide) (lw_c2 hb2 hx head hV hC hM)
        · exact r_tableIn (tgt := 343) dL_law_33 (by decide) (by decide) (off := 310) rfl (by decide) (lw_c3 hb2 hx head hV hC hM)
        · exact r_tableIn (tgt := 376) dL_law_33 (by decide) (by decide) (off := 343) rfl (by decide) (lw_c4 hb2 hx head hV hC hM)
        · exact r_tableIn (tgt := 409) dL_law_33 (by decide) (by decide) (off := 376) rfl (by decide) (lw_c5 hb2 hx head hV hC hM)
        · exact r_tableIn (tgt := 432) dL_law_33 (by decide) (by decide) (off := 399) rfl (by decide) (lw_c6 hb2 hx head hV hC hM)
        · exact r_tableIn (tgt := 455) dL_law_33 (by decide) (by decide) (off := 422) rfl (by decide) (lw_c7 hb2 hx head hV hC hM)
        · exact r_tableIn (tgt := 488) dL_law_33 (by decide) (by decide) (off := 455) rfl (by decide) (lw_c8 hb2 hx head hV hC hM)
        · exact r_tableIn (tgt := 521) dL_law_33 (by decide) (by decide) (off := 488) rfl (by decide) (lw_c9 hb2 hx head hV hC hM)
        · exact r_tableIn (tgt := 564) dL_law_33 (by decide) (by decide) (off := 531) rfl (by decide) (lw_c10 hb2 hx head hV hC hM)
        · exact r_tableIn (tgt := 613) dL_law_33 (by decide) (by decide) (off := 580) rfl (by decide) (lw_c11 hb2 hx head hV hC hM)
        · exact r_tableIn (tgt := 662) dL_law_33 (by decide) (by decide) (off := 629) rfl (by decide) (lw_c12 hb2 hx head hV hC hM)
        · exact r_tableIn (tgt := 715) dL_law_33 (by decide) (by decide) (off := 682) rfl (by decide) (lw_c13 hb2 hx head hV hC hM)
        · exact r_tableIn (tgt := 768) dL_law_33 (by decide) (by decide) (off := 735) rfl (by decide) (lw_c14 hb2 hx head hV hC hM)
        · exact r_tableIn (tgt := 801) dL_law_33 (by decide) (by decide) (off := 768) rfl (by decide) (lw_c15 hb2 hx head hV hC hM)
        · exact r_tableIn (tgt := 834) dL_law_33 (by decide) (by decide) (off := 801) rfl (by decide) (lw_c16 hb2 hx head hV hC hM)
        · exact r_tableIn (tgt := 857) dL_law_33 (by decide) (by decide) (off := 824) rfl (by decide) (lw_c17 hb2 hx head hV hC hM)
        · exact r_tableIn (tgt := 880) dL_law_33 (by decide) (by decide) (off := 847) rfl (by decide) (lw_c18 hb2 hx head hV hC hM)
        · exact r_tableIn (tgt := 903) dL_law_33 (by decide) (by decide) (off := 870) rfl (by decide) (lw_c19 hb2 hx head hV hC hM)
        · exact r_tableIn (tgt := 926) dL_law_33 (by decide) (by decide) (off := 893) rfl (by decide) (lw_c20 hb2 hx head hV hC hM)
        · exact r_tableIn (tgt := 939) dL_law_33 (by decide) (by decide) (off := 906) rfl (by decide) (lw_c21 hb2 hx head hV hC hM)
end LAWLOOP
