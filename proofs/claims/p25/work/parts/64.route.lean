theorem ob_w : Cond.instanceMethod Lib.objectInit ∈ tbG ∧ Cond.code Lib.objectInit ⟨#[0xb1]⟩ 1 none ∈ tbG := ⟨tb_in 37 (by decide +kernel) (by decide +kernel), tb_in 38 (by decide +kernel) (by decide +kernel)⟩
theorem ai_w : Cond.arrayClass .int ∈ tbG := tb_in 109 (by decide +kernel) (by decide +kernel)
def mX5_init : MI := (yX5_init, cX5_init, 2, none, 1, 20)
theorem okX5_init : MOK mX5_init 1 := ⟨by decide +kernel, ⟨by decide +kernel, by decide +kernel⟩, by decide +kernel, tb_in 171 (by decide +kernel) (by decide +kernel), tb_in 25 (by decide +kernel) (by decide +kernel)⟩
theorem ivX5_init : Cond.instanceMethod mX5_init.1 ∈ tbG := tb_in 170 (by decide +kernel) (by decide +kernel)
theorem lo_X5 : Cond.methodLink mX5_init.1.cls 3 Lib.objectInit ∈ tbG := tb_in 172 (by decide +kernel) (by decide +kernel)
def rtF (v : Int) : Nat → Int := fun j => if j = 0 then v else if j = 1 then 24 + v else 0
def zF : Nat → Int := fun _ => 0
def RTE (E : Nat → BE) (r : Nat) (v : Int) : Prop := E r = (rtF v, .inr (.inr (5, [none, none, none, some (some (r + 4))]))) ∧ E (r + 4) = (zF, .inl 24)
theorem cb_X5 (l : Launch) (G : GB) {k : Nat} {v : Int} (hv : 0 ≤ v ∧ v < 4) {cs : List Nat} {E : Nat → BE} (hE : E k = ((fun _ => 0), .inr (.inr (5, [none, none, none, some none])))) (hk : ∀ j, j ∈ cs → j ≠ k + 4) : CB l G mX5_init [vR k, vI v] cs E 1 24 (fun cs' E' => cs' = cs ++ [k + 4] ∧ (∀ j, j ≠ k → j ≠ k + 4 → E' j = E j) ∧ RTE E' k v) := by
  intro ad0 A0
  have f0 : FS (FinB G mX5_init ad0 cs 1 24 A0 (fun cs' E' => cs' = cs ++ [k + 4] ∧ (∀ j, j ≠ k → j ≠ k + 4 → E' j = E j) ∧ RTE E' k v)) cs := FS_fin (fun _ h => h)
  refine b_aload_n 0 dX5_init_0 rfl rfl ?_
  refine b_oinit dX5_init_1 lo_X5 ob_w ⟨by decide, by decide⟩ ?_
  refine b_aload_n 0 dX5_init_4 rfl rfl ?_
  refine b_iconst dX5_init_5 (by decide) ?_
  refine b_put0 (j := 2) dX5_init_6 hE (Nat.le_of_ble_eq_true rfl) kc_5 (by decide) lf_X5_9 (Or.inl rfl) rfl (fun _ => rfl) (fun _ => rfl) ?_
  refine b_aload_n 0 dX5_init_9 rfl rfl ?_
  refine b_bipush dX5_init_10 (by decide) (by decide) ?_
  refine b_newa (k := k + 4) (n := 24) (rc := 0) (rs := 0) rfl dX5_init_12 ai_w (by decide) f0 (fun h => hk _ h rfl) ?_
  refine b_put0 (j := 3) (k := k) dX5_init_14 ((uB_ne (by omega)).trans uB_eq) (Nat.le_of_ble_eq_true rfl) kc_5 (by decide) lf_X5_15 (Or.inr ⟨rfl, rfl, rfl⟩) rfl (fun _ => rfl) (fun _ => rfl) ?_
  refine b_aload_n 0 dX5_init_17 rfl rfl ?_
  refine b_iload_n 1 dX5_init_18 rfl rfl ?_
  refine b_put0 (j := 0) (k := k) dX5_init_19 uB_eq (Nat.le_of_ble_eq_true rfl) kc_5 (by decide) lf_X5_19 (Or.inl rfl) rfl (fun _ => rfl) (fun _ => rfl) ?_
  refine b_aload_n 0 dX5_init_22 rfl rfl ?_
  refine b_bipush dX5_init_23 (by decide) (by decide) ?_
  refine b_iload_n 1 dX5_init_25 rfl rfl ?_
  refine b_iadd dX5_init_26 (by omega) ?_
  refine b_put0 (j := 1) (k := k) dX5_init_27 uB_eq (Nat.le_of_ble_eq_true rfl) kc_5 (by decide) lf_X5_22 (Or.inl rfl) rfl (fun _ => rfl) (fun _ => rfl) ?_
  refine b_ret dX5_init_30 ⟨rfl, fun j h1 h2 => ?_, ?_, ?_⟩ (fun _ h => List.mem_append_left _ h)
  · rw [uB_ne h1, uB_ne h1, uB_ne h1, uB_ne h2, uB_ne h1]
  · refine uB_eq.trans (Prod.ext ?_ rfl)
    funext j
    simp only [pBf, uB, rtF]
    (repeat' split) <;> first | rfl | omega
  · rw [uB_ne (by omega), uB_ne (by omega), uB_ne (by omega), uB_eq]; rfl
