def mX3_init : MI := (yX3_init, cX3_init, 2, none, 2, 41)
theorem okX3_init : MOK mX3_init 0 := ⟨by decide +kernel, ⟨by decide +kernel, by decide +kernel⟩, by decide +kernel, tb_in 237 (by decide +kernel) (by decide +kernel), tb_in 27 (by decide +kernel) (by decide +kernel)⟩
theorem ivX3_init : Cond.instanceMethod mX3_init.1 ∈ tbG := tb_in 236 (by decide +kernel) (by decide +kernel)
theorem lo_X3 : Cond.methodLink mX3_init.1.cls 3 Lib.objectInit ∈ tbG := tb_in 238 (by decide +kernel) (by decide +kernel)
theorem cl_X3_9 : Cond.classLink mX3_init.1.cls 9 "SharedRides$Route" ∈ tbG := tb_in 239 (by decide +kernel) (by decide +kernel)
theorem is_X5 : Cond.instantiable "SharedRides$Route" 4 ∈ tbG := tb_in 168 (by decide +kernel) (by decide +kernel)
theorem in_X5 : Cond.initialized "SharedRides$Route" ∈ tbG := tb_in 25 (by decide +kernel) (by decide +kernel)
theorem lm_X3_21 : Cond.methodLink mX3_init.1.cls 21 mX5_init.1 ∈ tbG := tb_in 241 (by decide +kernel) (by decide +kernel)
def voI (i : Nat) : Nat → Int := fun j => if j < i then -1 else 0
def rl4 (q v : Nat) : List (Option Nat) := [if 0 < v then some (q + 3) else none, if 1 < v then some (q + 4) else none, if 2 < v then some (q + 5) else none, if 3 < v then some (q + 6) else none]
theorem rl4_s (q v : Nat) (hv : v < 4) : (rl4 q v).set v (some (q + 3 + v)) = rl4 q (v + 1) := by
  rcases (show v = 0 ∨ v = 1 ∨ v = 2 ∨ v = 3 by omega) with rfl | rfl | rfl | rfl <;> simp [rl4]
def PLE (E : Nat → BE) (q : Nat) : Prop := E q = (zF, .inr (.inr (3, [some (some (q + 1)), some (some (q + 2))]))) ∧ E (q + 1) = (zF, .inr (.inl (1, rl4 q 4))) ∧ E (q + 2) = (voI 12, .inl 12) ∧ ∀ v : Nat, v < 4 → RTE E (q + 3 + v) v
theorem cb_X3 (l : Launch) (G : GB) {q : Nat} {cs : List Nat} {E : Nat → BE} (hE : E q = ((fun _ => 0), .inr (.inr (3, [some none, some none])))) (hk : ∀ j, j ∈ cs → j ≤ q ∨ q + 10 < j) : CB l G mX3_init [vR q] cs E 10 128 (fun cs' E' => (∀ j, j ∈ cs' ↔ j ∈ cs ∨ (q < j ∧ j ≤ q + 10)) ∧ (∀ j, j < q ∨ q + 10 < j → E' j = E j) ∧ PLE E' q) := by
  intro ad0 A0
  generalize hQ : (fun (cs' : List Nat) (E' : Nat → BE) => (∀ j, j ∈ cs' ↔ j ∈ cs ∨ (q < j ∧ j ≤ q + 10)) ∧ (∀ j, j < q ∨ q + 10 < j → E' j = E j) ∧ PLE E' q) = Q
  have loop2 : ∀ (m i : Nat) (x : Int) (cs1 : List Nat) (E1 : Nat → BE), i + m = 12 → x = i → (∀ j, j ∈ cs1 ↔ j ∈ cs ∨ (q < j ∧ j ≤ q + 10)) → (∀ j, j < q ∨ q + 10 < j → E1 j = E j) → E1 q = (zF, .inr (.inr (3, [some (some (q + 1)), some (some (q + 2))]))) → E1 (q + 1) = (zF, .inr (.inl (1, rl4 q 4))) → E1 (q + 2) = (voI i, .inl 12) → (∀ v : Nat, v < 4 → RTE E1 (q + 3 + v) v) →
      BWF l G mX3_init (FinB G mX3_init ad0 cs 10 128 A0 Q) 49 [(1, vI x), (0, vR q)] [] cs1 E1 [1, 0] 0 0 := by
    intro m
    induction m with
    | zero =>
      intro i x cs1 E1 hm hx hc hf h0 h1 h2 h3
      obtain rfl : i = 12 := by omega
      refine b_iload_n 0 dX3_init_49 rfl rfl ?_
      refine b_bipush dX3_init_50 (by decide) (by decide) ?_
      refine b_ge (tgt := 68) dX3_init_52 (by decide) (by omega) ?_
      refine b_ret dX3_init_68 ?_ (fun j hj => (hc j).mpr (Or.inl hj))
      rw [← hQ]
      exact ⟨hc, hf, h0, h1, h2, h3⟩
    | succ m ih =>
      intro i x cs1 E1 hm hx hc hf h0 h1 h2 h3
      refine b_iload_n 0 dX3_init_49 rfl rfl ?_
      refine b_bipush dX3_init_50 (by decide) (by decide) ?_
      refine b_lt (tgt := 68) dX3_init_52 (by decide) (by omega) ?_
      refine b_aload_n 1 dX3_init_55 rfl rfl ?_
      refine b_getR (j := 1) (r := q + 2) dX3_init_56 h0 rfl kc_3 (by decide) lf_X3_17 ?_
      refine b_iload_n 0 dX3_init_59 rfl rfl ?_
      refine b_iconst dX3_init_60 (by decide) ?_
      refine b_iast (t0 := 1) dX3_init_61 h2 rfl (by omega) (by omega) ?_
      refine b_iinc (ls' := [(1, vI (x + 1)), (0, vR q)]) 0 dX3_init_62 rfl (by decide) (by omega) rfl ?_
      refine b_goto (tgt := 49) dX3_init_65 (by decide) ?_
      refine ih (i + 1) (x + 1) cs1 _ (by omega) (by omega) hc (fun j hj => by rw [uB_ne (by omega)]; exact hf j hj) (by rw [uB_ne (by omega)]; exact h0) (by rw [uB_ne (by omega)]; exact h1) ?_ (fun v hv => ?_)
      · refine uB_eq.trans (Prod.ext ?_ rfl)
        funext j
        simp only [uB, voI]
        (repeat' split) <;> first | rfl | omega
      · obtain ⟨a, b⟩ := h3 v hv
        exact ⟨by rw [uB_ne (by omega)]; exact a, by rw [uB_ne (by omega)]; exact b⟩
  have loop1 : ∀ (m v : Nat) (x : Int) (cs1 : List Nat) (E1 : Nat → BE), v + m = 4 → x = v → (∀ j, j ∈ cs1 ↔ j ∈ cs ∨ (q < j ∧ j ≤ q + 2 + v) ∨ (q + 7 ≤ j ∧ j < q + 7 + v)) → (∀ j, j < q ∨ q + 10 < j → E1 j = E j) → E1 q = (zF, .inr (.inr (3, [some (some (q + 1)), some (some (q + 2))]))) → E1 (q + 1) = (zF, .inr (.inl (1, rl4 q v))) → E1 (q + 2) = (zF, .inl 12) → (∀ w : Nat, w < v → RTE E1 (q + 3 + w) w) →
      BWF l G mX3_init (FinB G mX3_init ad0 cs 10 128 A0 Q) 22 [(1, vI x), (0, vR q)] [] cs1 E1 [1, 0] (2 * m) (28 * m) := by
    intro m
    induction m with
    | zero =>
      intro v x cs1 E1 hm hx hc hf h0 h1 h2 h3
      obtain rfl : v = 4 := by omega
      refine b_iload_n 0 dX3_init_22 rfl rfl ?_
      refine b_iconst dX3_init_23 (by decide) ?_
      refine b_ge (tgt := 47) dX3_init_24 (by decide) (by omega) ?_
      refine b_iconst dX3_init_47 (by decide) ?_
      refine b_istore_n (ls' := [(1, vI 0), (0, vR q)]) dX3_init_48 rfl (by decide) rfl ?_
      refine loop2 12 0 0 cs1 E1 (by omega) rfl (fun j => ?_) hf h0 h1 ?_ h3
      · rw [hc j]
        constructor
        · rintro (a | a | a)
          · exact Or.inl a
          · exact Or.inr (by omega)
          · exact Or.inr (by omega)
        · rintro (a | a)
          · exact Or.inl a
          · by_cases c : j ≤ q + 6
            · exact Or.inr (Or.inl (by omega))
            · exact Or.inr (Or.inr (by omega))
      · rw [h2]; exact Prod.ext (by funext j; simp [zF, voI]) rfl
    | succ m ih =>
      intro v x cs1 E1 hm hx hc hf h0 h1 h2 h3
      have hv : v < 4 := by omega
      have nin : ∀ j, (q + 2 + v < j ∧ j ≤ q + 6) ∨ (q + 7 + v ≤ j ∧ j ≤ q + 10) → j ∉ cs1 := fun j hj h => by
        rcases (hc j).mp h with a | a | a
        · have := hk j a; omega
        · omega
        · omega
      rw [show 28 * (m + 1) = 28 * m + 24 + 4 by omega, show 2 * (m + 1) = 2 * m + 1 + 1 by omega]
      refine b_iload_n 0 dX3_init_22 rfl rfl ?_
      refine b_iconst dX3_init_23 (by decide) ?_
      refine b_lt (tgt := 47) dX3_init_24 (by decide) (by omega) ?_
      refine b_aload_n 1 dX3_init_27 rfl rfl ?_
      refine b_getR (j := 0) (r := q + 1) dX3_init_28 h0 rfl kc_3 (by decide) lf_X3_11 ?_
      refine b_iload_n 0 dX3_init_31 rfl rfl ?_
      have f0 : FS (FinB G mX3_init ad0 cs 10 128 A0 Q) cs1 := FS_fin (fun j hj => (hc j).mpr (Or.inl hj))
      have f1 : FS (FinB G mX3_init ad0 cs 10 128 A0 Q) (cs1 ++ [q + 3 + v]) := FS_fin (fun j hj => List.mem_append_left _ ((hc j).mpr (Or.inl hj)))
      refine b_new (k := q + 3 + v) (fs := [none, none, none, some none]) tyX5 tyX5_ok (fun j hj => by rcases (show j = 0 ∨ j = 1 ∨ j = 2 ∨ j = 3 by omega) with rfl | rfl | rfl | rfl <;> rfl) (by simp) dX3_init_32 kc_5 cl_X3_9 is_X5 in_X5 f0 (nin _ (by omega)) ?_
      refine b_dup dX3_init_35 ?_
      refine b_iload_n 0 dX3_init_36 rfl rfl ?_
      refine b_call (k := q + 3 + v) [vI x] [vR (q + 3 + v), vI x, vR (q + 1)] dX3_init_37 okX5_init rfl rfl ivX5_init lm_X3_21 rfl rfl ⟨Nat.le_of_ble_eq_true rfl, Nat.le_of_ble_eq_true rfl, Nat.le_of_ble_eq_true rfl, Nat.le_of_ble_eq_true rfl⟩ f1 (cb_X5 l G (v := x) (by omega) uB_eq (fun j hj => ?_)) ?_
      · rcases List.mem_append.mp hj with a | a
        · exact fun z => nin j (by omega) a
        · have := List.mem_singleton.mp a; omega
      rintro _ E2 ⟨rfl, fr, rt⟩ _
      have e : ∀ j, j ≠ q + 3 + v → j ≠ q + 3 + v + 4 → E2 j = E1 j := fun j a b => by rw [fr j a b, uB_ne a]
      refine b_aast (t := 1) (t0 := 0) (n := 4) dX3_init_40 ((e (q + 1) (by omega) (by omega)).trans h1) rfl rt.1 kc_5 rfl rfl (by omega) (by omega) ?_
      refine b_iinc (ls' := [(1, vI (x + 1)), (0, vR q)]) 0 dX3_init_41 rfl (by decide) (by omega) rfl ?_
      refine b_goto (tgt := 22) dX3_init_44 (by decide) ?_
      refine ih (v + 1) (x + 1) _ _ (by omega) (by omega) (fun j => ?_) (fun j hj => by rw [uB_ne (by omega), e j (by omega) (by omega)]; exact hf j hj) (by rw [uB_ne (by omega), e q (by omega) (by omega)]; exact h0) ?_ (by rw [uB_ne (by omega), e (q + 2) (by omega) (by omega)]; exact h2) (fun w hw => ?_)
      · rw [List.mem_append, List.mem_append, List.mem_singleton, List.mem_singleton, hc j]
        constructor
        · rintro (((a | a | a) | a) | a)
          · exact Or.inl a
          · exact Or.inr (Or.inl (by omega))
          · exact Or.inr (Or.inr (by omega))
          · exact Or.inr (Or.inl (by omega))
          · exact Or.inr (Or.inr (by omega))
        · rintro (a | a | a)
          · exact Or.inl (Or.inl (Or.inl a))
          · by_cases c : j = q + 3 + v
            · exact Or.inl (Or.inr c)
            · exact Or.inl (Or.inl (Or.inr (Or.inl (by omega))))
          · by_cases c : j = q + 3 + v + 4
            · exact Or.inr c
            · exact Or.inl (Or.inl (Or.inr (Or.inr (by omega))))
      · rw [uB_eq, show x.toNat = v by omega, rl4_s q v hv]
      · by_cases c : w = v
        · subst c
          have ex : x = (w : Nat) := hx
          rw [ex] at rt
          exact ⟨by rw [uB_ne (by omega)]; exact rt.1, by rw [uB_ne (by omega)]; exact rt.2⟩
        · obtain ⟨a, b⟩ := h3 w (by omega)
          exact ⟨by rw [uB_ne (by omega), e _ (by omega) (by omega)]; exact a, by rw [uB_ne (by omega), e _ (by omega) (by omega)]; exact b⟩
  have f0 : FS (FinB G mX3_init ad0 cs 10 128 A0 Q) cs := FS_fin (fun _ h => h)
  have f1 : FS (FinB G mX3_init ad0 cs 10 128 A0 Q) (cs ++ [q + 1]) := FS_fin (fun _ h => List.mem_append_left _ h)
  refine b_aload_n 0 dX3_init_0 rfl rfl ?_
  refine b_oinit dX3_init_1 lo_X3 ob_w ⟨by decide, by decide⟩ ?_
  refine b_aload_n 0 dX3_init_4 rfl rfl ?_
  refine b_iconst dX3_init_5 (by decide) ?_
  refine b_newq (k := q + 1) (n := 4) (t := 1) (rc := 9) (rs := 124) rfl (by decide) rfl (fun s h => h.2.2.1) dX3_init_6 cl_X3_9 (by decide) f0 (fun h => by have := hk _ h; omega) ?_
  refine b_put0 (j := 0) (k := q) dX3_init_9 ((uB_ne (by omega)).trans hE) (Nat.le_of_ble_eq_true rfl) kc_3 (by decide) lf_X3_11 (Or.inr ⟨rfl, rfl, rfl⟩) rfl (fun _ => rfl) (fun _ => rfl) ?_
  refine b_aload_n 0 dX3_init_12 rfl rfl ?_
  refine b_bipush dX3_init_13 (by decide) (by decide) ?_
  refine b_newa (k := q + 2) (n := 12) (rc := 8) (rs := 112) rfl dX3_init_15 ai_w (by decide) f1 (fun h => by
    rcases List.mem_append.mp h with a | a
    · have := hk _ a; omega
    · have := List.mem_singleton.mp a; omega) ?_
  refine b_put0 (j := 1) (k := q) dX3_init_17 ((uB_ne (by omega)).trans uB_eq) (Nat.le_of_ble_eq_true rfl) kc_3 (by decide) lf_X3_17 (Or.inr ⟨rfl, rfl, rfl⟩) rfl (fun _ => rfl) (fun _ => rfl) ?_
  refine b_iconst dX3_init_20 (by decide) ?_
  refine b_istore_n (ls' := [(1, vI 0), (0, vR q)]) dX3_init_21 rfl (by decide) rfl ?_
  refine loop1 4 0 0 _ _ (by omega) rfl (fun j => ?_) (fun j hj => by rw [uB_ne (by omega), uB_ne (by omega), uB_ne (by omega), uB_ne (by omega)]) (uB_eq.trans rfl) (by rw [uB_ne (by omega), uB_ne (by omega), uB_ne (by omega), uB_eq]; rfl) (by rw [uB_ne (by omega), uB_eq]; rfl) (fun w hw => absurd hw (Nat.not_lt_zero _))
  rw [List.mem_append, List.mem_append, List.mem_singleton, List.mem_singleton]
  constructor
  · rintro ((a | a) | a)
    · exact Or.inl a
    · exact Or.inr (Or.inl (by omega))
    · exact Or.inr (Or.inl (by omega))
  · rintro (a | a | a)
    · exact Or.inl (Or.inl a)
    · by_cases c : j = q + 1
      · exact Or.inl (Or.inr c)
      · exact Or.inr (by omega)
    · omega
