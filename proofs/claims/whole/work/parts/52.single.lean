def toBS (x : Sh) : BS := match x with
  | .inl n => .inl n
  | .inr (.inl (t, l)) => .inr (.inl (t, l.map some))
  | .inr (.inr (ci, fs)) => .inr (.inr (ci, fs.map (fun o => match o with
    | none => none
    | some r => some (some r))))
def sI (k : Nat) : Nat → Int := if k = 1 then (fun j => if j = 2 then 1 else 0) else if k = 50 then (fun j => if j = 2 then -1 else 0) else if k = 56 then (fun j => if j = 0 then 1 else 0) else if k = 51 then rtF 0 else if k < 74 then zF else if (k - 74) % 11 = 2 then voI 12 else if 3 ≤ (k - 74) % 11 ∧ (k - 74) % 11 ≤ 6 then rtF (((k - 74) % 11 - 3 : Nat) : Int) else zF
def FIN (E : Nat → BE) (k : Nat) : Prop := E k = (sI k, toBS (shp k))
theorem mem_step {cs cs1 : List Nat} {b a c : Nat} (h : ∀ j, j ∈ cs1 ↔ j ∈ cs ∨ (b < j ∧ j ≤ a)) (hb : b ≤ a) (hc : c = a + 1) : ∀ j, j ∈ cs1 ++ [c] ↔ j ∈ cs ∨ (b < j ∧ j ≤ c) := by
  intro j
  rw [List.mem_append, List.mem_singleton, h j]
  constructor
  · rintro ((q | q) | q)
    · exact Or.inl q
    · exact Or.inr (by omega)
    · exact Or.inr (by omega)
  · rintro (q | q)
    · exact Or.inl (Or.inl q)
    · by_cases e : j = c
      · exact Or.inr e
      · exact Or.inl (Or.inr (by omega))
theorem mem_rows {cs cs1 : List Nat} {b a c n : Nat} (h : ∀ j, j ∈ cs1 ↔ j ∈ cs ∨ (b < j ∧ j ≤ a)) (hb : b ≤ a) (hc : c = a + 1) : ∀ j, j ∈ (cs1 ++ [c]) ++ (List.range n).map (fun i => c + 1 + i) ↔ j ∈ cs ∨ (b < j ∧ j ≤ c + n) := by
  intro j
  rw [List.mem_append, mem_step h hb hc j, List.mem_map]
  constructor
  · rintro ((q | q) | ⟨i, hi, q⟩)
    · exact Or.inl q
    · exact Or.inr (by omega)
    · have := List.mem_range.mp hi
      exact Or.inr (by omega)
  · rintro (q | q)
    · exact Or.inl (Or.inl q)
    · by_cases e : j ≤ c
      · exact Or.inl (Or.inr (by omega))
      · exact Or.inr ⟨j - c - 1, List.mem_range.mpr (by omega), by omega⟩
theorem mem_fresh {cs cs1 : List Nat} {b a c t : Nat} (hk : ∀ j, j ∈ cs → j ≤ b ∨ t < j) (h : ∀ j, j ∈ cs1 ↔ j ∈ cs ∨ (b < j ∧ j ≤ a)) (hc : b < c ∧ a < c ∧ c ≤ t) : c ∉ cs1 := fun q => by
  rcases (h c).mp q with q | q
  · have := hk c q; omega
  · omega
theorem mn_ne {E : Nat → BE} {k n mm j : Nat} (h : ¬ (k ≤ j ∧ j ≤ k + n)) : mnE E k n mm j = E j := by unfold mnE; rw [if_neg (by omega), if_neg (by omega)]
theorem mn_eq {E : Nat → BE} {k n mm : Nat} : mnE E k n mm k = ((fun _ => 0), .inr (.inl (3, (List.range n).map (fun i => some (k + 1 + i))))) := if_pos rfl
theorem mn_row {E : Nat → BE} {k n mm j : Nat} (h : k < j ∧ j ≤ k + n) : mnE E k n mm j = ((fun _ => 0), .inl mm) := by unfold mnE; rw [if_neg (by omega), if_pos h]
def mX6_init : MI := (yX6_init, cX6_init, 2, none, 1, 20)
theorem okX6_init : MOK mX6_init 1 := ⟨by decide +kernel, ⟨by decide +kernel, by decide +kernel⟩, by decide +kernel, tb_in 146 (by decide +kernel) (by decide +kernel), tb_in 54 (by decide +kernel) (by decide +kernel)⟩
theorem ivX6_init : Cond.instanceMethod mX6_init.1 ∈ tbG := tb_in 145 (by decide +kernel) (by decide +kernel)
theorem lo_X6 : Cond.methodLink mX6_init.1.cls 3 Lib.objectInit ∈ tbG := tb_in 147 (by decide +kernel) (by decide +kernel)
theorem cb_X6 (l : Launch) (G : GB) {cs : List Nat} {E : Nat → BE} (hE : E 40 = ((fun _ => 0), .inr (.inr (6, [some none, some none, some none, some none, none, some none, some none, some none, some none, some none, some none, none, none])))) (hk : ∀ j, j ∈ cs → j ≤ 40 ∨ 49 < j) : CB l G mX6_init [vR 40, vR 1] cs E 9 217 (fun (cs' : List Nat) (E' : Nat → BE) => (∀ j, j ∈ cs' ↔ j ∈ cs ∨ (40 < j ∧ j ≤ 49)) ∧ (∀ j, j < 40 ∨ 49 < j → E' j = E j) ∧ ∀ j, 40 ≤ j → j ≤ 49 → FIN E' j) := by
  intro ad0 A0
  generalize hQ : (fun (cs' : List Nat) (E' : Nat → BE) => (∀ j, j ∈ cs' ↔ j ∈ cs ∨ (40 < j ∧ j ≤ 49)) ∧ (∀ j, j < 40 ∨ 49 < j → E' j = E j) ∧ ∀ j, 40 ≤ j → j ≤ 49 → FIN E' j) = Q
  have c0 : ∀ j, j ∈ cs ↔ j ∈ cs ∨ (40 < j ∧ j ≤ 40) := fun j => ⟨Or.inl, fun h => by rcases h with h | h; exact h; omega⟩
  refine b_aload_n 0 dX6_init_0 rfl rfl ?_
  refine b_oinit dX6_init_1 lo_X6 ob_w ⟨by decide, by decide⟩ ?_
  refine b_aload_n 0 dX6_init_4 rfl rfl ?_
  refine b_bipush dX6_init_5 (by decide) (by decide) ?_
  refine b_newa (k := 41) (n := 24) (rc := 8) (rs := 193) rfl dX6_init_7 ai_w (by decide) (FS_fin (fun j hj => (c0 j).mpr (Or.inl hj))) (mem_fresh hk c0 (by decide)) ?_
  have c1 := mem_step c0 (by decide) (show 41 = 40 + 1 from rfl)
  refine b_put0 (j := 0) (k := 40) dX6_init_9 ((uB_ne (by decide)).trans (hE)) (Nat.le_of_ble_eq_true rfl) kc_6 (by decide) lf_X6_9 (Or.inr ⟨rfl, rfl, rfl⟩) rfl (fun _ => rfl) (fun _ => rfl) ?_
  refine b_aload_n 0 dX6_init_12 rfl rfl ?_
  refine b_bipush dX6_init_13 (by decide) (by decide) ?_
  refine b_newa (k := 42) (n := 24) (rc := 7) (rs := 169) rfl dX6_init_15 ai_w (by decide) (FS_fin (fun j hj => (c1 j).mpr (Or.inl hj))) (mem_fresh hk c1 (by decide)) ?_
  have c2 := mem_step c1 (by decide) (show 42 = 41 + 1 from rfl)
  refine b_put0 (j := 1) (k := 40) dX6_init_17 ((uB_ne (by decide)).trans (uB_eq)) (Nat.le_of_ble_eq_true rfl) kc_6 (by decide) lf_X6_15 (Or.inr ⟨rfl, rfl, rfl⟩) rfl (fun _ => rfl) (fun _ => rfl) ?_
  refine b_aload_n 0 dX6_init_20 rfl rfl ?_
  refine b_bipush dX6_init_21 (by decide) (by decide) ?_
  refine b_newa (k := 43) (n := 24) (rc := 6) (rs := 145) rfl dX6_init_23 ai_w (by decide) (FS_fin (fun j hj => (c2 j).mpr (Or.inl hj))) (mem_fresh hk c2 (by decide)) ?_
  have c3 := mem_step c2 (by decide) (show 43 = 42 + 1 from rfl)
  refine b_put0 (j := 2) (k := 40) dX6_init_25 ((uB_ne (by decide)).trans (uB_eq)) (Nat.le_of_ble_eq_true rfl) kc_6 (by decide) lf_X6_18 (Or.inr ⟨rfl, rfl, rfl⟩) rfl (fun _ => rfl) (fun _ => rfl) ?_
  refine b_aload_n 0 dX6_init_28 rfl rfl ?_
  refine b_bipush dX6_init_29 (by decide) (by decide) ?_
  refine b_newa (k := 44) (n := 25) (rc := 5) (rs := 120) rfl dX6_init_31 ai_w (by decide) (FS_fin (fun j hj => (c3 j).mpr (Or.inl hj))) (mem_fresh hk c3 (by decide)) ?_
  have c4 := mem_step c3 (by decide) (show 44 = 43 + 1 from rfl)
  refine b_put0 (j := 3) (k := 40) dX6_init_33 ((uB_ne (by decide)).trans (uB_eq)) (Nat.le_of_ble_eq_true rfl) kc_6 (by decide) lf_X6_21 (Or.inr ⟨rfl, rfl, rfl⟩) rfl (fun _ => rfl) (fun _ => rfl) ?_
  refine b_aload_n 0 dX6_init_36 rfl rfl ?_
  refine b_iconst dX6_init_37 (by decide) ?_
  refine b_put0 (j := 4) (k := 40) dX6_init_38 (uB_eq) (Nat.le_of_ble_eq_true rfl) kc_6 (by decide) lf_X6_24 (Or.inl rfl) rfl (fun _ => rfl) (fun _ => rfl) ?_
  refine b_aload_n 0 dX6_init_41 rfl rfl ?_
  refine b_bipush dX6_init_42 (by decide) (by decide) ?_
  refine b_newa (k := 45) (n := 24) (rc := 4) (rs := 96) rfl dX6_init_44 ai_w (by decide) (FS_fin (fun j hj => (c4 j).mpr (Or.inl hj))) (mem_fresh hk c4 (by decide)) ?_
  have c5 := mem_step c4 (by decide) (show 45 = 44 + 1 from rfl)
  refine b_put0 (j := 6) (k := 40) dX6_init_46 ((uB_ne (by decide)).trans (uB_eq)) (Nat.le_of_ble_eq_true rfl) kc_6 (by decide) lf_X6_28 (Or.inr ⟨rfl, rfl, rfl⟩) rfl (fun _ => rfl) (fun _ => rfl) ?_
  refine b_aload_n 0 dX6_init_49 rfl rfl ?_
  refine b_bipush dX6_init_50 (by decide) (by decide) ?_
  refine b_newa (k := 46) (n := 24) (rc := 3) (rs := 72) rfl dX6_init_52 ai_w (by decide) (FS_fin (fun j hj => (c5 j).mpr (Or.inl hj))) (mem_fresh hk c5 (by decide)) ?_
  have c6 := mem_step c5 (by decide) (show 46 = 45 + 1 from rfl)
  refine b_put0 (j := 7) (k := 40) dX6_init_54 ((uB_ne (by decide)).trans (uB_eq)) (Nat.le_of_ble_eq_true rfl) kc_6 (by decide) lf_X6_31 (Or.inr ⟨rfl, rfl, rfl⟩) rfl (fun _ => rfl) (fun _ => rfl) ?_
  refine b_aload_n 0 dX6_init_57 rfl rfl ?_
  refine b_bipush dX6_init_58 (by decide) (by decide) ?_
  refine b_newa (k := 47) (n := 24) (rc := 2) (rs := 48) rfl dX6_init_60 ai_w (by decide) (FS_fin (fun j hj => (c6 j).mpr (Or.inl hj))) (mem_fresh hk c6 (by decide)) ?_
  have c7 := mem_step c6 (by decide) (show 47 = 46 + 1 from rfl)
  refine b_put0 (j := 8) (k := 40) dX6_init_62 ((uB_ne (by decide)).trans (uB_eq)) (Nat.le_of_ble_eq_true rfl) kc_6 (by decide) lf_X6_34 (Or.inr ⟨rfl, rfl, rfl⟩) rfl (fun _ => rfl) (fun _ => rfl) ?_
  refine b_aload_n 0 dX6_init_65 rfl rfl ?_
  refine b_bipush dX6_init_66 (by decide) (by decide) ?_
  refine b_newa (k := 48) (n := 24) (rc := 1) (rs := 24) rfl dX6_init_68 ai_w (by decide) (FS_fin (fun j hj => (c7 j).mpr (Or.inl hj))) (mem_fresh hk c7 (by decide)) ?_
  have c8 := mem_step c7 (by decide) (show 48 = 47 + 1 from rfl)
  refine b_put0 (j := 9) (k := 40) dX6_init_70 ((uB_ne (by decide)).trans (uB_eq)) (Nat.le_of_ble_eq_true rfl) kc_6 (by decide) lf_X6_37 (Or.inr ⟨rfl, rfl, rfl⟩) rfl (fun _ => rfl) (fun _ => rfl) ?_
  refine b_aload_n 0 dX6_init_73 rfl rfl ?_
  refine b_bipush dX6_init_74 (by decide) (by decide) ?_
  refine b_newa (k := 49) (n := 24) (rc := 0) (rs := 0) rfl dX6_init_76 ai_w (by decide) (FS_fin (fun j hj => (c8 j).mpr (Or.inl hj))) (mem_fresh hk c8 (by decide)) ?_
  have c9 := mem_step c8 (by decide) (show 49 = 48 + 1 from rfl)
  refine b_put0 (j := 10) (k := 40) dX6_init_78 ((uB_ne (by decide)).trans (uB_eq)) (Nat.le_of_ble_eq_true rfl) kc_6 (by decide) lf_X6_40 (Or.inr ⟨rfl, rfl, rfl⟩) rfl (fun _ => rfl) (fun _ => rfl) ?_
  refine b_aload_n 0 dX6_init_81 rfl rfl ?_
  refine b_iconst dX6_init_82 (by decide) ?_
  refine b_put0 (j := 11) (k := 40) dX6_init_83 (uB_eq) (Nat.le_of_ble_eq_true rfl) kc_6 (by decide) lf_X6_43 (Or.inl rfl) rfl (fun _ => rfl) (fun _ => rfl) ?_
  refine b_aload_n 0 dX6_init_86 rfl rfl ?_
  refine b_iconst dX6_init_87 (by decide) ?_
  refine b_put0 (j := 12) (k := 40) dX6_init_88 (uB_eq) (Nat.le_of_ble_eq_true rfl) kc_6 (by decide) lf_X6_46 (Or.inl rfl) rfl (fun _ => rfl) (fun _ => rfl) ?_
  refine b_aload_n 0 dX6_init_91 rfl rfl ?_
  refine b_aload_n 1 dX6_init_92 rfl rfl ?_
  refine b_put0 (j := 5) (k := 40) dX6_init_93 (uB_eq) (Nat.le_of_ble_eq_true rfl) kc_6 (by decide) lf_X6_49 (Or.inr ⟨rfl, rfl, rfl⟩) rfl (fun _ => rfl) (fun _ => rfl) ?_
  refine b_ret dX6_init_96 ?_ (fun j hj => (c9 j).mpr (Or.inl hj))
  rw [← hQ]
  refine ⟨c9, fun j hj => ?_, fun j h1 h2 => ?_⟩
  · rw [uB_ne (by omega), uB_ne (by omega), uB_ne (by omega), uB_ne (by omega), uB_ne (by omega), uB_ne (by omega), uB_ne (by omega), uB_ne (by omega), uB_ne (by omega), uB_ne (by omega), uB_ne (by omega), uB_ne (by omega), uB_ne (by omega), uB_ne (by omega), uB_ne (by omega), uB_ne (by omega), uB_ne (by omega), uB_ne (by omega), uB_ne (by omega), uB_ne (by omega), uB_ne (by omega), uB_ne (by omega)]
  · rcases (show j = 40 ∨ j = 41 ∨ j = 42 ∨ j = 43 ∨ j = 44 ∨ j = 45 ∨ j = 46 ∨ j = 47 ∨ j = 48 ∨ j = 49 by omega) with rfl | rfl | rfl | rfl | rfl | rfl | rfl | rfl | rfl | rfl
    · refine (uB_eq).trans (Prod.ext ?_ ?_)
      · funext j
        show _ = (0 : Int)
        simp only [pBf, uB]
        all_goals ((repeat' split) <;> first | rfl | omega)
      · show (.inr (.inr (6, [some (some 41), some (some 42), some (some 43), some (some 44), none, some (some 1), some (some 45), some (some 46), some (some 47), some (some 48), some (some 49), none, none])) : BS) = _
        decide +kernel
    · exact ((uB_ne (by decide)).trans ((uB_ne (by decide)).trans ((uB_ne (by decide)).trans ((uB_ne (by decide)).trans ((uB_ne (by decide)).trans ((uB_ne (by decide)).trans ((uB_ne (by decide)).trans ((uB_ne (by decide)).trans ((uB_ne (by decide)).trans ((uB_ne (by decide)).trans ((uB_ne (by decide)).trans ((uB_ne (by decide)).trans ((uB_ne (by decide)).trans ((uB_ne (by decide)).trans ((uB_ne (by decide)).trans ((uB_ne (by decide)).trans ((uB_ne (by decide)).trans ((uB_ne (by decide)).trans ((uB_ne (by decide)).trans ((uB_ne (by decide)).trans ((uB_ne (by decide)).trans (uB_eq)))))))))))))))))))))).trans (Prod.ext rfl (show (.inl 24 : BS) = _ by decide +kernel))
    · exact ((uB_ne (by decide)).trans ((uB_ne (by decide)).trans ((uB_ne (by decide)).trans ((uB_ne (by decide)).trans ((uB_ne (by decide)).trans ((uB_ne (by decide)).trans ((uB_ne (by decide)).trans ((uB_ne (by decide)).trans ((uB_ne (by decide)).trans ((uB_ne (by decide)).trans ((uB_ne (by decide)).trans ((uB_ne (by decide)).trans ((uB_ne (by decide)).trans ((uB_ne (by decide)).trans ((uB_ne (by decide)).trans ((uB_ne (by decide)).trans ((uB_ne (by decide)).trans ((uB_ne (by decide)).trans ((uB_ne (by decide)).trans (uB_eq)))))))))))))))))))).trans (Prod.ext rfl (show (.inl 24 : BS) = _ by decide +kernel))
    · exact ((uB_ne (by decide)).trans ((uB_ne (by decide)).trans ((uB_ne (by decide)).trans ((uB_ne (by decide)).trans ((uB_ne (by decide)).trans ((uB_ne (by decide)).trans ((uB_ne (by decide)).trans ((uB_ne (by decide)).trans ((uB_ne (by decide)).trans ((uB_ne (by decide)).trans ((uB_ne (by decide)).trans ((uB_ne (by decide)).trans ((uB_ne (by decide)).trans ((uB_ne (by decide)).trans ((uB_ne (by decide)).trans ((uB_ne (by decide)).trans ((uB_ne (by decide)).trans (uB_eq)))))))))))))))))).trans (Prod.ext rfl (show (.inl 24 : BS) = _ by decide +kernel))
    · exact ((uB_ne (by decide)).trans ((uB_ne (by decide)).trans ((uB_ne (by decide)).trans ((uB_ne (by decide)).trans ((uB_ne (by decide)).trans ((uB_ne (by decide)).trans ((uB_ne (by decide)).trans ((uB_ne (by decide)).trans ((uB_ne (by decide)).trans ((uB_ne (by decide)).trans ((uB_ne (by decide)).trans ((uB_ne (by decide)).trans ((uB_ne (by decide)).trans ((uB_ne (by decide)).trans ((uB_ne (by decide)).trans (uB_eq)))))))))))))))).trans (Prod.ext rfl (show (.inl 25 : BS) = _ by decide +kernel))
    · exact ((uB_ne (by decide)).trans ((uB_ne (by decide)).trans ((uB_ne (by decide)).trans ((uB_ne (by decide)).trans ((uB_ne (by decide)).trans ((uB_ne (by decide)).trans ((uB_ne (by decide)).trans ((uB_ne (by decide)).trans ((uB_ne (by decide)).trans ((uB_ne (by decide)).trans ((uB_ne (by decide)).trans ((uB_ne (by decide)).trans (uB_eq))))))))))))).trans (Prod.ext rfl (show (.inl 24 : BS) = _ by decide +kernel))
    · exact ((uB_ne (by decide)).trans ((uB_ne (by decide)).trans ((uB_ne (by decide)).trans ((uB_ne (by decide)).trans ((uB_ne (by decide)).trans ((uB_ne (by decide)).trans ((uB_ne (by decide)).trans ((uB_ne (by decide)).trans ((uB_ne (by decide)).trans ((uB_ne (by decide)).trans (uB_eq))))))))))).trans (Prod.ext rfl (show (.inl 24 : BS) = _ by decide +kernel))
    · exact ((uB_ne (by decide)).trans ((uB_ne (by decide)).trans ((uB_ne (by decide)).trans ((uB_ne (by decide)).trans ((uB_ne (by decide)).trans ((uB_ne (by decide)).trans ((uB_ne (by decide)).trans ((uB_ne (by decide)).trans (uB_eq))))))))).trans (Prod.ext rfl (show (.inl 24 : BS) = _ by decide +kernel))
    · exact ((uB_ne (by decide)).trans ((uB_ne (by decide)).trans ((uB_ne (by decide)).trans ((uB_ne (by decide)).trans ((uB_ne (by decide)).trans ((uB_ne (by decide)).trans (uB_eq))))))).trans (Prod.ext rfl (show (.inl 24 : BS) = _ by decide +kernel))
    · exact ((uB_ne (by decide)).trans ((uB_ne (by decide)).trans ((uB_ne (by decide)).trans ((uB_ne (by decide)).trans (uB_eq))))).trans (Prod.ext rfl (show (.inl 24 : BS) = _ by decide +kernel))
def mX4_init : MI := (yX4_init, cX4_init, 1, none, 1, 20)
theorem okX4_init : MOK mX4_init 0 := ⟨by decide +kernel, ⟨by decide +kernel, by decide +kernel⟩, by decide +kernel, tb_in 75 (by decide +kernel) (by decide +kernel), tb_in 53 (by decide +kernel) (by decide +kernel)⟩
theorem ivX4_init : Cond.instanceMethod mX4_init.1 ∈ tbG := tb_in 74 (by decide +kernel) (by decide +kernel)
theorem lo_X4 : Cond.methodLink mX4_init.1.cls 3 Lib.objectInit ∈ tbG := tb_in 76 (by decide +kernel) (by decide +kernel)
theorem cl_X4_49 : Cond.classLink mX4_init.1.cls 49 ("[" ++ (FieldType.array .int).toString) ∈ tbG := tb_in 77 (by decide +kernel) (by decide +kernel)
theorem lf_X4_15 : Cond.fieldLink "SharedRides$Problem" 15 "SharedRides$Problem" "requests" "I" ∈ tbG := tb_in 82 (by decide +kernel) (by decide +kernel)
theorem lf_X4_18 : Cond.fieldLink "SharedRides$Problem" 18 "SharedRides$Problem" "service" "I" ∈ tbG := tb_in 85 (by decide +kernel) (by decide +kernel)
theorem lf_X4_21 : Cond.fieldLink "SharedRides$Problem" 21 "SharedRides$Problem" "capacity" "[I" ∈ tbG := tb_in 88 (by decide +kernel) (by decide +kernel)
theorem lf_X4_25 : Cond.fieldLink "SharedRides$Problem" 25 "SharedRides$Problem" "shiftFirst" "[I" ∈ tbG := tb_in 91 (by decide +kernel) (by decide +kernel)
theorem lf_X4_28 : Cond.fieldLink "SharedRides$Problem" 28 "SharedRides$Problem" "shiftLast" "[I" ∈ tbG := tb_in 94 (by decide +kernel) (by decide +kernel)
theorem lf_X4_31 : Cond.fieldLink "SharedRides$Problem" 31 "SharedRides$Problem" "limit" "[I" ∈ tbG := tb_in 97 (by decide +kernel) (by decide +kernel)
theorem cb_X4 (l : Launch) (G : GB) {cs : List Nat} {E : Nat → BE} (hE : E 1 = ((fun _ => 0), .inr (.inr (4, [none, none, none, some none, some none, some none, some none, some none, some none, some none, some none, some none, some none])))) (hk : ∀ j, j ∈ cs → j ≤ 1 ∨ 39 < j) : CB l G mX4_init [vR 1] cs E 38 964 (fun (cs' : List Nat) (E' : Nat → BE) => (∀ j, j ∈ cs' ↔ j ∈ cs ∨ (1 < j ∧ j ≤ 39)) ∧ (∀ j, j < 1 ∨ 39 < j → E' j = E j) ∧ ∀ j, 1 ≤ j → j ≤ 39 → FIN E' j) := by
  intro ad0 A0
  generalize hQ : (fun (cs' : List Nat) (E' : Nat → BE) => (∀ j, j ∈ cs' ↔ j ∈ cs ∨ (1 < j ∧ j ≤ 39)) ∧ (∀ j, j < 1 ∨ 39 < j → E' j = E j) ∧ ∀ j, 1 ≤ j → j ≤ 39 → FIN E' j) = Q
  have c0 : ∀ j, j ∈ cs ↔ j ∈ cs ∨ (1 < j ∧ j ≤ 1) := fun j => ⟨Or.inl, fun h => by rcases h with h | h; exact h; omega⟩
  refine b_aload_n 0 dX4_init_0 rfl rfl ?_
  refine b_oinit dX4_init_1 lo_X4 ob_w ⟨by decide, by decide⟩ ?_
  refine b_aload_n 0 dX4_init_4 rfl rfl ?_
  refine b_iconst dX4_init_5 (by decide) ?_
  refine b_put0 (j := 0) (k := 1) dX4_init_6 (hE) (Nat.le_of_ble_eq_true rfl) kc_4 (by decide) lf_X4_9 (Or.inl rfl) rfl (fun _ => rfl) (fun _ => rfl) ?_
  refine b_aload_n 0 dX4_init_9 rfl rfl ?_
  refine b_iconst dX4_init_10 (by decide) ?_
  refine b_put0 (j := 1) (k := 1) dX4_init_11 (uB_eq) (Nat.le_of_ble_eq_true rfl) kc_4 (by decide) lf_X4_15 (Or.inl rfl) rfl (fun _ => rfl) (fun _ => rfl) ?_
  refine b_aload_n 0 dX4_init_14 rfl rfl ?_
  refine b_iconst dX4_init_15 (by decide) ?_
  refine b_put0 (j := 2) (k := 1) dX4_init_16 (uB_eq) (Nat.le_of_ble_eq_true rfl) kc_4 (by decide) lf_X4_18 (Or.inl rfl) rfl (fun _ => rfl) (fun _ => rfl) ?_
  refine b_aload_n 0 dX4_init_19 rfl rfl ?_
  refine b_iconst dX4_init_20 (by decide) ?_
  refine b_newa (k := 2) (n := 4) (rc := 37) (rs := 960) rfl dX4_init_21 ai_w (by decide) (FS_fin (fun j hj => (c0 j).mpr (Or.inl hj))) (mem_fresh hk c0 (by decide)) ?_
  have c1 := mem_step c0 (by decide) (show 2 = 1 + 1 from rfl)
  refine b_put0 (j := 3) (k := 1) dX4_init_23 ((uB_ne (by decide)).trans (uB_eq)) (Nat.le_of_ble_eq_true rfl) kc_4 (by decide) lf_X4_21 (Or.inr ⟨rfl, rfl, rfl⟩) rfl (fun _ => rfl) (fun _ => rfl) ?_
  refine b_aload_n 0 dX4_init_26 rfl rfl ?_
  refine b_iconst dX4_init_27 (by decide) ?_
  refine b_newa (k := 3) (n := 4) (rc := 36) (rs := 956) rfl dX4_init_28 ai_w (by decide) (FS_fin (fun j hj => (c1 j).mpr (Or.inl hj))) (mem_fresh hk c1 (by decide)) ?_
  have c2 := mem_step c1 (by decide) (show 3 = 2 + 1 from rfl)
  refine b_put0 (j := 4) (k := 1) dX4_init_30 ((uB_ne (by decide)).trans (uB_eq)) (Nat.le_of_ble_eq_true rfl) kc_4 (by decide) lf_X4_25 (Or.inr ⟨rfl, rfl, rfl⟩) rfl (fun _ => rfl) (fun _ => rfl) ?_
  refine b_aload_n 0 dX4_init_33 rfl rfl ?_
  refine b_iconst dX4_init_34 (by decide) ?_
  refine b_newa (k := 4) (n := 4) (rc := 35) (rs := 952) rfl dX4_init_35 ai_w (by decide) (FS_fin (fun j hj => (c2 j).mpr (Or.inl hj))) (mem_fresh hk c2 (by decide)) ?_
  have c3 := mem_step c2 (by decide) (show 4 = 3 + 1 from rfl)
  refine b_put0 (j := 5) (k := 1) dX4_init_37 ((uB_ne (by decide)).trans (uB_eq)) (Nat.le_of_ble_eq_true rfl) kc_4 (by decide) lf_X4_28 (Or.inr ⟨rfl, rfl, rfl⟩) rfl (fun _ => rfl) (fun _ => rfl) ?_
  refine b_aload_n 0 dX4_init_40 rfl rfl ?_
  refine b_bipush dX4_init_41 (by decide) (by decide) ?_
  refine b_newa (k := 5) (n := 12) (rc := 34) (rs := 940) rfl dX4_init_43 ai_w (by decide) (FS_fin (fun j hj => (c3 j).mpr (Or.inl hj))) (mem_fresh hk c3 (by decide)) ?_
  have c4 := mem_step c3 (by decide) (show 5 = 4 + 1 from rfl)
  refine b_put0 (j := 6) (k := 1) dX4_init_45 ((uB_ne (by decide)).trans (uB_eq)) (Nat.le_of_ble_eq_true rfl) kc_4 (by decide) lf_X4_31 (Or.inr ⟨rfl, rfl, rfl⟩) rfl (fun _ => rfl) (fun _ => rfl) ?_
  refine b_aload_n 0 dX4_init_48 rfl rfl ?_
  refine b_bipush dX4_init_49 (by decide) (by decide) ?_
  refine b_newa (k := 6) (n := 24) (rc := 33) (rs := 916) rfl dX4_init_51 ai_w (by decide) (FS_fin (fun j hj => (c4 j).mpr (Or.inl hj))) (mem_fresh hk c4 (by decide)) ?_
  have c5 := mem_step c4 (by decide) (show 6 = 5 + 1 from rfl)
  refine b_put0 (j := 7) (k := 1) dX4_init_53 ((uB_ne (by decide)).trans (uB_eq)) (Nat.le_of_ble_eq_true rfl) kc_4 (by decide) lf_X4_34 (Or.inr ⟨rfl, rfl, rfl⟩) rfl (fun _ => rfl) (fun _ => rfl) ?_
  refine b_aload_n 0 dX4_init_56 rfl rfl ?_
  refine b_bipush dX4_init_57 (by decide) (by decide) ?_
  refine b_newa (k := 7) (n := 24) (rc := 32) (rs := 892) rfl dX4_init_59 ai_w (by decide) (FS_fin (fun j hj => (c5 j).mpr (Or.inl hj))) (mem_fresh hk c5 (by decide)) ?_
  have c6 := mem_step c5 (by decide) (show 7 = 6 + 1 from rfl)
  refine b_put0 (j := 8) (k := 1) dX4_init_61 ((uB_ne (by decide)).trans (uB_eq)) (Nat.le_of_ble_eq_true rfl) kc_4 (by decide) lf_X4_37 (Or.inr ⟨rfl, rfl, rfl⟩) rfl (fun _ => rfl) (fun _ => rfl) ?_
  refine b_aload_n 0 dX4_init_64 rfl rfl ?_
  refine b_bipush dX4_init_65 (by decide) (by decide) ?_
  refine b_newa (k := 8) (n := 24) (rc := 31) (rs := 868) rfl dX4_init_67 ai_w (by decide) (FS_fin (fun j hj => (c6 j).mpr (Or.inl hj))) (mem_fresh hk c6 (by decide)) ?_
  have c7 := mem_step c6 (by decide) (show 8 = 7 + 1 from rfl)
  refine b_put0 (j := 9) (k := 1) dX4_init_69 ((uB_ne (by decide)).trans (uB_eq)) (Nat.le_of_ble_eq_true rfl) kc_4 (by decide) lf_X4_40 (Or.inr ⟨rfl, rfl, rfl⟩) rfl (fun _ => rfl) (fun _ => rfl) ?_
  refine b_aload_n 0 dX4_init_72 rfl rfl ?_
  refine b_bipush dX4_init_73 (by decide) (by decide) ?_
  refine b_newa (k := 9) (n := 28) (rc := 30) (rs := 840) rfl dX4_init_75 ai_w (by decide) (FS_fin (fun j hj => (c7 j).mpr (Or.inl hj))) (mem_fresh hk c7 (by decide)) ?_
  have c8 := mem_step c7 (by decide) (show 9 = 8 + 1 from rfl)
  refine b_put0 (j := 10) (k := 1) dX4_init_77 ((uB_ne (by decide)).trans (uB_eq)) (Nat.le_of_ble_eq_true rfl) kc_4 (by decide) lf_X4_43 (Or.inr ⟨rfl, rfl, rfl⟩) rfl (fun _ => rfl) (fun _ => rfl) ?_
  refine b_aload_n 0 dX4_init_80 rfl rfl ?_
  refine b_bipush dX4_init_81 (by decide) (by decide) ?_
  refine b_newa (k := 10) (n := 28) (rc := 29) (rs := 812) rfl dX4_init_83 ai_w (by decide) (FS_fin (fun j hj => (c8 j).mpr (Or.inl hj))) (mem_fresh hk c8 (by decide)) ?_
  have c9 := mem_step c8 (by decide) (show 10 = 9 + 1 from rfl)
  refine b_put0 (j := 11) (k := 1) dX4_init_85 ((uB_ne (by decide)).trans (uB_eq)) (Nat.le_of_ble_eq_true rfl) kc_4 (by decide) lf_X4_46 (Or.inr ⟨rfl, rfl, rfl⟩) rfl (fun _ => rfl) (fun _ => rfl) ?_
  refine b_aload_n 0 dX4_init_88 rfl rfl ?_
  refine b_bipush dX4_init_89 (by decide) (by decide) ?_
  refine b_bipush dX4_init_91 (by decide) (by decide) ?_
  refine b_mna (k := 11) (n := 28) (mm := 28) (t0 := 0) (rc := 0) (rs := 0) rfl rfl dX4_init_93 cl_X4_49 ai_w (by decide) (by decide) rfl (FS_fin (fun j hj => (c9 j).mpr (Or.inl hj))) (fun j h1 h2 h => mem_fresh hk c9 (by omega) h) ?_
  have c10 := mem_rows c9 (by decide) (show 11 = 10 + 1 from rfl) (n := 28)
  refine b_put0 (j := 12) (k := 1) dX4_init_97 ((mn_ne (by decide)).trans (uB_eq)) (Nat.le_of_ble_eq_true rfl) kc_4 (by decide) lf_X4_51 (Or.inr ⟨rfl, rfl, rfl⟩) rfl (fun _ => rfl) (fun _ => rfl) ?_
  refine b_ret dX4_init_100 ?_ (fun j hj => (c10 j).mpr (Or.inl hj))
  rw [← hQ]
  refine ⟨c10, fun j hj => ?_, fun j h1 h2 => ?_⟩
  · rw [uB_ne (by omega), mn_ne (by omega), uB_ne (by omega), uB_ne (by omega), uB_ne (by omega), uB_ne (by omega), uB_ne (by omega), uB_ne (by omega), uB_ne (by omega), uB_ne (by omega), uB_ne (by omega), uB_ne (by omega), uB_ne (by omega), uB_ne (by omega), uB_ne (by omega), uB_ne (by omega), uB_ne (by omega), uB_ne (by omega), uB_ne (by omega), uB_ne (by omega), uB_ne (by omega), uB_ne (by omega), uB_ne (by omega)]
  · rcases (show (j = 1 ∨ j = 2 ∨ j = 3 ∨ j = 4 ∨ j = 5 ∨ j = 6 ∨ j = 7 ∨ j = 8 ∨ j = 9 ∨ j = 10) ∨ j = 11 ∨ (11 < j ∧ j ≤ 39) by omega) with (rfl | rfl | rfl | rfl | rfl | rfl | rfl | rfl | rfl | rfl) | rfl | hr
    · refine (uB_eq).trans (Prod.ext ?_ ?_)
      · funext j
        show _ = (if j = 2 then (1 : Int) else 0)
        simp only [pBf, uB]
        all_goals ((repeat' split) <;> first | rfl | omega)
      · show (.inr (.inr (4, [none, none, none, some (some 2), some (some 3), some (some 4), some (some 5), some (some 6), some (some 7), some (some 8), some (some 9), some (some 10), some (some 11)])) : BS) = _
        decide +kernel
    · exact ((uB_ne (by decide)).trans ((mn_ne (by decide)).trans ((uB_ne (by decide)).trans ((uB_ne (by decide)).trans ((uB_ne (by decide)).trans ((uB_ne (by decide)).trans ((uB_ne (by decide)).trans ((uB_ne (by decide)).trans ((uB_ne (by decide)).trans ((uB_ne (by decide)).trans ((uB_ne (by decide)).trans ((uB_ne (by decide)).trans ((uB_ne (by decide)).trans ((uB_ne (by decide)).trans ((uB_ne (by decide)).trans ((uB_ne (by decide)).trans ((uB_ne (by decide)).trans ((uB_ne (by decide)).trans ((uB_ne (by decide)).trans (uB_eq)))))))))))))))))))).trans (Prod.ext rfl (show (.inl 4 : BS) = _ by decide +kernel))
    · exact ((uB_ne (by decide)).trans ((mn_ne (by decide)).trans ((uB_ne (by decide)).trans ((uB_ne (by decide)).trans ((uB_ne (by decide)).trans ((uB_ne (by decide)).trans ((uB_ne (by decide)).trans ((uB_ne (by decide)).trans ((uB_ne (by decide)).trans ((uB_ne (by decide)).trans ((uB_ne (by decide)).trans ((uB_ne (by decide)).trans ((uB_ne (by decide)).trans ((uB_ne (by decide)).trans ((uB_ne (by decide)).trans ((uB_ne (by decide)).trans ((uB_ne (by decide)).trans (uB_eq)))))))))))))))))).trans (Prod.ext rfl (show (.inl 4 : BS) = _ by decide +kernel))
    · exact ((uB_ne (by decide)).trans ((mn_ne (by decide)).trans ((uB_ne (by decide)).trans ((uB_ne (by decide)).trans ((uB_ne (by decide)).trans ((uB_ne (by decide)).trans ((uB_ne (by decide)).trans ((uB_ne (by decide)).trans ((uB_ne (by decide)).trans ((uB_ne (by decide)).trans ((uB_ne (by decide)).trans ((uB_ne (by decide)).trans ((uB_ne (by decide)).trans ((uB_ne (by decide)).trans ((uB_ne (by decide)).trans (uB_eq)))))))))))))))).trans (Prod.ext rfl (show (.inl 4 : BS) = _ by decide +kernel))
    · exact ((uB_ne (by decide)).trans ((mn_ne (by decide)).trans ((uB_ne (by decide)).trans ((uB_ne (by decide)).trans ((uB_ne (by decide)).trans ((uB_ne (by decide)).trans ((uB_ne (by decide)).trans ((uB_ne (by decide)).trans ((uB_ne (by decide)).trans ((uB_ne (by decide)).trans ((uB_ne (by decide)).trans ((uB_ne (by decide)).trans ((uB_ne (by decide)).trans (uB_eq)))))))))))))).trans (Prod.ext rfl (show (.inl 12 : BS) = _ by decide +kernel))
    · exact ((uB_ne (by decide)).trans ((mn_ne (by decide)).trans ((uB_ne (by decide)).trans ((uB_ne (by decide)).trans ((uB_ne (by decide)).trans ((uB_ne (by decide)).trans ((uB_ne (by decide)).trans ((uB_ne (by decide)).trans ((uB_ne (by decide)).trans ((uB_ne (by decide)).trans ((uB_ne (by decide)).trans (uB_eq)))))))))))).trans (Prod.ext rfl (show (.inl 24 : BS) = _ by decide +kernel))
    · exact ((uB_ne (by decide)).trans ((mn_ne (by decide)).trans ((uB_ne (by decide)).trans ((uB_ne (by decide)).trans ((uB_ne (by decide)).trans ((uB_ne (by decide)).trans ((uB_ne (by decide)).trans ((uB_ne (by decide)).trans ((uB_ne (by decide)).trans (uB_eq)))))))))).trans (Prod.ext rfl (show (.inl 24 : BS) = _ by decide +kernel))
    · exact ((uB_ne (by decide)).trans ((mn_ne (by decide)).trans ((uB_ne (by decide)).trans ((uB_ne (by decide)).trans ((uB_ne (by decide)).trans ((uB_ne (by decide)).trans ((uB_ne (by decide)).trans (uB_eq)))))))).trans (Prod.ext rfl (show (.inl 24 : BS) = _ by decide +kernel))
    · exact ((uB_ne (by decide)).trans ((mn_ne (by decide)).trans ((uB_ne (by decide)).trans ((uB_ne (by decide)).trans ((uB_ne (by decide)).trans (uB_eq)))))).trans (Prod.ext rfl (show (.inl 28 : BS) = _ by decide +kernel))
    · exact ((uB_ne (by decide)).trans ((mn_ne (by decide)).trans ((uB_ne (by decide)).trans (uB_eq)))).trans (Prod.ext rfl (show (.inl 28 : BS) = _ by decide +kernel))
    · exact ((uB_ne (by decide)).trans (mn_eq)).trans (Prod.ext rfl (by decide +kernel))
    · have e : sI j = zF := by unfold sI; rw [if_neg (by omega), if_neg (by omega), if_neg (by omega), if_neg (by omega), if_pos (by omega)]
      have e2 : toBS (shp j) = (.inl 28 : BS) := by
        have h := List.all_eq_true.mp (show (List.range 40).all (fun j => decide (j ≤ 11) || decide (toBS (shp j) = (.inl 28 : BS))) = true by decide +kernel) j (List.mem_range.mpr (by omega))
        rw [Bool.or_eq_true, decide_eq_true_eq, decide_eq_true_eq] at h
        exact h.resolve_left (by omega)
      show _ = (sI j, toBS (shp j))
      rw [e, e2]
      exact ((uB_ne (by omega)).trans (mn_row (by omega))).trans rfl
def mX8_init : MI := (yX8_init, cX8_init, 1, none, 1, 20)
theorem okX8_init : MOK mX8_init 0 := ⟨by decide +kernel, ⟨by decide +kernel, by decide +kernel⟩, by decide +kernel, tb_in 692 (by decide +kernel) (by decide +kernel), tb_in 60 (by decide +kernel) (by decide +kernel)⟩
theorem ivX8_init : Cond.instanceMethod mX8_init.1 ∈ tbG := tb_in 691 (by decide +kernel) (by decide +kernel)
theorem lo_X8 : Cond.methodLink mX8_init.1.cls 1 Lib.objectInit ∈ tbG := tb_in 693 (by decide +kernel) (by decide +kernel)
theorem cb_X8 (l : Launch) (G : GB) {cs : List Nat} {E : Nat → BE} (hE : E 56 = ((fun _ => 0), .inr (.inr (8, [none, none, some none, some none, some none, some none, some none, none, some none, some none, some none, some none, some none, some none, some none, none, some none, some none, some none, none, none, none, none, some none, some none, none, none, none])))) (hk : ∀ j, j ∈ cs → j ≤ 56 ∨ 73 < j) : CB l G mX8_init [vR 56] cs E 17 1418 (fun (cs' : List Nat) (E' : Nat → BE) => (∀ j, j ∈ cs' ↔ j ∈ cs ∨ (56 < j ∧ j ≤ 73)) ∧ (∀ j, j < 56 ∨ 73 < j → E' j = E j) ∧ ∀ j, 56 ≤ j → j ≤ 73 → FIN E' j) := by
  intro ad0 A0
  generalize hQ : (fun (cs' : List Nat) (E' : Nat → BE) => (∀ j, j ∈ cs' ↔ j ∈ cs ∨ (56 < j ∧ j ≤ 73)) ∧ (∀ j, j < 56 ∨ 73 < j → E' j = E j) ∧ ∀ j, 56 ≤ j → j ≤ 73 → FIN E' j) = Q
  have c0 : ∀ j, j ∈ cs ↔ j ∈ cs ∨ (56 < j ∧ j ≤ 56) := fun j => ⟨Or.inl, fun h => by rcases h with h | h; exact h; omega⟩
  refine b_aload_n 0 dX8_init_0 rfl rfl ?_
  refine b_oinit dX8_init_1 lo_X8 ob_w ⟨by decide, by decide⟩ ?_
  refine b_aload_n 0 dX8_init_4 rfl rfl ?_
  refine b_iconst dX8_init_5 (by decide) ?_
  refine b_newa (k := 57) (n := 4) (rc := 16) (rs := 1414) rfl dX8_init_6 ai_w (by decide) (FS_fin (fun j hj => (c0 j).mpr (Or.inl hj))) (mem_fresh hk c0 (by decide)) ?_
  have c1 := mem_step c0 (by decide) (show 57 = 56 + 1 from rfl)
  refine b_put0 (j := 2) (k := 56) dX8_init_8 ((uB_ne (by decide)).trans (hE)) (Nat.le_of_ble_eq_true rfl) kc_8 (by decide) lf_X8_7 (Or.inr ⟨rfl, rfl, rfl⟩) rfl (fun _ => rfl) (fun _ => rfl) ?_
  refine b_aload_n 0 dX8_init_11 rfl rfl ?_
  refine b_iconst dX8_init_12 (by decide) ?_
  refine b_newa (k := 58) (n := 4) (rc := 15) (rs := 1410) rfl dX8_init_13 ai_w (by decide) (FS_fin (fun j hj => (c1 j).mpr (Or.inl hj))) (mem_fresh hk c1 (by decide)) ?_
  have c2 := mem_step c1 (by decide) (show 58 = 57 + 1 from rfl)
  refine b_put0 (j := 3) (k := 56) dX8_init_15 ((uB_ne (by decide)).trans (uB_eq)) (Nat.le_of_ble_eq_true rfl) kc_8 (by decide) lf_X8_13 (Or.inr ⟨rfl, rfl, rfl⟩) rfl (fun _ => rfl) (fun _ => rfl) ?_
  refine b_aload_n 0 dX8_init_18 rfl rfl ?_
  refine b_iconst dX8_init_19 (by decide) ?_
  refine b_newa (k := 59) (n := 4) (rc := 14) (rs := 1406) rfl dX8_init_20 ai_w (by decide) (FS_fin (fun j hj => (c2 j).mpr (Or.inl hj))) (mem_fresh hk c2 (by decide)) ?_
  have c3 := mem_step c2 (by decide) (show 59 = 58 + 1 from rfl)
  refine b_put0 (j := 4) (k := 56) dX8_init_22 ((uB_ne (by decide)).trans (uB_eq)) (Nat.le_of_ble_eq_true rfl) kc_8 (by decide) lf_X8_16 (Or.inr ⟨rfl, rfl, rfl⟩) rfl (fun _ => rfl) (fun _ => rfl) ?_
  refine b_aload_n 0 dX8_init_25 rfl rfl ?_
  refine b_iconst dX8_init_26 (by decide) ?_
  refine b_newa (k := 60) (n := 4) (rc := 13) (rs := 1402) rfl dX8_init_27 ai_w (by decide) (FS_fin (fun j hj => (c3 j).mpr (Or.inl hj))) (mem_fresh hk c3 (by decide)) ?_
  have c4 := mem_step c3 (by decide) (show 60 = 59 + 1 from rfl)
  refine b_put0 (j := 5) (k := 56) dX8_init_29 ((uB_ne (by decide)).trans (uB_eq)) (Nat.le_of_ble_eq_true rfl) kc_8 (by decide) lf_X8_19 (Or.inr ⟨rfl, rfl, rfl⟩) rfl (fun _ => rfl) (fun _ => rfl) ?_
  refine b_aload_n 0 dX8_init_32 rfl rfl ?_
  refine b_iconst dX8_init_33 (by decide) ?_
  refine b_newa (k := 61) (n := 4) (rc := 12) (rs := 1398) rfl dX8_init_34 ai_w (by decide) (FS_fin (fun j hj => (c4 j).mpr (Or.inl hj))) (mem_fresh hk c4 (by decide)) ?_
  have c5 := mem_step c4 (by decide) (show 61 = 60 + 1 from rfl)
  refine b_put0 (j := 6) (k := 56) dX8_init_36 ((uB_ne (by decide)).trans (uB_eq)) (Nat.le_of_ble_eq_true rfl) kc_8 (by decide) lf_X8_22 (Or.inr ⟨rfl, rfl, rfl⟩) rfl (fun _ => rfl) (fun _ => rfl) ?_
  refine b_aload_n 0 dX8_init_39 rfl rfl ?_
  refine b_bipush dX8_init_40 (by decide) (by decide) ?_
  refine b_newa (k := 62) (n := 24) (rc := 11) (rs := 1374) rfl dX8_init_42 ai_w (by decide) (FS_fin (fun j hj => (c5 j).mpr (Or.inl hj))) (mem_fresh hk c5 (by decide)) ?_
  have c6 := mem_step c5 (by decide) (show 62 = 61 + 1 from rfl)
  refine b_put0 (j := 8) (k := 56) dX8_init_44 ((uB_ne (by decide)).trans (uB_eq)) (Nat.le_of_ble_eq_true rfl) kc_8 (by decide) lf_X8_25 (Or.inr ⟨rfl, rfl, rfl⟩) rfl (fun _ => rfl) (fun _ => rfl) ?_
  refine b_aload_n 0 dX8_init_47 rfl rfl ?_
  refine b_bipush dX8_init_48 (by decide) (by decide) ?_
  refine b_newa (k := 63) (n := 24) (rc := 10) (rs := 1350) rfl dX8_init_50 ai_w (by decide) (FS_fin (fun j hj => (c6 j).mpr (Or.inl hj))) (mem_fresh hk c6 (by decide)) ?_
  have c7 := mem_step c6 (by decide) (show 63 = 62 + 1 from rfl)
  refine b_put0 (j := 9) (k := 56) dX8_init_52 ((uB_ne (by decide)).trans (uB_eq)) (Nat.le_of_ble_eq_true rfl) kc_8 (by decide) lf_X8_28 (Or.inr ⟨rfl, rfl, rfl⟩) rfl (fun _ => rfl) (fun _ => rfl) ?_
  refine b_aload_n 0 dX8_init_55 rfl rfl ?_
  refine b_bipush dX8_init_56 (by decide) (by decide) ?_
  refine b_newa (k := 64) (n := 24) (rc := 9) (rs := 1326) rfl dX8_init_58 ai_w (by decide) (FS_fin (fun j hj => (c7 j).mpr (Or.inl hj))) (mem_fresh hk c7 (by decide)) ?_
  have c8 := mem_step c7 (by decide) (show 64 = 63 + 1 from rfl)
  refine b_put0 (j := 10) (k := 56) dX8_init_60 ((uB_ne (by decide)).trans (uB_eq)) (Nat.le_of_ble_eq_true rfl) kc_8 (by decide) lf_X8_31 (Or.inr ⟨rfl, rfl, rfl⟩) rfl (fun _ => rfl) (fun _ => rfl) ?_
  refine b_aload_n 0 dX8_init_63 rfl rfl ?_
  refine b_bipush dX8_init_64 (by decide) (by decide) ?_
  refine b_newa (k := 65) (n := 24) (rc := 8) (rs := 1302) rfl dX8_init_66 ai_w (by decide) (FS_fin (fun j hj => (c8 j).mpr (Or.inl hj))) (mem_fresh hk c8 (by decide)) ?_
  have c9 := mem_step c8 (by decide) (show 65 = 64 + 1 from rfl)
  refine b_put0 (j := 11) (k := 56) dX8_init_68 ((uB_ne (by decide)).trans (uB_eq)) (Nat.le_of_ble_eq_true rfl) kc_8 (by decide) lf_X8_34 (Or.inr ⟨rfl, rfl, rfl⟩) rfl (fun _ => rfl) (fun _ => rfl) ?_
  refine b_aload_n 0 dX8_init_71 rfl rfl ?_
  refine b_bipush dX8_init_72 (by decide) (by decide) ?_
  refine b_newa (k := 66) (n := 12) (rc := 7) (rs := 1290) rfl dX8_init_74 ai_w (by decide) (FS_fin (fun j hj => (c9 j).mpr (Or.inl hj))) (mem_fresh hk c9 (by decide)) ?_
  have c10 := mem_step c9 (by decide) (show 66 = 65 + 1 from rfl)
  refine b_put0 (j := 12) (k := 56) dX8_init_76 ((uB_ne (by decide)).trans (uB_eq)) (Nat.le_of_ble_eq_true rfl) kc_8 (by decide) lf_X8_37 (Or.inr ⟨rfl, rfl, rfl⟩) rfl (fun _ => rfl) (fun _ => rfl) ?_
  refine b_aload_n 0 dX8_init_79 rfl rfl ?_
  refine b_bipush dX8_init_80 (by decide) (by decide) ?_
  refine b_newa (k := 67) (n := 12) (rc := 6) (rs := 1278) rfl dX8_init_82 ai_w (by decide) (FS_fin (fun j hj => (c10 j).mpr (Or.inl hj))) (mem_fresh hk c10 (by decide)) ?_
  have c11 := mem_step c10 (by decide) (show 67 = 66 + 1 from rfl)
  refine b_put0 (j := 13) (k := 56) dX8_init_84 ((uB_ne (by decide)).trans (uB_eq)) (Nat.le_of_ble_eq_true rfl) kc_8 (by decide) lf_X8_40 (Or.inr ⟨rfl, rfl, rfl⟩) rfl (fun _ => rfl) (fun _ => rfl) ?_
  refine b_aload_n 0 dX8_init_87 rfl rfl ?_
  refine b_bipush dX8_init_88 (by decide) (by decide) ?_
  refine b_newa (k := 68) (n := 100) (rc := 5) (rs := 1178) rfl dX8_init_90 ai_w (by decide) (FS_fin (fun j hj => (c11 j).mpr (Or.inl hj))) (mem_fresh hk c11 (by decide)) ?_
  have c12 := mem_step c11 (by decide) (show 68 = 67 + 1 from rfl)
  refine b_put0 (j := 14) (k := 56) dX8_init_92 ((uB_ne (by decide)).trans (uB_eq)) (Nat.le_of_ble_eq_true rfl) kc_8 (by decide) lf_X8_43 (Or.inr ⟨rfl, rfl, rfl⟩) rfl (fun _ => rfl) (fun _ => rfl) ?_
  refine b_aload_n 0 dX8_init_95 rfl rfl ?_
  refine b_bipush dX8_init_96 (by decide) (by decide) ?_
  refine b_newa (k := 69) (n := 26) (rc := 4) (rs := 1152) rfl dX8_init_98 ai_w (by decide) (FS_fin (fun j hj => (c12 j).mpr (Or.inl hj))) (mem_fresh hk c12 (by decide)) ?_
  have c13 := mem_step c12 (by decide) (show 69 = 68 + 1 from rfl)
  refine b_put0 (j := 16) (k := 56) dX8_init_100 ((uB_ne (by decide)).trans (uB_eq)) (Nat.le_of_ble_eq_true rfl) kc_8 (by decide) lf_X8_46 (Or.inr ⟨rfl, rfl, rfl⟩) rfl (fun _ => rfl) (fun _ => rfl) ?_
  refine b_aload_n 0 dX8_init_103 rfl rfl ?_
  refine b_bipush dX8_init_104 (by decide) (by decide) ?_
  refine b_newa (k := 70) (n := 26) (rc := 3) (rs := 1126) rfl dX8_init_106 ai_w (by decide) (FS_fin (fun j hj => (c13 j).mpr (Or.inl hj))) (mem_fresh hk c13 (by decide)) ?_
  have c14 := mem_step c13 (by decide) (show 70 = 69 + 1 from rfl)
  refine b_put0 (j := 17) (k := 56) dX8_init_108 ((uB_ne (by decide)).trans (uB_eq)) (Nat.le_of_ble_eq_true rfl) kc_8 (by decide) lf_X8_49 (Or.inr ⟨rfl, rfl, rfl⟩) rfl (fun _ => rfl) (fun _ => rfl) ?_
  refine b_aload_n 0 dX8_init_111 rfl rfl ?_
  refine b_bipush dX8_init_112 (by decide) (by decide) ?_
  refine b_newa (k := 71) (n := 26) (rc := 2) (rs := 1100) rfl dX8_init_114 ai_w (by decide) (FS_fin (fun j hj => (c14 j).mpr (Or.inl hj))) (mem_fresh hk c14 (by decide)) ?_
  have c15 := mem_step c14 (by decide) (show 71 = 70 + 1 from rfl)
  refine b_put0 (j := 18) (k := 56) dX8_init_116 ((uB_ne (by decide)).trans (uB_eq)) (Nat.le_of_ble_eq_true rfl) kc_8 (by decide) lf_X8_52 (Or.inr ⟨rfl, rfl, rfl⟩) rfl (fun _ => rfl) (fun _ => rfl) ?_
  refine b_aload_n 0 dX8_init_119 rfl rfl ?_
  refine b_sipush dX8_init_120 (by decide) (by decide) ?_
  refine b_newa (k := 72) (n := 1000) (rc := 1) (rs := 100) rfl dX8_init_123 ai_w (by decide) (FS_fin (fun j hj => (c15 j).mpr (Or.inl hj))) (mem_fresh hk c15 (by decide)) ?_
  have c16 := mem_step c15 (by decide) (show 72 = 71 + 1 from rfl)
  refine b_put0 (j := 23) (k := 56) dX8_init_125 ((uB_ne (by decide)).trans (uB_eq)) (Nat.le_of_ble_eq_true rfl) kc_8 (by decide) lf_X8_55 (Or.inr ⟨rfl, rfl, rfl⟩) rfl (fun _ => rfl) (fun _ => rfl) ?_
  refine b_aload_n 0 dX8_init_128 rfl rfl ?_
  refine b_bipush dX8_init_129 (by decide) (by decide) ?_
  refine b_newa (k := 73) (n := 100) (rc := 0) (rs := 0) rfl dX8_init_131 ai_w (by decide) (FS_fin (fun j hj => (c16 j).mpr (Or.inl hj))) (mem_fresh hk c16 (by decide)) ?_
  have c17 := mem_step c16 (by decide) (show 73 = 72 + 1 from rfl)
  refine b_put0 (j := 24) (k := 56) dX8_init_133 ((uB_ne (by decide)).trans (uB_eq)) (Nat.le_of_ble_eq_true rfl) kc_8 (by decide) lf_X8_58 (Or.inr ⟨rfl, rfl, rfl⟩) rfl (fun _ => rfl) (fun _ => rfl) ?_
  refine b_aload_n 0 dX8_init_136 rfl rfl ?_
  refine b_iconst dX8_init_137 (by decide) ?_
  refine b_put0 (j := 0) (k := 56) dX8_init_138 (uB_eq) (Nat.le_of_ble_eq_true rfl) kc_8 (by decide) lf_X8_61 (Or.inl rfl) rfl (fun _ => rfl) (fun _ => rfl) ?_
  refine b_ret dX8_init_141 ?_ (fun j hj => (c17 j).mpr (Or.inl hj))
  rw [← hQ]
  refine ⟨c17, fun j hj => ?_, fun j h1 h2 => ?_⟩
  · rw [uB_ne (by omega), uB_ne (by omega), uB_ne (by omega), uB_ne (by omega), uB_ne (by omega), uB_ne (by omega), uB_ne (by omega), uB_ne (by omega), uB_ne (by omega), uB_ne (by omega), uB_ne (by omega), uB_ne (by omega), uB_ne (by omega), uB_ne (by omega), uB_ne (by omega), uB_ne (by omega), uB_ne (by omega), uB_ne (by omega), uB_ne (by omega), uB_ne (by omega), uB_ne (by omega), uB_ne (by omega), uB_ne (by omega), uB_ne (by omega), uB_ne (by omega), uB_ne (by omega), uB_ne (by omega), uB_ne (by omega), uB_ne (by omega), uB_ne (by omega), uB_ne (by omega), uB_ne (by omega), uB_ne (by omega), uB_ne (by omega), uB_ne (by omega)]
  · rcases (show j = 56 ∨ j = 57 ∨ j = 58 ∨ j = 59 ∨ j = 60 ∨ j = 61 ∨ j = 62 ∨ j = 63 ∨ j = 64 ∨ j = 65 ∨ j = 66 ∨ j = 67 ∨ j = 68 ∨ j = 69 ∨ j = 70 ∨ j = 71 ∨ j = 72 ∨ j = 73 by omega) with rfl | rfl | rfl | rfl | rfl | rfl | rfl | rfl | rfl | rfl | rfl | rfl | rfl | rfl | rfl | rfl | rfl | rfl
    · refine (uB_eq).trans (Prod.ext ?_ ?_)
      · funext j
        show _ = (if j = 0 then (1 : Int) else 0)
        simp only [pBf, uB]
        all_goals ((repeat' split) <;> first | rfl | omega)
      · show (.inr (.inr (8, [none, none, some (some 57), some (some 58), some (some 59), some (some 60), some (some 61), none, some (some 62), some (some 63), some (some 64), some (some 65), some (some 66), some (some 67), some (some 68), none, some (some 69), some (some 70), some (some 71), none, none, none, none, some (some 72), some (some 73), none, none, none])) : BS) = _
        decide +kernel
    · exact ((uB_ne (by decide)).trans ((uB_ne (by decide)).trans ((uB_ne (by decide)).trans ((uB_ne (by decide)).trans ((uB_ne (by decide)).trans ((uB_ne (by decide)).trans ((uB_ne (by decide)).trans ((uB_ne (by decide)).trans ((uB_ne (by decide)).trans ((uB_ne (by decide)).trans ((uB_ne (by decide)).trans ((uB_ne (by decide)).trans ((uB_ne (by decide)).trans ((uB_ne (by decide)).trans ((uB_ne (by decide)).trans ((uB_ne (by decide)).trans ((uB_ne (by decide)).trans ((uB_ne (by decide)).trans ((uB_ne (by decide)).trans ((uB_ne (by decide)).trans ((uB_ne (by decide)).trans ((uB_ne (by decide)).trans ((uB_ne (by decide)).trans ((uB_ne (by decide)).trans ((uB_ne (by decide)).trans ((uB_ne (by decide)).trans ((uB_ne (by decide)).trans ((uB_ne (by decide)).trans ((uB_ne (by decide)).trans ((uB_ne (by decide)).trans ((uB_ne (by decide)).trans ((uB_ne (by decide)).trans ((uB_ne (by decide)).trans ((uB_ne (by decide)).trans (uB_eq))))))))))))))))))))))))))))))))))).trans (Prod.ext rfl (show (.inl 4 : BS) = _ by decide +kernel))
    · exact ((uB_ne (by decide)).trans ((uB_ne (by decide)).trans ((uB_ne (by decide)).trans ((uB_ne (by decide)).trans ((uB_ne (by decide)).trans ((uB_ne (by decide)).trans ((uB_ne (by decide)).trans ((uB_ne (by decide)).trans ((uB_ne (by decide)).trans ((uB_ne (by decide)).trans ((uB_ne (by decide)).trans ((uB_ne (by decide)).trans ((uB_ne (by decide)).trans ((uB_ne (by decide)).trans ((uB_ne (by decide)).trans ((uB_ne (by decide)).trans ((uB_ne (by decide)).trans ((uB_ne (by decide)).trans ((uB_ne (by decide)).trans ((uB_ne (by decide)).trans ((uB_ne (by decide)).trans ((uB_ne (by decide)).trans ((uB_ne (by decide)).trans ((uB_ne (by decide)).trans ((uB_ne (by decide)).trans ((uB_ne (by decide)).trans ((uB_ne (by decide)).trans ((uB_ne (by decide)).trans ((uB_ne (by decide)).trans ((uB_ne (by decide)).trans ((uB_ne (by decide)).trans ((uB_ne (by decide)).trans (uB_eq))))))))))))))))))))))))))))))))).trans (Prod.ext rfl (show (.inl 4 : BS) = _ by decide +kernel))
    · exact ((uB_ne (by decide)).trans ((uB_ne (by decide)).trans ((uB_ne (by decide)).trans ((uB_ne (by decide)).trans ((uB_ne (by decide)).trans ((uB_ne (by decide)).trans ((uB_ne (by decide)).trans ((uB_ne (by decide)).trans ((uB_ne (by decide)).trans ((uB_ne (by decide)).trans ((uB_ne (by decide)).trans ((uB_ne (by decide)).trans ((uB_ne (by decide)).trans ((uB_ne (by decide)).trans ((uB_ne (by decide)).trans ((uB_ne (by decide)).trans ((uB_ne (by decide)).trans ((uB_ne (by decide)).trans ((uB_ne (by decide)).trans ((uB_ne (by decide)).trans ((uB_ne (by decide)).trans ((uB_ne (by decide)).trans ((uB_ne (by decide)).trans ((uB_ne (by decide)).trans ((uB_ne (by decide)).trans ((uB_ne (by decide)).trans ((uB_ne (by decide)).trans ((uB_ne (by decide)).trans ((uB_ne (by decide)).trans ((uB_ne (by decide)).trans (uB_eq))))))))))))))))))))))))))))))).trans (Prod.ext rfl (show (.inl 4 : BS) = _ by decide +kernel))
    · exact ((uB_ne (by decide)).trans ((uB_ne (by decide)).trans ((uB_ne (by decide)).trans ((uB_ne (by decide)).trans ((uB_ne (by decide)).trans ((uB_ne (by decide)).trans ((uB_ne (by decide)).trans ((uB_ne (by decide)).trans ((uB_ne (by decide)).trans ((uB_ne (by decide)).trans ((uB_ne (by decide)).trans ((uB_ne (by decide)).trans ((uB_ne (by decide)).trans ((uB_ne (by decide)).trans ((uB_ne (by decide)).trans ((uB_ne (by decide)).trans ((uB_ne (by decide)).trans ((uB_ne (by decide)).trans ((uB_ne (by decide)).trans ((uB_ne (by decide)).trans ((uB_ne (by decide)).trans ((uB_ne (by decide)).trans ((uB_ne (by decide)).trans ((uB_ne (by decide)).trans ((uB_ne (by decide)).trans ((uB_ne (by decide)).trans ((uB_ne (by decide)).trans ((uB_ne (by decide)).trans (uB_eq))))))))))))))))))))))))))))).trans (Prod.ext rfl (show (.inl 4 : BS) = _ by decide +kernel))
    · exact ((uB_ne (by decide)).trans ((uB_ne (by decide)).trans ((uB_ne (by decide)).trans ((uB_ne (by decide)).trans ((uB_ne (by decide)).trans ((uB_ne (by decide)).trans ((uB_ne (by decide)).trans ((uB_ne (by decide)).trans ((uB_ne (by decide)).trans ((uB_ne (by decide)).trans ((uB_ne (by decide)).trans ((uB_ne (by decide)).trans ((uB_ne (by decide)).trans ((uB_ne (by decide)).trans ((uB_ne (by decide)).trans ((uB_ne (by decide)).trans ((uB_ne (by decide)).trans ((uB_ne (by decide)).trans ((uB_ne (by decide)).trans ((uB_ne (by decide)).trans ((uB_ne (by decide)).trans ((uB_ne (by decide)).trans ((uB_ne (by decide)).trans ((uB_ne (by decide)).trans ((uB_ne (by decide)).trans ((uB_ne (by decide)).trans (uB_eq))))))))))))))))))))))))))).trans (Prod.ext rfl (show (.inl 4 : BS) = _ by decide +kernel))
    · exact ((uB_ne (by decide)).trans ((uB_ne (by decide)).trans ((uB_ne (by decide)).trans ((uB_ne (by decide)).trans ((uB_ne (by decide)).trans ((uB_ne (by decide)).trans ((uB_ne (by decide)).trans ((uB_ne (by decide)).trans ((uB_ne (by decide)).trans ((uB_ne (by decide)).trans ((uB_ne (by decide)).trans ((uB_ne (by decide)).trans ((uB_ne (by decide)).trans ((uB_ne (by decide)).trans ((uB_ne (by decide)).trans ((uB_ne (by decide)).trans ((uB_ne (by decide)).trans ((uB_ne (by decide)).trans ((uB_ne (by decide)).trans ((uB_ne (by decide)).trans ((uB_ne (by decide)).trans ((uB_ne (by decide)).trans ((uB_ne (by decide)).trans ((uB_ne (by decide)).trans (uB_eq))))))))))))))))))))))))).trans (Prod.ext rfl (show (.inl 24 : BS) = _ by decide +kernel))
    · exact ((uB_ne (by decide)).trans ((uB_ne (by decide)).trans ((uB_ne (by decide)).trans ((uB_ne (by decide)).trans ((uB_ne (by decide)).trans ((uB_ne (by decide)).trans ((uB_ne (by decide)).trans ((uB_ne (by decide)).trans ((uB_ne (by decide)).trans ((uB_ne (by decide)).trans ((uB_ne (by decide)).trans ((uB_ne (by decide)).trans ((uB_ne (by decide)).trans ((uB_ne (by decide)).trans ((uB_ne (by decide)).trans ((uB_ne (by decide)).trans ((uB_ne (by decide)).trans ((uB_ne (by decide)).trans ((uB_ne (by decide)).trans ((uB_ne (by decide)).trans ((uB_ne (by decide)).trans ((uB_ne (by decide)).trans (uB_eq))))))))))))))))))))))).trans (Prod.ext rfl (show (.inl 24 : BS) = _ by decide +kernel))
    · exact ((uB_ne (by decide)).trans ((uB_ne (by decide)).trans ((uB_ne (by decide)).trans ((uB_ne (by decide)).trans ((uB_ne (by decide)).trans ((uB_ne (by decide)).trans ((uB_ne (by decide)).trans ((uB_ne (by decide)).trans ((uB_ne (by decide)).trans ((uB_ne (by decide)).trans ((uB_ne (by decide)).trans ((uB_ne (by decide)).trans ((uB_ne (by decide)).trans ((uB_ne (by decide)).trans ((uB_ne (by decide)).trans ((uB_ne (by decide)).trans ((uB_ne (by decide)).trans ((uB_ne (by decide)).trans ((uB_ne (by decide)).trans ((uB_ne (by decide)).trans (uB_eq))))))))))))))))))))).trans (Prod.ext rfl (show (.inl 24 : BS) = _ by decide +kernel))
    · exact ((uB_ne (by decide)).trans ((uB_ne (by decide)).trans ((uB_ne (by decide)).trans ((uB_ne (by decide)).trans ((uB_ne (by decide)).trans ((uB_ne (by decide)).trans ((uB_ne (by decide)).trans ((uB_ne (by decide)).trans ((uB_ne (by decide)).trans ((uB_ne (by decide)).trans ((uB_ne (by decide)).trans ((uB_ne (by decide)).trans ((uB_ne (by decide)).trans ((uB_ne (by decide)).trans ((uB_ne (by decide)).trans ((uB_ne (by decide)).trans ((uB_ne (by decide)).trans ((uB_ne (by decide)).trans (uB_eq))))))))))))))))))).trans (Prod.ext rfl (show (.inl 24 : BS) = _ by decide +kernel))
    · exact ((uB_ne (by decide)).trans ((uB_ne (by decide)).trans ((uB_ne (by decide)).trans ((uB_ne (by decide)).trans ((uB_ne (by decide)).trans ((uB_ne (by decide)).trans ((uB_ne (by decide)).trans ((uB_ne (by decide)).trans ((uB_ne (by decide)).trans ((uB_ne (by decide)).trans ((uB_ne (by decide)).trans ((uB_ne (by decide)).trans ((uB_ne (by decide)).trans ((uB_ne (by decide)).trans ((uB_ne (by decide)).trans ((uB_ne (by decide)).trans (uB_eq))))))))))))))))).trans (Prod.ext rfl (show (.inl 12 : BS) = _ by decide +kernel))
    · exact ((uB_ne (by decide)).trans ((uB_ne (by decide)).trans ((uB_ne (by decide)).trans ((uB_ne (by decide)).trans ((uB_ne (by decide)).trans ((uB_ne (by decide)).trans ((uB_ne (by decide)).trans ((uB_ne (by decide)).trans ((uB_ne (by decide)).trans ((uB_ne (by decide)).trans ((uB_ne (by decide)).trans ((uB_ne (by decide)).trans ((uB_ne (by decide)).trans ((uB_ne (by decide)).trans (uB_eq))))))))))))))).trans (Prod.ext rfl (show (.inl 12 : BS) = _ by decide +kernel))
    · exact ((uB_ne (by decide)).trans ((uB_ne (by decide)).trans ((uB_ne (by decide)).trans ((uB_ne (by decide)).trans ((uB_ne (by decide)).trans ((uB_ne (by decide)).trans ((uB_ne (by decide)).trans ((uB_ne (by decide)).trans ((uB_ne (by decide)).trans ((uB_ne (by decide)).trans ((uB_ne (by decide)).trans ((uB_ne (by decide)).trans (uB_eq))))))))))))).trans (Prod.ext rfl (show (.inl 100 : BS) = _ by decide +kernel))
    · exact ((uB_ne (by decide)).trans ((uB_ne (by decide)).trans ((uB_ne (by decide)).trans ((uB_ne (by decide)).trans ((uB_ne (by decide)).trans ((uB_ne (by decide)).trans ((uB_ne (by decide)).trans ((uB_ne (by decide)).trans ((uB_ne (by decide)).trans ((uB_ne (by decide)).trans (uB_eq))))))))))).trans (Prod.ext rfl (show (.inl 26 : BS) = _ by decide +kernel))
    · exact ((uB_ne (by decide)).trans ((uB_ne (by decide)).trans ((uB_ne (by decide)).trans ((uB_ne (by decide)).trans ((uB_ne (by decide)).trans ((uB_ne (by decide)).trans ((uB_ne (by decide)).trans ((uB_ne (by decide)).trans (uB_eq))))))))).trans (Prod.ext rfl (show (.inl 26 : BS) = _ by decide +kernel))
    · exact ((uB_ne (by decide)).trans ((uB_ne (by decide)).trans ((uB_ne (by decide)).trans ((uB_ne (by decide)).trans ((uB_ne (by decide)).trans ((uB_ne (by decide)).trans (uB_eq))))))).trans (Prod.ext rfl (show (.inl 26 : BS) = _ by decide +kernel))
    · exact ((uB_ne (by decide)).trans ((uB_ne (by decide)).trans ((uB_ne (by decide)).trans ((uB_ne (by decide)).trans (uB_eq))))).trans (Prod.ext rfl (show (.inl 1000 : BS) = _ by decide +kernel))
    · exact ((uB_ne (by decide)).trans ((uB_ne (by decide)).trans (uB_eq))).trans (Prod.ext rfl (show (.inl 100 : BS) = _ by decide +kernel))
