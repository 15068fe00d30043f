def toBS (x : Sh) : BS := match x with
  | .inl n => .inl n
  | .inr (.inl (t, l)) => .inr (.inl (t, l.map some))
  | .inr (.inr (ci, fs)) => .inr (.inr (ci, fs.map (fun o => match o with
    | none => none
    | some r => some (some r))))
def sI (k : Nat) : Nat → Int := if k = 1 then (fun j => if j = 2 then 1 else 0) else if k = 50 then (fun j => if j = 2 then -1 else 0) else if k = 56 then zF else if k = 51 then rtF 0 else if k < 74 then zF else if (k - 74) % 11 = 2 then voI 12 else if 3 ≤ (k - 74) % 11 ∧ (k - 74) % 11 ≤ 6 then rtF (((k - 74) % 11 - 3 : Nat) : Int) else zF
def FIN (E : Nat → BE) (k : Nat) : Prop := E k = (sI k, toBS (shp k))
theorem mem_step {cs cs1 : List Nat} {b a c : Nat} (h : ∀ j, j ∈ cs1 ↔ j ∈ cs ∨ (b < j ∧ j ≤ a)) (hb : b ≤ a) (hc : c = a + 1) : ∀ j, j ∈ cs1 ++ [c] ↔ j ∈ cs ∨ (b < j ∧ j ≤ c) := by
  intro j
  rw [List.mem_append, List.mem_singleton, h j]
  constructor
  · rintro ((q | q) | q)
    · exact Or.inl q
    · exact Or.inr (by omega)
    · exact Or.inr (by omega)
  · rintro (q | q)
    · exact Or.inl (Or.inl q)
    · by_cases e : j = c
      · exact Or.inr e
      · exact Or.inl (Or.inr (by omega))
theorem mem_rows {cs cs1 : List Nat} {b a c n : Nat} (h : ∀ j, j ∈ cs1 ↔ j ∈ cs ∨ (b < j ∧ j ≤ a)) (hb : b ≤ a) (hc : c = a + 1) : ∀ j, j ∈ (cs1 ++ [c]) ++ (List.range n).map (fun i => c + 1 + i) ↔ j ∈ cs ∨ (b < j ∧ j ≤ c + n) := by
  intro j
  rw [List.mem_append, mem_step h hb hc j, List.mem_map]
  constructor
  · rintro ((q | q) | ⟨i, hi, q⟩)
    · exact Or.inl q
    · exact Or.inr (by omega)
    · have := List.mem_range.mp hi
      exact Or.inr (by omega)
  · rintro (q | q)
    · exact Or.inl (Or.inl q)
    · by_cases e : j ≤ c
      · exact Or.inl (Or.inr (by omega))
      · exact Or.inr ⟨j - c - 1, List.mem_range.mpr (by omega), by omega⟩
theorem mem_fresh {cs cs1 : List Nat} {b a c t : Nat} (hk : ∀ j, j ∈ cs → j ≤ b ∨ t < j) (h : ∀ j, j ∈ cs1 ↔ j ∈ cs ∨ (b < j ∧ j ≤ a)) (hc : b < c ∧ a < c ∧ c ≤ t) : c ∉ cs1 := fun q => by
  rcases (h c).mp q with q | q
  · have := hk c q; omega
  · omega
theorem mn_ne {E : Nat → BE} {k n mm j : Nat} (h : ¬ (k ≤ j ∧ j ≤ k + n)) : mnE E k n mm j = E j := by unfold mnE; rw [if_neg (by omega), if_neg (by omega)]
theorem mn_eq {E : Nat → BE} {k n mm : Nat} : mnE E k n mm k = ((fun _ => 0), .inr (.inl (3, (List.range n).map (fun i => some (k + 1 + i))))) := if_pos rfl
theorem mn_row {E : Nat → BE} {k n mm j : Nat} (h : k < j ∧ j ≤ k + n) : mnE E k n mm j = ((fun _ => 0), .inl mm) := by unfold mnE; rw [if_neg (by omega), if_pos h]
def mX6_init : MI := (yX6_init, cX6_init, 2, none, 1, 20)
theorem okX6_init : MOK mX6_init 1 := ⟨by decide +kernel, ⟨by decide +kernel, by decide +kernel⟩, by decide +kernel, tb_in 114 (by decide +kernel) (by decide +kernel), tb_in 23 (by decide +kernel) (by decide +kernel)⟩
theorem ivX6_init : Cond.instanceMethod mX6_init.1 ∈ tbG := tb_in 113 (by decide +kernel) (by decide +kernel)
theorem lo_X6 : Cond.methodLink mX6_init.1.cls 3 Lib.objectInit ∈ tbG := tb_in 115 (by decide +kernel) (by decide +kernel)
theorem cb_X6 (l : Launch) (G : GB) {cs : List Nat} {E : Nat → BE} (hE : E 40 = ((fun _ => 0), .inr (.inr (6, [some none, some none, some none, some none, none, some none, some none, some none, some none, some none, some none, none, none])))) (hk : ∀ j, j ∈ cs → j ≤ 40 ∨ 49 < j) : CB l G mX6_init [vR 40, vR 1] cs E 9 217 (fun (cs' : List Nat) (E' : Nat → BE) => (∀ j, j ∈ cs' ↔ j ∈ cs ∨ (40 < j ∧ j ≤ 49)) ∧ (∀ j, j < 40 ∨ 49 < j → E' j = E j) ∧ ∀ j, 40 ≤ j → j ≤ 49 → FIN E' j) := by
  intro ad0 A0
  generalize hQ : (fun (cs' : List Nat) (E' : Nat → BE) => (∀ j, j ∈ cs' ↔ j ∈ cs ∨ (40 < j ∧ j ≤ 49)) ∧ (∀ j, j < 40 ∨ 49 < j → E' j = E j) ∧ ∀ j, 40 ≤ j → j ≤ 49 → FIN E' j) = Q
  have c0 : ∀ j, j ∈ cs ↔ j ∈ cs ∨ (40 < j ∧ j ≤ 40) := fun j => ⟨Or.inl, fun h => by rcases h with h | h; exact h; omega⟩
  refine b_aload_n 0 dX6_init_0 rfl rfl ?_
  refine b_oinit dX6_init_1 lo_X6 ob_w ⟨by decide, by decide⟩ ?_
  refine b_aload_n 0 dX6_init_4 rfl rfl ?_
  refine b_bipush dX6_init_5 (by decide) (by decide) ?_
  refine b_newa (k := 41) (n := 24) (rc := 8) (rs := 193) rfl dX6_init_7 ai_w (by decide) (FS_fin (fun j hj => (c0 j).mpr (Or.inl hj))) (mem_fresh hk c0 (by decide)) ?_
  have c1 := mem_step c0 (by decide) (show 41 = 40 + 1 from rfl)
  refine b_put0 (j := 0) (k := 40) dX6_init_9 ((uB_ne (by decide)).trans (hE)) (Nat.le_of_ble_eq_true rfl) kc_6 (by decide) lf_X6_9 (Or.inr ⟨rfl, rfl, rfl⟩) rfl (fun _ => rfl) (fun _ => rfl) ?_
  refine b_aload_n 0 dX6_init_12 rfl rfl ?_
  refine b_bipush dX6_init_13 (by decide) (by decide) ?_
  refine b_newa (k := 42) (n := 24) (rc := 7) (rs := 169) rfl dX6_init_15 ai_w (by decide) (FS_fin (fun j hj => (c1 j).mpr (Or.inl hj))) (mem_fresh hk c1 (by decide)) ?_
  have c2 := mem_step c1 (by decide) (show 42 = 41 + 1 from rfl)
  refine b_put0 (j := 1) (k := 40) dX6_init_17 ((uB_ne (by decide)).trans (uB_eq)) (Nat.le_of_ble_eq_true rfl) kc_6 (by decide) lf_X6_15 (Or.inr ⟨rfl, rfl, rfl⟩) rfl (fun _ => rfl) (fun _ => rfl) ?_
  refine b_aload_n 0 dX6_init_20 rfl rfl ?_
  refine b_bipush dX6_init_21 (by decide) (by decide) ?_
  refine b_newa (k := 43) (n := 24) (rc := 6) (rs := 145) rfl dX6_init_23 ai_w (by decide) (FS_fin (fun j hj => (c2 j).mpr (Or.inl hj))) (mem_fresh hk c2 (by decide)) ?_
  have c3 := mem_step c2 (by decide) (show 43 = 42 + 1 from rfl)
  refine b_put0 (j := 2) (k := 40) dX6_init_25 ((uB_ne (by decide)).trans (uB_eq)) (Nat.le_of_ble_eq_true rfl) kc_6 (by decide) lf_X6_18 (Or.inr ⟨rfl, rfl, rfl⟩) rfl (fun _ => rfl) (fun _ => rfl) ?_
  refine b_aload_n 0 dX6_init_28 rfl rfl ?_
  refine b_bipush dX6_init_29 (by decide) (by decide) ?_
  refine b_newa (k := 44) (n := 25) (rc := 5) (rs := 120) rfl dX6_init_31 ai_w (by decide) (FS_fin (fun j hj => (c3 j).mpr (Or.inl hj))) (mem_fresh hk c3 (by decide)) ?_
  have c4 := mem_step c3 (by decide) (show 44 = 43 + 1 from rfl)
  refine b_put0 (j := 3) (k := 40) dX6_init_33 ((uB_ne (by decide)).trans (uB_eq)) (Nat.le_of_ble_eq_true rfl) kc_6 (by decide) lf_X6_21 (Or.inr ⟨rfl, rfl, rfl⟩) rfl (fun _ => rfl) (fun _ => rfl) ?_
  refine b_aload_n 0 dX6_init_36 rfl rfl ?_
  refine b_iconst dX6_init_37 (by decide) ?_
  refine b_put0 (j := 4) (k := 40) dX6_init_38 (uB_eq) (Nat.le_of_ble_eq_true rfl) kc_6 (by decide) lf_X6_24 (Or.inl rfl) rfl (fun _ => rfl) (fun _ => rfl) ?_
  refine b_aload_n 0 dX6_init_41 rfl rfl ?_
  refine b_bipush dX6_init_42 (by decide) (by decide) ?_
  refine b_newa (k := 45) (n := 24) (rc := 4) (rs := 96) rfl dX6_init_44 ai_w (by decide) (FS_fin (fun j hj => (c4 j).mpr (Or.inl hj))) (mem_fresh hk c4 (by decide)) ?_
  have c5 := mem_step c4 (by decide) (show 45 = 44 + 1 from rfl)
  refine b_put0 (j := 6) (k := 40) dX6_init_46 ((uB_ne (by decide)).trans (uB_eq)) (Nat.le_of_ble_eq_true rfl) kc_6 (by decide) lf_X6_28 (Or.inr ⟨rfl, rfl, rfl⟩) rfl (fun _ => rfl) (fun _ => rfl) ?_
  refine b_aload_n 0 dX6_init_49 rfl rfl ?_
  refine b_bipush dX6_init_50 (by decide) (by decide) ?_
  refine b_newa (k := 46) (n := 24) (rc := 3) (rs := 72) rfl dX6_init_52 ai_w (by decide) (FS_fin (fun j hj => (c5 j).mpr (Or.inl hj))) (mem_fresh hk c5 (by decide)) ?_
  have c6 := mem_step c5 (by decide) (show 46 = 45 + 1 from rfl)
  refine b_put0 (j := 7) (k := 40) dX6_init_54 ((uB_ne (by decide)).trans (uB_eq)) (Nat.le_of_ble_eq_true rfl) kc_6 (by decide) lf_X6_31 (Or.inr ⟨rfl, rfl, rfl⟩) rfl (fun _ => rfl) (fun _ => rfl) ?_
  refine b_aload_n 0 dX6_init_57 rfl rfl ?_
  refine b_bipush dX6_init_58 (by decide) (by decide) ?_
  refine b_newa (k := 47) (n := 24) (rc := 2) (rs := 48) rfl dX6_init_60 ai_w (by decide) (FS_fin (fun j hj => (c6 j).mpr (Or.inl hj))) (mem_fresh hk c6 (by decide)) ?_
  have c7 := mem_step c6 (by decide) (show 47 = 46 + 1 from rfl)
  refine b_put0 (j := 8) (k := 40) dX6_init_62 ((uB_ne (by decide)).trans (uB_eq)) (Nat.le_of_ble_eq_true rfl) kc_6 (by decide) lf_X6_34 (Or.inr ⟨rfl, rfl, rfl⟩) rfl (fun _ => rfl) (fun _ => rfl) ?_
  refine b_aload_n 0 dX6_init_65 rfl rfl ?_
  refine b_bipush dX6_init_66 (by decide) (by decide) ?_
  refine b_newa (k := 48) (n := 24) (rc := 1) (rs := 24) rfl dX6_init_68 ai_w (by decide) (FS_fin (fun j hj => (c7 j).mpr (Or.inl hj))) (mem_fresh hk c7 (by decide)) ?_
  have c8 := mem_step c7 (by decide) (show 48 = 47 + 1 from rfl)
  refine b_put0 (j := 9) (k := 40) dX6_init_70 ((uB_ne (by decide)).trans (uB_eq)) (Nat.le_of_ble_eq_true rfl) kc_6 (by decide) lf_X6_37 (Or.inr ⟨rfl, rfl, rfl⟩) rfl (fun _ => rfl) (fun _ => rfl) ?_
  refine b_aload_n 0 dX6_init_73 rfl rfl ?_
  refine b_bipush dX6_init_74 (by decide) (by decide) ?_
  refine b_newa (k := 49) (n := 24) (rc := 0) (rs := 0) rfl dX6_init_76 ai_w (by decide) (FS_fin (fun j hj => (c8 j).mpr (Or.inl hj))) (mem_fresh hk c8 (by decide)) ?_
  have c9 := mem_step c8 (by decide) (show 49 = 48 + 1 from rfl)
  refine b_put0 (j := 10) (k := 40) dX6_init_78 ((uB_ne (by decide)).trans (uB_eq)) (Nat.le_of_ble_eq_true rfl) kc_6 (by decide) lf_X6_40 (Or.inr ⟨rfl, rfl, rfl⟩) rfl (fun _ => rfl) (fun _ => rfl) ?_
  refine b_aload_n 0 dX6_init_81 rfl rfl ?_
  refine b_iconst dX6_init_82 (by decide) ?_
  refine b_put0 (j := 11) (k := 40) dX6_init_83 (uB_eq) (Nat.le_of_ble_eq_true rfl) kc_6 (by decide) lf_X6_43 (Or.inl rfl) rfl (fun _ => rfl) (fun _ => rfl) ?_
  refine b_aload_n 0 dX6_init_86 rfl rfl ?_
  refine b_iconst dX6_init_87 (by decide) ?_
  refine b_put0 (j := 12) (k := 40) dX6_init_88 (uB_eq) (Nat.le_of_ble_eq_true rfl) kc_6 (by decide) lf_X6_46 (Or.inl rfl) rfl (fun _ => rfl) (fun _ => rfl) ?_
  refine b_aload_n 0 dX6_init_91 rfl rfl ?_
  refine b_aload_n 1 dX6_init_92 rfl rfl ?_
  refine b_put0 (j := 5) (k := 40) dX6_init_93 (uB_eq) (Nat.le_of_ble_eq_true rfl) kc_6 (by decide) lf_X6_49 (Or.inr ⟨rfl, rfl, rfl⟩) rfl (fun _ => rfl) (fun _ => rfl) ?_
  refine b_ret dX6_init_96 ?_ (fun j hj => (c9 j).mpr (Or.inl hj))
  rw [← hQ]
  refine ⟨c9, fun j hj => ?_, fun j h1 h2 => ?_⟩
  · rw [uB_ne (by omega), uB_ne (by omega), uB_ne (by omega), uB_ne (by omega), uB_ne (by omega), uB_ne (by omega), uB_ne (by omega), uB_ne (by omega), uB_ne (by omega), uB_ne (by omega), uB_ne (by omega), uB_ne (by omega), uB_ne (by omega), uB_ne (by omega), uB_ne (by omega), uB_ne (by omega), uB_ne (by omega), uB_ne (by omega), uB_ne (by omega), uB_ne (by omega), uB_ne (by omega), uB_ne (by omega)]
  · rcases (show j = 40 ∨ j = 41 ∨ j = 42 ∨ j = 43 ∨ j = 44 ∨ j = 45 ∨ j = 46 ∨ j = 47 ∨ j = 48 ∨ j = 49 by omega) with rfl | rfl | rfl | rfl | rfl | rfl | rfl | rfl | rfl | rfl
    · refine (uB_eq).trans (Prod.ext ?_ ?_)
      · funext j
        show _ = (0 : Int)
        simp only [pBf, uB]
        all_goals ((repeat' split) <;> first | rfl | omega)
      · show (.inr (.inr (6, [some (some 41), some (some 42), some (some 43), some (some 44), none, some (some 1), some (some 45), some (some 46), some (some 47), some (some 48), some (some 49), none, none])) : BS) = _
        decide +kernel
    · exact ((uB_ne (by decide)).trans ((uB_ne (by decide)).trans ((uB_ne (by decide)).trans ((uB_ne (by decide)).trans ((uB_ne (by decide)).trans ((uB_ne (by decide)).trans ((uB_ne (by decide)).trans ((uB_ne (by decide)).trans ((uB_ne (by decide)).trans ((uB_ne (by decide)).trans ((uB_ne (by decide)).trans ((uB_ne (by decide)).trans ((uB_ne (by decide)).trans ((uB_ne (by decide)).trans ((uB_ne (by decide)).trans ((uB_ne (by decide)).trans ((uB_ne (by decide)).trans ((uB_ne (by decide)).trans ((uB_ne (by decide)).trans ((uB_ne (by decide)).trans ((uB_ne (by decide)).trans (uB_eq)))))))))))))))))))))).trans (Prod.ext rfl (show (.inl 24 : BS) = _ by decide +kernel))
    · exact ((uB_ne (by decide)).trans ((uB_ne (by decide)).trans ((uB_ne (by decide)).trans ((uB_ne (by decide)).trans ((uB_ne (by decide)).trans ((uB_ne (by decide)).trans ((uB_ne (by decide)).trans ((uB_ne (by decide)).trans ((uB_ne (by decide)).trans ((uB_ne (by decide)).trans ((uB_ne (by decide)).trans ((uB_ne (by decide)).trans ((uB_ne (by decide)).trans ((uB_ne (by decide)).trans ((uB_ne (by decide)).trans ((uB_ne (by decide)).trans ((uB_ne (by decide)).trans ((uB_ne (by decide)).trans ((uB_ne (by decide)).trans (uB_eq)))))))))))))))))))).trans (Prod.ext rfl (show (.inl 24 : BS) = _ by decide +kernel))
    · exact ((uB_ne (by decide)).trans ((uB_ne (by decide)).trans ((uB_ne (by decide)).trans ((uB_ne (by decide)).trans ((uB_ne (by decide)).trans ((uB_ne (by decide)).trans ((uB_ne (by decide)).trans ((uB_ne (by decide)).trans ((uB_ne (by decide)).trans ((uB_ne (by decide)).trans ((uB_ne (by decide)).trans ((uB_ne (by decide)).trans ((uB_ne (by decide)).trans ((uB_ne (by decide)).trans ((uB_ne (by decide)).trans ((uB_ne (by decide)).trans ((uB_ne (by decide)).trans (uB_eq)))))))))))))))))).trans (Prod.ext rfl (show (.inl 24 : BS) = _ by decide +kernel))
    · exact ((uB_ne (by decide)).trans ((uB_ne (by decide)).trans ((uB_ne (by decide)).trans ((uB_ne (by decide)).trans ((uB_ne (by decide)).trans ((uB_ne (by decide)).trans ((uB_ne (by decide)).trans ((uB_ne (by decide)).trans ((uB_ne (by decide)).trans ((uB_ne (by decide)).trans ((uB_ne (by decide)).trans ((uB_ne (by decide)).trans ((uB_ne (by decide)).trans ((uB_ne (by decide)).trans ((uB_ne (by decide)).trans (uB_eq)))))))))))))))).trans (Prod.ext rfl (show (.inl 25 : BS) = _ by decide +kernel))
    · exact ((uB_ne (by decide)).trans ((uB_ne (by decide)).trans ((uB_ne (by decide)).trans ((uB_ne (by decide)).trans ((uB_ne (by decide)).trans ((uB_ne (by decide)).trans ((uB_ne (by decide)).trans ((uB_ne (by decide)).trans ((uB_ne (by decide)).trans ((uB_ne (by decide)).trans ((uB_ne (by decide)).trans ((uB_ne (by decide)).trans (uB_eq))))))))))))).trans (Prod.ext rfl (show (.inl 24 : BS) = _ by decide +kernel))
    · exact ((uB_ne (by decide)).trans ((uB_ne (by decide)).trans ((uB_ne (by decide)).trans ((uB_ne (by decide)).trans ((uB_ne (by decide)).trans ((uB_ne (by decide)).trans ((uB_ne (by decide)).trans ((uB_ne (by decide)).trans ((uB_ne (by decide)).trans ((uB_ne (by decide)).trans (uB_eq))))))))))).trans (Prod.ext rfl (show (.inl 24 : BS) = _ by decide +kernel))
    · exact ((uB_ne (by decide)).trans ((uB_ne (by decide)).trans ((uB_ne (by decide)).trans ((uB_ne (by decide)).trans ((uB_ne (by decide)).trans ((uB_ne (by decide)).trans ((uB_ne (by decide)).trans ((uB_ne (by decide)).trans (uB_eq))))))))).trans (Prod.ext rfl (show (.inl 24 : BS) = _ by decide +kernel))
    · exact ((uB_ne (by decide)).trans ((uB_ne (by decide)).trans ((uB_ne (by decide)).trans ((uB_ne (by decide)).trans ((uB_ne (by decide)).trans ((uB_ne (by decide)).trans (uB_eq))))))).trans (Prod.ext rfl (show (.inl 24 : BS) = _ by decide +kernel))
    · exact ((uB_ne (by decide)).trans ((uB_ne (by decide)).trans ((uB_ne (by decide)).trans ((uB_ne (by decide)).trans (uB_eq))))).trans (Prod.ext rfl (show (.inl 24 : BS) = _ by decide +kernel))
def mX4_init : MI := (yX4_init, cX4_init, 1, none, 1, 20)
theorem okX4_init : MOK mX4_init 0 := ⟨by decide +kernel, ⟨by decide +kernel, by decide +kernel⟩, by decide +kernel, tb_in 43 (by decide +kernel) (by decide +kernel), tb_in 22 (by decide +kernel) (by decide +kernel)⟩
theorem ivX4_init : Cond.instanceMethod mX4_init.1 ∈ tbG := tb_in 42 (by decide +kernel) (by decide +kernel)
theorem lo_X4 : Cond.methodLink mX4_init.1.cls 3 Lib.objectInit ∈ tbG := tb_in 44 (by decide +kernel) (by decide +kernel)
theorem cl_X4_49 : Cond.classLink mX4_init.1.cls 49 ("[" ++ (FieldType.array .int).toString) ∈ tbG := tb_in 45 (by decide +kernel) (by decide +kernel)
theorem lf_X4_15 : Cond.fieldLink "SharedRides$Problem" 15 "SharedRides$Problem" "requests" "I" ∈ tbG := tb_in 50 (by decide +kernel) (by decide +kernel)
theorem lf_X4_18 : Cond.fieldLink "SharedRides$Problem" 18 "SharedRides$Problem" "service" "I" ∈ tbG := tb_in 53 (by decide +kernel) (by decide +kernel)
theorem lf_X4_21 : Cond.fieldLink "SharedRides$Problem" 21 "SharedRides$Problem" "capacity" "[I" ∈ tbG := tb_in 56 (by decide +kernel) (by decide +kernel)
theorem lf_X4_25 : Cond.fieldLink "SharedRides$Problem" 25 "SharedRides$Problem" "shiftFirst" "[I" ∈ tbG := tb_in 59 (by decide +kernel) (by decide +kernel)
theorem lf_X4_28 : Cond.fieldLink "SharedRides$Problem" 28 "SharedRides$Problem" "shiftLast" "[I" ∈ tbG := tb_in 62 (by decide +kernel) (by decide +kernel)
theorem lf_X4_31 : Cond.fieldLink "SharedRides$Problem" 31 "SharedRides$Problem" "limit" "[I" ∈ tbG := tb_in 65 (by decide +kernel) (by decide +kernel)
theorem cb_X4 (l : Launch) (G : GB) {cs : List Nat} {E : Nat → BE} (hE : E 1 = ((fun _ => 0), .inr (.inr (4, [none, none, none, some none, some none, some none, some none, some none, some none, some none, some none, some none, some none])))) (hk : ∀ j, j ∈ cs → j ≤ 1 ∨ 39 < j) : CB l G mX4_init [vR 1] cs E 38 964 (fun (cs' : List Nat) (E' : Nat → BE) => (∀ j, j ∈ cs' ↔ j ∈ cs ∨ (1 < j ∧ j ≤ 39)) ∧ (∀ j, j < 1 ∨ 39 < j → E' j = E j) ∧ ∀ j, 1 ≤ j → j ≤ 39 → FIN E' j) := by
  intro ad0 A0
  generalize hQ : (fun (cs' : List Nat) (E' : Nat → BE) => (∀ j, j ∈ cs' ↔ j ∈ cs ∨ (1 < j ∧ j ≤ 39)) ∧ (∀ j, j < 1 ∨ 39 < j → E' j = E j) ∧ ∀ j, 1 ≤ j → j ≤ 39 → FIN E' j) = Q
  have c0 : ∀ j, j ∈ cs ↔ j ∈ cs ∨ (1 < j ∧ j ≤ 1) := fun j => ⟨Or.inl, fun h => by rcases h with h | h; exact h; omega⟩
  refine b_aload_n 0 dX4_init_0 rfl rfl ?_
  refine b_oinit dX4_init_1 lo_X4 ob_w ⟨by decide, by decide⟩ ?_
  refine b_aload_n 0 dX4_init_4 rfl rfl ?_
  refine b_iconst dX4_init_5 (by decide) ?_
  refine b_put0 (j := 0) (k := 1) dX4_init_6 (hE) (Nat.le_of_ble_eq_true rfl) kc_4 (by decide) lf_X4_9 (Or.inl rfl) rfl (fun _ => rfl) (fun _ => rfl) ?_
  refine b_aload_n 0 dX4_init_9 rfl rfl ?_
  refine b_iconst dX4_init_10 (by decide) ?_
  refine b_put0 (j := 1) (k := 1) dX4_init_11 (uB_eq) (Nat.le_of_ble_eq_true rfl) kc_4 (by decide) lf_X4_15 (Or.inl rfl) rfl (fun _ => rfl) (fun _ => rfl) ?_
  refine b_aload_n 0 dX4_init_14 rfl rfl ?_
  refine b_iconst dX4_init_15 (by decide) ?_
  refine b_put0 (j := 2) (k := 1) dX4_init_16 (uB_eq) (Nat.le_of_ble_eq_true rfl) kc_4 (by decide) lf_X4_18 (Or.inl rfl) rfl (fun _ => rfl) (fun _ => rfl) ?_
  refine b_aload_n 0 dX4_init_19 rfl rfl ?_
  refine b_iconst dX4_init_20 (by decide) ?_
  refine b_newa (k := 2) (n := 4) (rc := 37) (rs := 960) rfl dX4_init_21 ai_w (by decide) (FS_fin (fun j hj => (c0 j).mpr (Or.inl hj))) (mem_fresh hk c0 (by decide)) ?_
  have c1 := mem_step c0 (by decide) (show 2 = 1 + 1 from rfl)
  refine b_put0 (j := 3) (k := 1) dX4_init_23 ((uB_ne (by decide)).trans (uB_eq)) (Nat.le_of_ble_eq_true rfl) kc_4 (by decide) lf_X4_21 (Or.inr ⟨rfl, rfl, rfl⟩) rfl (fun _ => rfl) (fun _ => rfl) ?_
  refine b_aload_n 0 dX4_init_26 rfl rfl ?_
  refine b_iconst dX4_init_27 (by decide) ?_
  refine b_newa (k := 3) (n := 4) (rc := 36) (rs := 956) rfl dX4_init_28 ai_w (by decide) (FS_fin (fun j hj => (c1 j).mpr (Or.inl hj))) (mem_fresh hk c1 (by decide)) ?_
  have c2 := mem_step c1 (by decide) (show 3 = 2 + 1 from rfl)
  refine b_put0 (j := 4) (k := 1) dX4_init_30 ((uB_ne (by decide)).trans (uB_eq)) (Nat.le_of_ble_eq_true rfl) kc_4 (by decide) lf_X4_25 (Or.inr ⟨rfl, rfl, rfl⟩) rfl (fun _ => rfl) (fun _ => rfl) ?_
  refine b_aload_n 0 dX4_init_33 rfl rfl ?_
  refine b_iconst dX4_init_34 (by decide) ?_
  refine b_newa (k := 4) (n := 4) (rc := 35) (rs := 952) rfl dX4_init_35 ai_w (by decide) (FS_fin (fun j hj => (c2 j).mpr (Or.inl hj))) (mem_fresh hk c2 (by decide)) ?_
  have c3 := mem_step c2 (by decide) (show 4 = 3 + 1 from rfl)
  refine b_put0 (j := 5) (k := 1) dX4_init_37 ((uB_ne (by decide)).trans (uB_eq)) (Nat.le_of_ble_eq_true rfl) kc_4 (by decide) lf_X4_28 (Or.inr ⟨rfl, rfl, rfl⟩) rfl (fun _ => rfl) (fun _ => rfl) ?_
  refine b_aload_n 0 dX4_init_40 rfl rfl ?_
  refine b_bipush dX4_init_41 (by decide) (by decide) ?_
  refine b_newa (k := 5) (n := 12) (rc := 34) (rs := 940) rfl dX4_init_43 ai_w (by decide) (FS_fin (fun j hj => (c3 j).mpr (Or.inl hj))) (mem_fresh hk c3 (by decide)) ?_
  have c4 := mem_step c3 (by decide) (show 5 = 4 + 1 from rfl)
  refine b_put0 (j := 6) (k := 1) dX4_init_45 ((uB_ne (by decide)).trans (uB_eq)) (Nat.le_of_ble_eq_true rfl) kc_4 (by decide) lf_X4_31 (Or.inr ⟨rfl, rfl, rfl⟩) rfl (fun _ => rfl) (fun _ => rfl) ?_
  refine b_aload_n 0 dX4_init_48 rfl rfl ?_
  refine b_bipush dX4_init_49 (by decide) (by decide) ?_
  refine b_newa (k := 6) (n := 24) (rc := 33) (rs := 916) rfl dX4_init_51 ai_w (by decide) (FS_fin (fun j hj => (c4 j).mpr (Or.inl hj))) (mem_fresh hk c4 (by decide)) ?_
  have c5 := mem_step c4 (by decide) (show 6 = 5 + 1 from rfl)
  refine b_put0 (j := 7) (k := 1) dX4_init_53 ((uB_ne (by decide)).trans (uB_eq)) (Nat.le_of_ble_eq_true rfl) kc_4 (by decide) lf_X4_34 (Or.inr ⟨rfl, rfl, rfl⟩) rfl (fun _ => rfl) (fun _ => rfl) ?_
  refine b_aload_n 0 dX4_init_56 rfl rfl ?_
  refine b_bipush dX4_init_57 (by decide) (by decide) ?_
  refine b_newa (k := 7) (n := 24) (rc := 32) (rs := 892) rfl dX4_init_59 ai_w (by decide) (FS_fin (fun j hj => (c5 j).mpr (Or.inl hj))) (mem_fresh hk c5 (by decide)) ?_
  have c6 := mem_step c5 (by decide) (show 7 = 6 + 1 from rfl)
  refine b_put0 (j := 8) (k := 1) dX4_init_61 ((uB_ne (by decide)).trans (uB_eq)) (Nat.le_of_ble_eq_true rfl) kc_4 (by decide) lf_X4_37 (Or.inr ⟨rfl, rfl, rfl⟩) rfl (fun _ => rfl) (fun _ => rfl) ?_
  refine b_aload_n 0 dX4_init_64 rfl rfl ?_
  refine b_bipush dX4_init_65 (by decide) (by decide) ?_
  refine b_newa (k := 8) (n := 24) (rc := 31) (rs := 868) rfl dX4_init_67 ai_w (by decide) (FS_fin (fun j hj => (c6 j).mpr (Or.inl hj))) (mem_fresh hk c6 (by decide)) ?_
  have c7 := mem_step c6 (by decide) (show 8 = 7 + 1 from rfl)
  refine b_put0 (j := 9) (k := 1) dX4_init_69 ((uB_ne (by decide)).trans (uB_eq)) (Nat.le_of_ble_eq_true rfl) kc_4 (by decide) lf_X4_40 (Or.inr ⟨rfl, rfl, rfl⟩) rfl (fun _ => rfl) (fun _ => rfl) ?_
  refine b_aload_n 0 dX4_init_72 rfl rfl ?_
  refine b_bipush dX4_init_73 (by decide) (by decide) ?_
  refine b_newa (k := 9) (n := 28) (rc := 30) (rs := 840) rfl dX4_init_75 ai_w (by decide) (FS_fin (fun j hj => (c7 j).mpr (Or.inl hj))) (mem_fresh hk c7 (by decide)) ?_
  have c8 := mem_step c7 (by decide) (show 9 = 8 + 1 from rfl)
  refine b_put0 (j := 10) (k := 1) dX4_init_77 ((uB_ne (by decide)).trans (uB_eq)) (Nat.le_of_ble_eq_true rfl) kc_4 (by decide) lf_X4_43 (Or.inr ⟨rfl, rfl, rfl⟩) rfl (fun _ => rfl) (fun _ => rfl) ?_
  refine b_aload_n 0 dX4_init_80 rfl rfl ?_
  refine b_bipush dX4_init_81 (by decide) (by decide) ?_
  refine b_newa (k := 10) (n := 28) (rc := 29) (rs := 812) rfl dX4_init_83 ai_w (by decide) (FS_fin (fun j hj => (c8 j).mpr (Or.inl hj))) (mem_fresh hk c8 (by decide)) ?_
  have c9 := mem_step c8 (by decide) (show 10 = 9 + 1 from rfl)
  refine b_put0 (j := 11) (k := 1) dX4_init_85 ((uB_ne (by decide)).trans (uB_eq)) (Nat.le_of_ble_eq_true rfl) kc_4 (by decide) lf_X4_46 (Or.inr ⟨rfl, rfl, rfl⟩) rfl (fun _ => rfl) (fun _ => rfl) ?_
  refine b_aload_n 0 dX4_init_88 rfl rfl ?_
  refine b_bipush dX4_init_89 (by decide) (by decide) ?_
  refine b_bipush dX4_init_91 (by decide) (by decide) ?_
  refine b_mna (k := 11) (n := 28) (mm := 28) (t0 := 0) (rc := 0) (rs := 0) rfl rfl dX4_init_93 cl_X4_49 ai_w (by decide) (by decide) rfl (FS_fin (fun j hj => (c9 j).mpr (Or.inl hj))) (fun j h1 h2 h => mem_fresh hk c9 (by omega) h) ?_
  have c10 := mem_rows c9 (by decide) (show 11 = 10 + 1 from rfl) (n := 28)
  refine b_put0 (j := 12) (k := 1) dX4_init_97 ((mn_ne (by decide)).trans (uB_eq)) (Nat.le_of_ble_eq_true rfl) kc_4 (by decide) lf_X4_51 (Or.inr ⟨rfl, rfl, rfl⟩) rfl (fun _ => rfl) (fun _ => rfl) ?_
  refine b_ret dX4_init_100 ?_ (fun j hj => (c10 j).mpr (Or.inl hj))
  rw [← hQ]
  refine ⟨c10, fun j hj => ?_, fun j h1 h2 => ?_⟩
  · rw [uB_ne (by omega), mn_ne (by omega), uB_ne (by omega), uB_ne (by omega), uB_ne (by omega), uB_ne (by omega), uB_ne (by omega), uB_ne (by omega), uB_ne (by omega), uB_ne (by omega), uB_ne (by omega), uB_ne (by omega), uB_ne (by omega), uB_ne (by omega), uB_ne (by omega), uB_ne (by omega), uB_ne (by omega), uB_ne (by omega), uB_ne (by omega), uB_ne (by omega), uB_ne (by omega), uB_ne (by omega), uB_ne (by omega)]
  · rcases (show (j = 1 ∨ j = 2 ∨ j = 3 ∨ j = 4 ∨ j = 5 ∨ j = 6 ∨ j = 7 ∨ j = 8 ∨ j = 9 ∨ j = 10) ∨ j = 11 ∨ (11 < j ∧ j ≤ 39) by omega) with (rfl | rfl | rfl | rfl | rfl | rfl | rfl | rfl | rfl | rfl) | rfl | hr
    · refine (uB_eq).trans (Prod.ext ?_ ?_)
      · funext j
        show _ = (if j = 2 then (1 : Int) else 0)
        simp only [pBf, uB]
        all_goals ((repeat' split) <;> first | rfl | omega)
      · show (.inr (.inr (4, [none, none, none, some (some 2), some (some 3), some (some 4), some (some 5), some (some 6), some (some 7), some (some 8), some (some 9), some (some 10), some (some 11)])) : BS) = _
        decide +kernel
    · exact ((uB_ne (by decide)).trans ((mn_ne (by decide)).trans ((uB_ne (by decide)).trans ((uB_ne (by decide)).trans ((uB_ne (by decide)).trans ((uB_ne (by decide)).trans ((uB_ne (by decide)).trans ((uB_ne (by decide)).trans ((uB_ne (by decide)).trans ((uB_ne (by decide)).trans ((uB_ne (by decide)).trans ((uB_ne (by decide)).trans ((uB_ne (by decide)).trans ((uB_ne (by decide)).trans ((uB_ne (by decide)).trans ((uB_ne (by decide)).trans ((uB_ne (by decide)).trans ((uB_ne (by decide)).trans ((uB_ne (by decide)).trans (uB_eq)))))))))))))))))))).trans (Prod.ext rfl (show (.inl 4 : BS) = _ by decide +kernel))
    · exact ((uB_ne (by decide)).trans ((mn_ne (by decide)).trans ((uB_ne (by decide)).trans ((uB_ne (by decide)).trans ((uB_ne (by decide)).trans ((uB_ne (by decide)).trans ((uB_ne (by decide)).trans ((uB_ne (by decide)).trans ((uB_ne (by decide)).trans ((uB_ne (by decide)).trans ((uB_ne (by decide)).trans ((uB_ne (by decide)).trans ((uB_ne (by decide)).trans ((uB_ne (by decide)).trans ((uB_ne (by decide)).trans ((uB_ne (by decide)).trans ((uB_ne (by decide)).trans (uB_eq)))))))))))))))))).trans (Prod.ext rfl (show (.inl 4 : BS) = _ by decide +kernel))
    · exact ((uB_ne (by decide)).trans ((mn_ne (by decide)).trans ((uB_ne (by decide)).trans ((uB_ne (by decide)).trans ((uB_ne (by decide)).trans ((uB_ne (by decide)).trans ((uB_ne (by decide)).trans ((uB_ne (by decide)).trans ((uB_ne (by decide)).trans ((uB_ne (by decide)).trans ((uB_ne (by decide)).trans ((uB_ne (by decide)).trans ((uB_ne (by decide)).trans ((uB_ne (by decide)).trans ((uB_ne (by decide)).trans (uB_eq)))))))))))))))).trans (Prod.ext rfl (show (.inl 4 : BS) = _ by decide +kernel))
    · exact ((uB_ne (by decide)).trans ((mn_ne (by decide)).trans ((uB_ne (by decide)).trans ((uB_ne (by decide)).trans ((uB_ne (by decide)).trans ((uB_ne (by decide)).trans ((uB_ne (by decide)).trans ((uB_ne (by decide)).trans ((uB_ne (by decide)).trans ((uB_ne (by decide)).trans ((uB_ne (by decide)).trans ((uB_ne (by decide)).trans ((uB_ne (by decide)).trans (uB_eq)))))))))))))).trans (Prod.ext rfl (show (.inl 12 : BS) = _ by decide +kernel))
    · exact ((uB_ne (by decide)).trans ((mn_ne (by decide)).trans ((uB_ne (by decide)).trans ((uB_ne (by decide)).trans ((uB_ne (by decide)).trans ((uB_ne (by decide)).trans ((uB_ne (by decide)).trans ((uB_ne (by decide)).trans ((uB_ne (by decide)).trans ((uB_ne (by decide)).trans ((uB_ne (by decide)).trans (uB_eq)))))))))))).trans (Prod.ext rfl (show (.inl 24 : BS) = _ by decide +kernel))
    · exact ((uB_ne (by decide)).trans ((mn_ne (by decide)).trans ((uB_ne (by decide)).trans ((uB_ne (by decide)).trans ((uB_ne (by decide)).trans ((uB_ne (by decide)).trans ((uB_ne (by decide)).trans ((uB_ne (by decide)).trans ((uB_ne (by decide)).trans (uB_eq)))))))))).trans (Prod.ext rfl (show (.inl 24 : BS) = _ by decide +kernel))
    · exact ((uB_ne (by decide)).trans ((mn_ne (by decide)).trans ((uB_ne (by decide)).trans ((uB_ne (by decide)).trans ((uB_ne (by decide)).trans ((uB_ne (by decide)).trans ((uB_ne (by decide)).trans (uB_eq)))))))).trans (Prod.ext rfl (show (.inl 24 : BS) = _ by decide +kernel))
    · exact ((uB_ne (by decide)).trans ((mn_ne (by decide)).trans ((uB_ne (by decide)).trans ((uB_ne (by decide)).trans ((uB_ne (by decide)).trans (uB_eq)))))).trans (Prod.ext rfl (show (.inl 28 : BS) = _ by decide +kernel))
    · exact ((uB_ne (by decide)).trans ((mn_ne (by decide)).trans ((uB_ne (by decide)).trans (uB_eq)))).trans (Prod.ext rfl (show (.inl 28 : BS) = _ by decide +kernel))
    · exact ((uB_ne (by decide)).trans (mn_eq)).trans (Prod.ext rfl (by decide +kernel))
    · have e : sI j = zF := by unfold sI; rw [if_neg (by omega), if_neg (by omega), if_neg (by omega), if_neg (by omega), if_pos (by omega)]
      have e2 : toBS (shp j) = (.inl 28 : BS) := by
        have h := List.all_eq_true.mp (show (List.range 40).all (fun j => decide (j ≤ 11) || decide (toBS (shp j) = (.inl 28 : BS))) = true by decide +kernel) j (List.mem_range.mpr (by omega))
        rw [Bool.or_eq_true, decide_eq_true_eq, decide_eq_true_eq] at h
        exact h.resolve_left (by omega)
      show _ = (sI j, toBS (shp j))
      rw [e, e2]
      exact ((uB_ne (by omega)).trans (mn_row (by omega))).trans rfl
