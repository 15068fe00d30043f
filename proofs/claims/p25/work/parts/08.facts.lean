theorem kc_0 : KC 0 RX0 TX0 3 := ⟨rfl, fun w h => List.mem_filter.mpr ⟨(show ∀ w ∈ wsX00, w ∈ lw_tbl by decide +kernel) w h, (show ∀ w ∈ wsX00, goodWord w = true by decide +kernel) w h⟩, ⟨tyX0, tyX0_ok⟩, nmX0⟩
theorem kc_1 : KC 1 RX1 TX1 8 := ⟨rfl, fun w h => List.mem_filter.mpr ⟨(show ∀ w ∈ wsX10, w ∈ lw_tbl by decide +kernel) w h, (show ∀ w ∈ wsX10, goodWord w = true by decide +kernel) w h⟩, ⟨tyX1, tyX1_ok⟩, nmX1⟩
theorem kc_2 : KC 2 RX2 TX2 10 := ⟨rfl, fun w h => List.mem_filter.mpr ⟨(show ∀ w ∈ wsX20, w ∈ lw_tbl by decide +kernel) w h, (show ∀ w ∈ wsX20, goodWord w = true by decide +kernel) w h⟩, ⟨tyX2, tyX2_ok⟩, nmX2⟩
theorem kc_3 : KC 3 RX3 TX3 2 := ⟨rfl, fun w h => List.mem_filter.mpr ⟨(show ∀ w ∈ wsX30, w ∈ lw_tbl by decide +kernel) w h, (show ∀ w ∈ wsX30, goodWord w = true by decide +kernel) w h⟩, ⟨tyX3, tyX3_ok⟩, nmX3⟩
theorem kc_4 : KC 4 RX4 TX4 13 := ⟨rfl, fun w h => List.mem_filter.mpr ⟨(show ∀ w ∈ wsX40, w ∈ lw_tbl by decide +kernel) w h, (show ∀ w ∈ wsX40, goodWord w = true by decide +kernel) w h⟩, ⟨tyX4, tyX4_ok⟩, nmX4⟩
theorem kc_5 : KC 5 RX5 TX5 4 := ⟨rfl, fun w h => List.mem_filter.mpr ⟨(show ∀ w ∈ wsX50, w ∈ lw_tbl by decide +kernel) w h, (show ∀ w ∈ wsX50, goodWord w = true by decide +kernel) w h⟩, ⟨tyX5, tyX5_ok⟩, nmX5⟩
theorem kc_6 : KC 6 RX6 TX6 13 := ⟨rfl, fun w h => List.mem_filter.mpr ⟨(show ∀ w ∈ wsX60, w ∈ lw_tbl by decide +kernel) w h, (show ∀ w ∈ wsX60, goodWord w = true by decide +kernel) w h⟩, ⟨tyX6, tyX6_ok⟩, nmX6⟩
theorem kc_7 : KC 7 RX7 TX7 6 := ⟨rfl, fun w h => List.mem_filter.mpr ⟨(show ∀ w ∈ wsX70, w ∈ lw_tbl by decide +kernel) w h, (show ∀ w ∈ wsX70, goodWord w = true by decide +kernel) w h⟩, ⟨tyX7, tyX7_ok⟩, nmX7⟩
theorem sh_0 : shp 0 = .inr (.inr (7, [some 1, some 74, some 53, some 40, some 50, some 52])) := by decide +kernel
theorem sh_1 : shp 1 = .inr (.inr (4, [none, none, none, some 2, some 3, some 4, some 5, some 6, some 7, some 8, some 9, some 10, some 11])) := by decide +kernel
theorem sh_2 : shp 2 = .inl 4 := by decide +kernel
theorem sh_3 : shp 3 = .inl 4 := by decide +kernel
theorem sh_4 : shp 4 = .inl 4 := by decide +kernel
theorem sh_5 : shp 5 = .inl 12 := by decide +kernel
theorem sh_6 : shp 6 = .inl 24 := by decide +kernel
theorem sh_7 : shp 7 = .inl 24 := by decide +kernel
theorem sh_8 : shp 8 = .inl 24 := by decide +kernel
theorem sh_9 : shp 9 = .inl 28 := by decide +kernel
theorem sh_10 : shp 10 = .inl 28 := by decide +kernel
theorem sh_11 : shp 11 = .inr (.inl (3, [12, 13, 14, 15, 16, 17, 18, 19, 20, 21, 22, 23, 24, 25, 26, 27, 28, 29, 30, 31, 32, 33, 34, 35, 36, 37, 38, 39])) := by decide +kernel
theorem sh_40 : shp 40 = .inr (.inr (6, [some 41, some 42, some 43, some 44, none, some 1, some 45, some 46, some 47, some 48, some 49, none, none])) := by decide +kernel
theorem sh_41 : shp 41 = .inl 24 := by decide +kernel
theorem sh_42 : shp 42 = .inl 24 := by decide +kernel
theorem sh_43 : shp 43 = .inl 24 := by decide +kernel
theorem sh_44 : shp 44 = .inl 25 := by decide +kernel
theorem sh_45 : shp 45 = .inl 24 := by decide +kernel
theorem sh_46 : shp 46 = .inl 24 := by decide +kernel
theorem sh_47 : shp 47 = .inl 24 := by decide +kernel
theorem sh_48 : shp 48 = .inl 24 := by decide +kernel
theorem sh_49 : shp 49 = .inl 24 := by decide +kernel
theorem sh_50 : shp 50 = .inr (.inr (1, [none, none, none, none, none, some 1, some 40, some 51])) := by decide +kernel
theorem sh_52 : shp 52 = .inr (.inr (2, [none, none, none, none, some 85, some 1, some 50, some 96, some 107, none])) := by decide +kernel
theorem sh_53 : shp 53 = .inr (.inr (0, [none, none, some 54])) := by decide +kernel
theorem sh_54 : shp 54 = .inr (.inl (2, [118, 129, 140, 151, 162, 173, 184, 195, 206, 217])) := by decide +kernel
theorem sh_55 : shp 55 = .inl 24 := by decide +kernel
theorem sh_56 : shp 56 = .inl 64 := by decide +kernel
theorem sh_57 : shp 57 = .inr (.inl (99, [])) := by decide +kernel
theorem sh_58 : shp 58 = .inr (.inl (99, [])) := by decide +kernel
theorem sh_59 : shp 59 = .inr (.inl (99, [])) := by decide +kernel
theorem sh_60 : shp 60 = .inr (.inl (99, [])) := by decide +kernel
theorem sh_61 : shp 61 = .inr (.inl (99, [])) := by decide +kernel
theorem sh_62 : shp 62 = .inr (.inl (99, [])) := by decide +kernel
theorem sh_63 : shp 63 = .inr (.inl (99, [])) := by decide +kernel
theorem sh_64 : shp 64 = .inr (.inl (99, [])) := by decide +kernel
theorem sh_65 : shp 65 = .inr (.inl (99, [])) := by decide +kernel
theorem sh_66 : shp 66 = .inr (.inl (99, [])) := by decide +kernel
theorem sh_67 : shp 67 = .inr (.inl (99, [])) := by decide +kernel
theorem sh_68 : shp 68 = .inr (.inl (99, [])) := by decide +kernel
theorem sh_69 : shp 69 = .inr (.inl (99, [])) := by decide +kernel
theorem sh_70 : shp 70 = .inr (.inl (99, [])) := by decide +kernel
theorem sh_71 : shp 71 = .inr (.inl (99, [])) := by decide +kernel
theorem sh_72 : shp 72 = .inr (.inl (99, [])) := by decide +kernel
theorem sh_73 : shp 73 = .inr (.inl (99, [])) := by decide +kernel
def isRt (r : Nat) : Prop := shp r = .inr (.inr (5, [none, none, none, some (r + 4)])) ∧ shp (r + 4) = .inl 24
def isPl (q : Nat) : Prop := shp q = .inr (.inr (3, [some (q + 1), some (q + 2)])) ∧ shp (q + 1) = .inr (.inl (1, [q + 3, q + 4, q + 5, q + 6])) ∧ shp (q + 2) = .inl 12 ∧ isRt (q + 3) ∧ isRt (q + 4) ∧ isRt (q + 5) ∧ isRt (q + 6)
theorem rt_51 : isRt 51 := ⟨by decide +kernel, by decide +kernel⟩
theorem pl_74 : isPl 74 := ⟨by decide +kernel, by decide +kernel, by decide +kernel, ⟨by decide +kernel, by decide +kernel⟩, ⟨by decide +kernel, by decide +kernel⟩, ⟨by decide +kernel, by decide +kernel⟩, ⟨by decide +kernel, by decide +kernel⟩⟩
theorem pl_85 : isPl 85 := ⟨by decide +kernel, by decide +kernel, by decide +kernel, ⟨by decide +kernel, by decide +kernel⟩, ⟨by decide +kernel, by decide +kernel⟩, ⟨by decide +kernel, by decide +kernel⟩, ⟨by decide +kernel, by decide +kernel⟩⟩
theorem pl_96 : isPl 96 := ⟨by decide +kernel, by decide +kernel, by decide +kernel, ⟨by decide +kernel, by decide +kernel⟩, ⟨by decide +kernel, by decide +kernel⟩, ⟨by decide +kernel, by decide +kernel⟩, ⟨by decide +kernel, by decide +kernel⟩⟩
theorem pl_107 : isPl 107 := ⟨by decide +kernel, by decide +kernel, by decide +kernel, ⟨by decide +kernel, by decide +kernel⟩, ⟨by decide +kernel, by decide +kernel⟩, ⟨by decide +kernel, by decide +kernel⟩, ⟨by decide +kernel, by decide +kernel⟩⟩
theorem pl_118 : isPl 118 := ⟨by decide +kernel, by decide +kernel, by decide +kernel, ⟨by decide +kernel, by decide +kernel⟩, ⟨by decide +kernel, by decide +kernel⟩, ⟨by decide +kernel, by decide +kernel⟩, ⟨by decide +kernel, by decide +kernel⟩⟩
theorem pl_129 : isPl 129 := ⟨by decide +kernel, by decide +kernel, by decide +kernel, ⟨by decide +kernel, by decide +kernel⟩, ⟨by decide +kernel, by decide +kernel⟩, ⟨by decide +kernel, by decide +kernel⟩, ⟨by decide +kernel, by decide +kernel⟩⟩
theorem pl_140 : isPl 140 := ⟨by decide +kernel, by decide +kernel, by decide +kernel, ⟨by decide +kernel, by decide +kernel⟩, ⟨by decide +kernel, by decide +kernel⟩, ⟨by decide +kernel, by decide +kernel⟩, ⟨by decide +kernel, by decide +kernel⟩⟩
theorem pl_151 : isPl 151 := ⟨by decide +kernel, by decide +kernel, by decide +kernel, ⟨by decide +kernel, by decide +kernel⟩, ⟨by decide +kernel, by decide +kernel⟩, ⟨by decide +kernel, by decide +kernel⟩, ⟨by decide +kernel, by decide +kernel⟩⟩
theorem pl_162 : isPl 162 := ⟨by decide +kernel, by decide +kernel, by decide +kernel, ⟨by decide +kernel, by decide +kernel⟩, ⟨by decide +kernel, by decide +kernel⟩, ⟨by decide +kernel, by decide +kernel⟩, ⟨by decide +kernel, by decide +kernel⟩⟩
theorem pl_173 : isPl 173 := ⟨by decide +kernel, by decide +kernel, by decide +kernel, ⟨by decide +kernel, by decide +kernel⟩, ⟨by decide +kernel, by decide +kernel⟩, ⟨by decide +kernel, by decide +kernel⟩, ⟨by decide +kernel, by decide +kernel⟩⟩
theorem pl_184 : isPl 184 := ⟨by decide +kernel, by decide +kernel, by decide +kernel, ⟨by decide +kernel, by decide +kernel⟩, ⟨by decide +kernel, by decide +kernel⟩, ⟨by decide +kernel, by decide +kernel⟩, ⟨by decide +kernel, by decide +kernel⟩⟩
theorem pl_195 : isPl 195 := ⟨by decide +kernel, by decide +kernel, by decide +kernel, ⟨by decide +kernel, by decide +kernel⟩, ⟨by decide +kernel, by decide +kernel⟩, ⟨by decide +kernel, by decide +kernel⟩, ⟨by decide +kernel, by decide +kernel⟩⟩
theorem pl_206 : isPl 206 := ⟨by decide +kernel, by decide +kernel, by decide +kernel, ⟨by decide +kernel, by decide +kernel⟩, ⟨by decide +kernel, by decide +kernel⟩, ⟨by decide +kernel, by decide +kernel⟩, ⟨by decide +kernel, by decide +kernel⟩⟩
theorem pl_217 : isPl 217 := ⟨by decide +kernel, by decide +kernel, by decide +kernel, ⟨by decide +kernel, by decide +kernel⟩, ⟨by decide +kernel, by decide +kernel⟩, ⟨by decide +kernel, by decide +kernel⟩, ⟨by decide +kernel, by decide +kernel⟩⟩
theorem pl_rt {q : Nat} {v : Int} (h : isPl q) (h0 : 0 ≤ v) (h4 : v < 4) : isRt (q + 3 + v.toNat) := by
  obtain ⟨n, rfl⟩ : ∃ n : Nat, v = n := ⟨v.toNat, by omega⟩
  have hn : n = 0 ∨ n = 1 ∨ n = 2 ∨ n = 3 := by omega
  rcases hn with rfl | rfl | rfl | rfl
  · exact h.2.2.2.1
  · exact h.2.2.2.2.1
  · exact h.2.2.2.2.2.1
  · exact h.2.2.2.2.2.2
theorem pl_at {q : Nat} {v : Int} (h0 : 0 ≤ v) (h4 : v < 4) : [q + 3, q + 4, q + 5, q + 6][v.toNat]? = some (q + 3 + v.toNat) := by
  obtain ⟨n, rfl⟩ : ∃ n : Nat, v = n := ⟨v.toNat, by omega⟩
  have hn : n = 0 ∨ n = 1 ∨ n = 2 ∨ n = 3 := by omega
  rcases hn with rfl | rfl | rfl | rfl <;> rfl
theorem hp_at {v : Int} (h0 : 0 ≤ v) (h4 : v < 10) : [118, 129, 140, 151, 162, 173, 184, 195, 206, 217][v.toNat]? = some (118 + 11 * v.toNat) := by
  obtain ⟨n, rfl⟩ : ∃ n : Nat, v = n := ⟨v.toNat, by omega⟩
  have h : ∀ n, n < 10 → [118, 129, 140, 151, 162, 173, 184, 195, 206, 217][n]? = some (118 + 11 * n) := by decide
  exact h n (by omega)
theorem hp_pl {v : Int} (h0 : 0 ≤ v) (h4 : v < 10) : isPl (118 + 11 * v.toNat) := by
  obtain ⟨n, rfl⟩ : ∃ n : Nat, v = n := ⟨v.toNat, by omega⟩
  have hn : n = 0 ∨ n = 1 ∨ n = 2 ∨ n = 3 ∨ n = 4 ∨ n = 5 ∨ n = 6 ∨ n = 7 ∨ n = 8 ∨ n = 9 := by omega
  rcases hn with rfl | rfl | rfl | rfl | rfl | rfl | rfl | rfl | rfl | rfl
  · exact pl_118
  · exact pl_129
  · exact pl_140
  · exact pl_151
  · exact pl_162
  · exact pl_173
  · exact pl_184
  · exact pl_195
  · exact pl_206
  · exact pl_217
theorem tv_at {v : Int} (h0 : 0 ≤ v) (h4 : v < 28) : [12, 13, 14, 15, 16, 17, 18, 19, 20, 21, 22, 23, 24, 25, 26, 27, 28, 29, 30, 31, 32, 33, 34, 35, 36, 37, 38, 39][v.toNat]? = some (12 + v.toNat) := by
  have h : ∀ n, n < 28 → [12, 13, 14, 15, 16, 17, 18, 19, 20, 21, 22, 23, 24, 25, 26, 27, 28, 29, 30, 31, 32, 33, 34, 35, 36, 37, 38, 39][n]? = some (12 + n) := by decide
  exact h v.toNat (by omega)
theorem sh_12 : shp 12 = .inl 28 := by decide +kernel
theorem sh_13 : shp 13 = .inl 28 := by decide +kernel
theorem sh_14 : shp 14 = .inl 28 := by decide +kernel
theorem sh_15 : shp 15 = .inl 28 := by decide +kernel
theorem sh_16 : shp 16 = .inl 28 := by decide +kernel
theorem sh_17 : shp 17 = .inl 28 := by decide +kernel
theorem sh_18 : shp 18 = .inl 28 := by decide +kernel
theorem sh_19 : shp 19 = .inl 28 := by decide +kernel
theorem sh_20 : shp 20 = .inl 28 := by decide +kernel
theorem sh_21 : shp 21 = .inl 28 := by decide +kernel
theorem sh_22 : shp 22 = .inl 28 := by decide +kernel
theorem sh_23 : shp 23 = .inl 28 := by decide +kernel
theorem sh_24 : shp 24 = .inl 28 := by decide +kernel
theorem sh_25 : shp 25 = .inl 28 := by decide +kernel
theorem sh_26 : shp 26 = .inl 28 := by decide +kernel
theorem sh_27 : shp 27 = .inl 28 := by decide +kernel
theorem sh_28 : shp 28 = .inl 28 := by decide +kernel
theorem sh_29 : shp 29 = .inl 28 := by decide +kernel
theorem sh_30 : shp 30 = .inl 28 := by decide +kernel
theorem sh_31 : shp 31 = .inl 28 := by decide +kernel
theorem sh_32 : shp 32 = .inl 28 := by decide +kernel
theorem sh_33 : shp 33 = .inl 28 := by decide +kernel
theorem sh_34 : shp 34 = .inl 28 := by decide +kernel
theorem sh_35 : shp 35 = .inl 28 := by decide +kernel
theorem sh_36 : shp 36 = .inl 28 := by decide +kernel
theorem sh_37 : shp 37 = .inl 28 := by decide +kernel
theorem sh_38 : shp 38 = .inl 28 := by decide +kernel
theorem sh_39 : shp 39 = .inl 28 := by decide +kernel
theorem tv_sh {v : Int} (h0 : 0 ≤ v) (h4 : v < 28) : shp (12 + v.toNat) = .inl 28 := by
  obtain ⟨n, rfl⟩ : ∃ n : Nat, v = n := ⟨v.toNat, by omega⟩
  have hn : n = 0 ∨ n = 1 ∨ n = 2 ∨ n = 3 ∨ n = 4 ∨ n = 5 ∨ n = 6 ∨ n = 7 ∨ n = 8 ∨ n = 9 ∨ n = 10 ∨ n = 11 ∨ n = 12 ∨ n = 13 ∨ n = 14 ∨ n = 15 ∨ n = 16 ∨ n = 17 ∨ n = 18 ∨ n = 19 ∨ n = 20 ∨ n = 21 ∨ n = 22 ∨ n = 23 ∨ n = 24 ∨ n = 25 ∨ n = 26 ∨ n = 27 := by omega
  rcases hn with rfl | rfl | rfl | rfl | rfl | rfl | rfl | rfl | rfl | rfl | rfl | rfl | rfl | rfl | rfl | rfl | rfl | rfl | rfl | rfl | rfl | rfl | rfl | rfl | rfl | rfl | rfl | rfl
  · exact sh_12
  · exact sh_13
  · exact sh_14
  · exact sh_15
  · exact sh_16
  · exact sh_17
  · exact sh_18
  · exact sh_19
  · exact sh_20
  · exact sh_21
  · exact sh_22
  · exact sh_23
  · exact sh_24
  · exact sh_25
  · exact sh_26
  · exact sh_27
  · exact sh_28
  · exact sh_29
  · exact sh_30
  · exact sh_31
  · exact sh_32
  · exact sh_33
  · exact sh_34
  · exact sh_35
  · exact sh_36
  · exact sh_37
  · exact sh_38
  · exact sh_39
theorem w_abs : Cond.static Lib.Math.abs.name ∈ tbG ∧ Cond.initialized "java/lang/Math" ∈ tbG ∧ Cond.code Lib.Math.abs.name Lib.Math.abs.code 1 (some .int) ∈ tbG := by
  refine ⟨?_, ?_, ?_⟩ <;> exact List.mem_filter.mpr ⟨by decide +kernel, by decide +kernel⟩
theorem w_cpy : Cond.native arraycopyName ∈ tbG ∧ Cond.static arraycopyName ∈ tbG ∧ Cond.initialized "java/lang/System" ∈ tbG := by
  refine ⟨?_, ?_, ?_⟩ <;> exact List.mem_filter.mpr ⟨by decide +kernel, by decide +kernel⟩
abbrev MWi (l : Launch) (G : GT) (M : MI) (pc : Nat) (ls : List (Nat × MV)) (st : List MV) (σ : Sto) (Q : Int → Sto → Prop) : Prop := MW l G M pc ls st σ (fun r σ' => ∃ x, r = some (vI x) ∧ Q x σ')
abbrev MWv (l : Launch) (G : GT) (M : MI) (pc : Nat) (ls : List (Nat × MV)) (st : List MV) (σ : Sto) (Q : Sto → Prop) : Prop := MW l G M pc ls st σ (fun r σ' => r = none ∧ Q σ')
abbrev MWr (l : Launch) (G : GT) (M : MI) (pc : Nat) (ls : List (Nat × MV)) (st : List MV) (σ : Sto) (Q : Nat → Sto → Prop) : Prop := MW l G M pc ls st σ (fun r σ' => ∃ x, r = some (vR x) ∧ Q x σ')
theorem shne_ao {a b n : Nat} {o : (Nat × List Nat) ⊕ (Nat × List (Option Nat))} (ha : shp a = .inl n) (hb : shp b = .inr o) : a ≠ b := fun e => by
  rw [e, hb] at ha; cases ha
theorem shne_oa {a b n : Nat} {o : (Nat × List Nat) ⊕ (Nat × List (Option Nat))} (ha : shp a = .inr o) (hb : shp b = .inl n) : a ≠ b := fun e => by
  rw [e, hb] at ha; cases ha
theorem shne_aa {a b n m : Nat} (ha : shp a = .inl n) (hb : shp b = .inl m) (h : n ≠ m) : a ≠ b := fun e => by
  rw [e, hb] at ha; exact h (Sum.inl.inj ha).symm
theorem shne_oo {a b ci cj : Nat} {fs gs : List (Option Nat)} (ha : shp a = .inr (.inr (ci, fs))) (hb : shp b = .inr (.inr (cj, gs))) (h : ci ≠ cj) : a ≠ b := fun e => by
  rw [e, hb] at ha; exact h (Prod.mk.inj (Sum.inr.inj (Sum.inr.inj ha))).1.symm
theorem stS_ne {σ : Sto} {k j c i : Nat} {x : Int} (h : c ≠ k) : stS σ k j x c i = σ c i := if_neg fun q => h q.1
theorem stS_ni {σ : Sto} {k j i : Nat} {x : Int} (h : i ≠ j) : stS σ k j x k i = σ k i := if_neg fun q => h q.2
theorem stS_eq {σ : Sto} {k j : Nat} {x : Int} : stS σ k j x k j = x := if_pos ⟨rfl, rfl⟩
theorem cpS_ne {σ : Sto} {a b n c i : Nat} (h : c ≠ b) : cpS σ a b n c i = σ c i := if_neg fun q => h q.1
theorem cpS_in {σ : Sto} {a b n i : Nat} (h : i < n) : cpS σ a b n b i = σ a i := if_pos ⟨rfl, h⟩
section MROWS3
variable {l : Launch} {G : GT} {M : MI} {F : FT} {pc : Nat} {ls : List (Nat × MV)} {st : List MV} {σ : Sto}
theorem MWF.top {v v' : Int} (h : v = v') (kk : MWF l G M F pc ls (vI v' :: st) σ) : MWF l G M F pc ls (vI v :: st) σ := h ▸ kk
theorem p2_lt {n : Nat} (h : n < 31) : (2 ^ n : Nat) ≤ 1073741824 := by
  have h2 : (2 : Nat) ^ n ≤ 2 ^ 30 := Nat.pow_le_pow_right (by decide) (by omega)
  exact h2
theorem oI_n (n : Nat) : Int32.ofInt (n : Int) = nI n := Int32.ofInt_eq_ofNat
theorem s_l31 : ∀ n, n < 32 → ((nI n &&& 31).toBitVec.smod 32).toNat = n := by decide +kernel
theorem r_shl1 {y : Int} (hd : decode M.2.1 pc = .ok (.ishl, 1)) (h0 : 0 ≤ y) (h1 : y < 31) (kk : MWF l G M F (pc + 1) ls (vI ((2 ^ y.toNat : Nat) : Int) :: st) σ) : MWF l G M F pc ls (vI y :: vI 1 :: st) σ := by
  have e : Int32.ofInt 1 <<< (Int32.ofInt y &&& 31) = Int32.ofInt ((2 ^ y.toNat : Nat) : Int) := by
    have hy : Int32.ofInt y = nI y.toNat := by rw [← oI_n]; congr 1; omega
    have h2 := p2_lt (n := y.toNat) (by omega)
    rw [hy, oI_n, show Int32.ofInt 1 = nI 1 from by decide, pk_shlN (nI y.toNat &&& 31) y.toNat (s_l31 _ (by omega)) (by omega), Nat.one_mul]
  have h2 := p2_lt (n := y.toNat) (by omega)
  exact MWF.go (fun _ h => okL_I ⟨Int.le_trans (by decide) (Int.natCast_nonneg _), Int.le_trans (Int.ofNat_le.mpr h2) (by decide)⟩ (okL_tl (okL_tl h))) (fun _ hx hb _ _ _ k => lv_ishl hx hb hd (by rw [e]; exact k)) kk
theorem r_ior {x y : Int} (hd : decode M.2.1 pc = .ok (.ior, 1)) (h0 : 0 ≤ x) (h1 : 0 ≤ y) (kk : MWF l G M F (pc + 1) ls (vI ((x.toNat ||| y.toNat : Nat) : Int) :: st) σ) : MWF l G M F pc ls (vI y :: vI x :: st) σ := by
  have e : Int32.ofInt x ||| Int32.ofInt y = Int32.ofInt ((x.toNat ||| y.toNat : Nat) : Int) := by
    have hx : Int32.ofInt x = nI x.toNat := by rw [← oI_n]; congr 1; omega
    have hy : Int32.ofInt y = nI y.toNat := by rw [← oI_n]; congr 1; omega
    rw [hx, hy, oI_n]
    apply Int32.toBitVec_inj.1
    show BitVec.ofNat 32 _ ||| BitVec.ofNat 32 _ = BitVec.ofNat 32 _
    apply BitVec.eq_of_getLsbD_eq
    intro i hi
    simp [hi]
  refine MWF.go (fun _ h => okL_I ?_ (okL_tl (okL_tl h))) (fun _ hx hb _ _ _ k => lv_ior hx hb hd (by rw [e]; exact k)) kk
  have hx := (okL_hd (okL_tl h)).2
  have hy := (okL_hd h).2
  have hz : x.toNat ||| y.toNat < 2 ^ 31 := Nat.or_lt_two_pow (by omega) (by omega)
  omega
end MROWS3

