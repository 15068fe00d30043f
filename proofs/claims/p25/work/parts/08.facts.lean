theorem kc_0 : KC 0 RX0 TX0 3 := ⟨rfl, fun w h => List.mem_filter.mpr ⟨(show ∀ w ∈ wsX00, w ∈ lw_tbl by decide +kernel) w h, (show ∀ w ∈ wsX00, goodWord w = true by decide +kernel) w h⟩, ⟨tyX0, tyX0_ok⟩, nmX0⟩
theorem kc_1 : KC 1 RX1 TX1 8 := ⟨rfl, fun w h => List.mem_filter.mpr ⟨(show ∀ w ∈ wsX10, w ∈ lw_tbl by decide +kernel) w h, (show ∀ w ∈ wsX10, goodWord w = true by decide +kernel) w h⟩, ⟨tyX1, tyX1_ok⟩, nmX1⟩
theorem kc_2 : KC 2 RX2 TX2 10 := ⟨rfl, fun w h => List.mem_filter.mpr ⟨(show ∀ w ∈ wsX20, w ∈ lw_tbl by decide +kernel) w h, (show ∀ w ∈ wsX20, goodWord w = true by decide +kernel) w h⟩, ⟨tyX2, tyX2_ok⟩, nmX2⟩
theorem kc_3 : KC 3 RX3 TX3 2 := ⟨rfl, fun w h => List.mem_filter.mpr ⟨(show ∀ w ∈ wsX30, w ∈ lw_tbl by decide +kernel) w h, (show ∀ w ∈ wsX30, goodWord w = true by decide +kernel) w h⟩, ⟨tyX3, tyX3_ok⟩, nmX3⟩
theorem kc_4 : KC 4 RX4 TX4 13 := ⟨rfl, fun w h => List.mem_filter.mpr ⟨(show ∀ w ∈ wsX40, w ∈ lw_tbl by decide +kernel) w h, (show ∀ w ∈ wsX40, goodWord w = true by decide +kernel) w h⟩, ⟨tyX4, tyX4_ok⟩, nmX4⟩
theorem kc_5 : KC 5 RX5 TX5 4 := ⟨rfl, fun w h => List.mem_filter.mpr ⟨(show ∀ w ∈ wsX50, w ∈ lw_tbl by decide +kernel) w h, (show ∀ w ∈ wsX50, goodWord w = true by decide +kernel) w h⟩, ⟨tyX5, tyX5_ok⟩, nmX5⟩
theorem kc_6 : KC 6 RX6 TX6 13 := ⟨rfl, fun w h => List.mem_filter.mpr ⟨(show ∀ w ∈ wsX60, w ∈ lw_tbl by decide +kernel) w h, (show ∀ w ∈ wsX60, goodWord w = true by decide +kernel) w h⟩, ⟨tyX6, tyX6_ok⟩, nmX6⟩
theorem kc_7 : KC 7 RX7 TX7 6 := ⟨rfl, fun w h => List.mem_filter.mpr ⟨(show ∀ w ∈ wsX70, w ∈ lw_tbl by decide +kernel) w h, (show ∀ w ∈ wsX70, goodWord w = true by decide +kernel) w h⟩, ⟨tyX7, tyX7_ok⟩, nmX7⟩
theorem sh_0 : shp 0 = .inr (.inr (7, [some 1, some 74, some 53, some 40, some 50, some 52])) := by decide +kernel
theorem sh_1 : shp 1 = .inr (.inr (4, [none, none, none, some 2, some 3, some 4, some 5, some 6, some 7, some 8, some 9, some 10, some 11])) := by decide +kernel
theorem sh_2 : shp 2 = .inl 4 := by decide +kernel
theorem sh_3 : shp 3 = .inl 4 := by decide +kernel
theorem sh_4 : shp 4 = .inl 4 := by decide +kernel
theorem sh_5 : shp 5 = .inl 12 := by decide +kernel
theorem sh_6 : shp 6 = .inl 24 := by decide +kernel
theorem sh_7 : shp 7 = .inl 24 := by decide +kernel
theorem sh_8 : shp 8 = .inl 24 := by decide +kernel
theorem sh_9 : shp 9 = .inl 28 := by decide +kernel
theorem sh_10 : shp 10 = .inl 28 := by decide +kernel
theorem sh_11 : shp 11 = .inr (.inl (3, [12, 13, 14, 15, 16, 17, 18, 19, 20, 21, 22, 23, 24, 25, 26, 27, 28, 29, 30, 31, 32, 33, 34, 35, 36, 37, 38, 39])) := by decide +kernel
theorem sh_40 : shp 40 = .inr (.inr (6, [some 41, some 42, some 43, some 44, none, some 1, some 45, some 46, some 47, some 48, some 49, none, none])) := by decide +kernel
theorem sh_41 : shp 41 = .inl 24 := by decide +kernel
theorem sh_42 : shp 42 = .inl 24 := by decide +kernel
theorem sh_43 : shp 43 = .inl 24 := by decide +kernel
theorem sh_44 : shp 44 = .inl 25 := by decide +kernel
theorem sh_45 : shp 45 = .inl 24 := by decide +kernel
theorem sh_46 : shp 46 = .inl 24 := by decide +kernel
theorem sh_47 : shp 47 = .inl 24 := by decide +kernel
theorem sh_48 : shp 48 = .inl 24 := by decide +kernel
theorem sh_49 : shp 49 = .inl 24 := by decide +kernel
theorem sh_50 : shp 50 = .inr (.inr (1, [none, none, none, none, none, some 1, some 40, some 51])) := by decide +kernel
theorem sh_52 : shp 52 = .inr (.inr (2, [none, none, none, none, some 85, some 1, some 50, some 96, some 107, none])) := by decide +kernel
theorem sh_53 : shp 53 = .inr (.inr (0, [none, none, some 54])) := by decide +kernel
theorem sh_54 : shp 54 = .inr (.inl (2, [118, 129, 140, 151, 162, 173, 184, 195, 206, 217])) := by decide +kernel
theorem sh_55 : shp 55 = .inl 24 := by decide +kernel
theorem sh_56 : shp 56 = .inl 64 := by decide +kernel
theorem sh_57 : shp 57 = .inr (.inl (99, [])) := by decide +kernel
theorem sh_58 : shp 58 = .inr (.inl (99, [])) := by decide +kernel
theorem sh_59 : shp 59 = .inr (.inl (99, [])) := by decide +kernel
theorem sh_60 : shp 60 = .inr (.inl (99, [])) := by decide +kernel
theorem sh_61 : shp 61 = .inr (.inl (99, [])) := by decide +kernel
theorem sh_62 : shp 62 = .inr (.inl (99, [])) := by decide +kernel
theorem sh_63 : shp 63 = .inr (.inl (99, [])) := by decide +kernel
theorem sh_64 : shp 64 = .inr (.inl (99, [])) := by decide +kernel
theorem sh_65 : shp 65 = .inr (.inl (99, [])) := by decide +kernel
theorem sh_66 : shp 66 = .inr (.inl (99, [])) := by decide +kernel
theorem sh_67 : shp 67 = .inr (.inl (99, [])) := by decide +kernel
theorem sh_68 : shp 68 = .inr (.inl (99, [])) := by decide +kernel
theorem sh_69 : shp 69 = .inr (.inl (99, [])) := by decide +kernel
theorem sh_70 : shp 70 = .inr (.inl (99, [])) := by decide +kernel
theorem sh_71 : shp 71 = .inr (.inl (99, [])) := by decide +kernel
theorem sh_72 : shp 72 = .inr (.inl (99, [])) := by decide +kernel
theorem sh_73 : shp 73 = .inr (.inl (99, [])) := by decide +kernel
def isRt (r : Nat) : Prop := shp r = .inr (.inr (5, [none, none, none, some (r + 4)])) ∧ shp (r + 4) = .inl 24
def isPl (q : Nat) : Prop := shp q = .inr (.inr (3, [some (q + 1), some (q + 2)])) ∧ shp (q + 1) = .inr (.inl (1, [q + 3, q + 4, q + 5, q + 6])) ∧ shp (q + 2) = .inl 12 ∧ isRt (q + 3) ∧ isRt (q + 4) ∧ isRt (q + 5) ∧ isRt (q + 6)
theorem rt_51 : isRt 51 := ⟨by decide +kernel, by decide +kernel⟩
theorem pl_74 : isPl 74 := ⟨by decide +kernel, by decide +kernel, by decide +kernel, ⟨by decide +kernel, by decide +kernel⟩, ⟨by decide +kernel, by decide +kernel⟩, ⟨by decide +kernel, by decide +kernel⟩, ⟨by decide +kernel, by decide +kernel⟩⟩
theorem pl_85 : isPl 85 := ⟨by decide +kernel, by decide +kernel, by decide +kernel, ⟨by decide +kernel, by decide +kernel⟩, ⟨by decide +kernel, by decide +kernel⟩, ⟨by decide +kernel, by decide +kernel⟩, ⟨by decide +kernel, by decide +kernel⟩⟩
theorem pl_96 : isPl 96 := ⟨by decide +kernel, by decide +kernel, by decide +kernel, ⟨by decide +kernel, by decide +kernel⟩, ⟨by decide +kernel, by decide +kernel⟩, ⟨by decide +kernel, by decide +kernel⟩, ⟨by decide +kernel, by decide +kernel⟩⟩
theorem pl_107 : isPl 107 := ⟨by decide +kernel, by decide +kernel, by decide +kernel, ⟨by decide +kernel, by decide +kernel⟩, ⟨by decide +kernel, by decide +kernel⟩, ⟨by decide +kernel, by decide +kernel⟩, ⟨by decide +kernel, by decide +kernel⟩⟩
theorem pl_118 : isPl 118 := ⟨by decide +kernel, by decide +kernel, by decide +kernel, ⟨by decide +kernel, by decide +kernel⟩, ⟨by decide +kernel, by decide +kernel⟩, ⟨by decide +kernel, by decide +kernel⟩, ⟨by decide +kernel, by decide +kernel⟩⟩
theorem pl_129 : isPl 129 := ⟨by decide +kernel, by decide +kernel, by decide +kernel, ⟨by decide +kernel, by decide +kernel⟩, ⟨by decide +kernel, by decide +kernel⟩, ⟨by decide +kernel, by decide +kernel⟩, ⟨by decide +kernel, by decide +kernel⟩⟩
theorem pl_140 : isPl 140 := ⟨by decide +kernel, by decide +kernel, by decide +kernel, ⟨by decide +kernel, by decide +kernel⟩, ⟨by decide +kernel, by decide +kernel⟩, ⟨by decide +kernel, by decide +kernel⟩, ⟨by decide +kernel, by decide +kernel⟩⟩
theorem pl_151 : isPl 151 := ⟨by decide +kernel, by decide +kernel, by decide +kernel, ⟨by decide +kernel, by decide +kernel⟩, ⟨by decide +kernel, by decide +kernel⟩, ⟨by decide +kernel, by decide +kernel⟩, ⟨by decide +kernel, by decide +kernel⟩⟩
theorem pl_162 : isPl 162 := ⟨by decide +kernel, by decide +kernel, by decide +kernel, ⟨by decide +kernel, by decide +kernel⟩, ⟨by decide +kernel, by decide +kernel⟩, ⟨by decide +kernel, by decide +kernel⟩, ⟨by decide +kernel, by decide +kernel⟩⟩
theorem pl_173 : isPl 173 := ⟨by decide +kernel, by decide +kernel, by decide +kernel, ⟨by decide +kernel, by decide +kernel⟩, ⟨by decide +kernel, by decide +kernel⟩, ⟨by decide +kernel, by decide +kernel⟩, ⟨by decide +kernel, by decide +kernel⟩⟩
theorem pl_184 : isPl 184 := ⟨by decide +kernel, by decide +kernel, by decide +kernel, ⟨by decide +kernel, by decide +kernel⟩, ⟨by decide +kernel, by decide +kernel⟩, ⟨by decide +kernel, by decide +kernel⟩, ⟨by decide +kernel, by decide +kernel⟩⟩
theorem pl_195 : isPl 195 := ⟨by decide +kernel, by decide +kernel, by decide +kernel, ⟨by decide +kernel, by decide +kernel⟩, ⟨by decide +kernel, by decide +kernel⟩, ⟨by decide +kernel, by decide +kernel⟩, ⟨by decide +kernel, by decide +kernel⟩⟩
theorem pl_206 : isPl 206 := ⟨by decide +kernel, by decide +kernel, by decide +kernel, ⟨by decide +kernel, by decide +kernel⟩, ⟨by decide +kernel, by decide +kernel⟩, ⟨by decide +kernel, by decide +kernel⟩, ⟨by decide +kernel, by decide +kernel⟩⟩
theorem pl_217 : isPl 217 := ⟨by decide +kernel, by decide +kernel, by decide +kernel, ⟨by decide +kernel, by decide +kernel⟩, ⟨by decide +kernel, by decide +kernel⟩, ⟨by decide +kernel, by decide +kernel⟩, ⟨by decide +kernel, by decide +kernel⟩⟩
theorem pl_rt {q : Nat} {v : Int} (h : isPl q) (h0 : 0 ≤ v) (h4 : v < 4) : isRt (q + 3 + v.toNat) := by
  obtain ⟨n, rfl⟩ : ∃ n : Nat, v = n := ⟨v.toNat, by omega⟩
  have hn : n = 0 ∨ n = 1 ∨ n = 2 ∨ n = 3 := by omega
  rcases hn with rfl | rfl | rfl | rfl
  · exact h.2.2.2.1
  · exact h.2.2.2.2.1
  · exact h.2.2.2.2.2.1
  · exact h.2.2.2.2.2.2
theorem pl_at {q : Nat} {v : Int} (h0 : 0 ≤ v) (h4 : v < 4) : [q + 3, q + 4, q + 5, q + 6][v.toNat]? = some (q + 3 + v.toNat) := by
  obtain ⟨n, rfl⟩ : ∃ n : Nat, v = n := ⟨v.toNat, by omega⟩
  have hn : n = 0 ∨ n = 1 ∨ n = 2 ∨ n = 3 := by omega
  rcases hn with rfl | rfl | rfl | rfl <;> rfl
theorem hp_at {v : Int} (h0 : 0 ≤ v) (h4 : v < 10) : [118, 129, 140, 151, 162, 173, 184, 195, 206, 217][v.toNat]? = some (118 + 11 * v.toNat) := by
  obtain ⟨n, rfl⟩ : ∃ n : Nat, v = n := ⟨v.toNat, by omega⟩
  have h : ∀ n, n < 10 → [118, 129, 140, 151, 162, 173, 184, 195, 206, 217][n]? = some (118 + 11 * n) := by decide
  exact h n (by omega)
theorem hp_pl {v : Int} (h0 : 0 ≤ v) (h4 : v < 10) : isPl (118 + 11 * v.toNat) := by
  obtain ⟨n, rfl⟩ : ∃ n : Nat, v = n := ⟨v.toNat, by omega⟩
  have hn : n = 0 ∨ n = 1 ∨ n = 2 ∨ n = 3 ∨ n = 4 ∨ n = 5 ∨ n = 6 ∨ n = 7 ∨ n = 8 ∨ n = 9 := by omega
  rcases hn with rfl | rfl | rfl | rfl | rfl | rfl | rfl | rfl | rfl | rfl
  · exact pl_118
  · exact pl_129
  · exact pl_140
  · exact pl_151
  · exact pl_162
  · exact pl_173
  · exact pl_184
  · exact pl_195
  · exact pl_206
  · exact pl_217
theorem tv_at {v : Int} (h0 : 0 ≤ v) (h4 : v < 28) : [12, 13, 14, 15, 16, 17, 18, 19, 20, 21, 22, 23, 24, 25, 26, 27, 28, 29, 30, 31, 32, 33, 34, 35, 36, 37, 38, 39][v.toNat]? = some (12 + v.toNat) := by
  have h : ∀ n, n < 28 → [12, 13, 14, 15, 16, 17, 18, 19, 20, 21, 22, 23, 24, 25, 26, 27, 28, 29, 30, 31, 32, 33, 34, 35, 36, 37, 38, 39][n]? = some (12 + n) := by decide
  exact h v.toNat (by omega)
theorem sh_12 : shp 12 = .inl 28 := by decide +kernel
theorem sh_13 : shp 13 = .inl 28 := by decide +kernel
theorem sh_14 : shp 14 = .inl 28 := by decide +kernel
theorem sh_15 : shp 15 = .inl 28 := by decide +kernel
theorem sh_16 : shp 16 = .inl 28 := by decide +kernel
theorem sh_17 : shp 17 = .inl 28 := by decide +kernel
theorem sh_18 : shp 18 = .inl 28 := by decide +kernel
theorem sh_19 : shp 19 = .inl 28 := by decide +kernel
theorem sh_20 : shp 20 = .inl 28 := by decide +kernel
theorem sh_21 : shp 21 = .inl 28 := by decide +kernel
theorem sh_22 : shp 22 = .inl 28 := by decide +kernel
theorem sh_23 : shp 23 = .inl 28 := by decide +kernel
theorem sh_24 : shp 24 = .inl 28 := by decide +kernel
theorem sh_25 : shp 25 = .inl 28 := by decide +kernel
theorem sh_26 : shp 26 = .inl 28 := by decide +kernel
theorem sh_27 : shp 27 = .inl 28 := by decide +kernel
theorem sh_28 : shp 28 = .inl 28 := by decide +kernel
theorem sh_29 : shp 29 = .inl 28 := by decide +kernel
theorem sh_30 : shp 30 = .inl 28 := by decide +kernel
theorem sh_31 : shp 31 = .inl 28 := by decide +kernel
theorem sh_32 : shp 32 = .inl 28 := by decide +kernel
theorem sh_33 : shp 33 = .inl 28 := by decide +kernel
theorem sh_34 : shp 34 = .inl 28 := by decide +kernel
theorem sh_35 : shp 35 = .inl 28 := by decide +kernel
theorem sh_36 : shp 36 = .inl 28 := by decide +kernel
theorem sh_37 : shp 37 = .inl 28 := by decide +kernel
theorem sh_38 : shp 38 = .inl 28 := by decide +kernel
theorem sh_39 : shp 39 = .inl 28 := by decide +kernel
theorem tv_sh {v : Int} (h0 : 0 ≤ v) (h4 : v < 28) : shp (12 + v.toNat) = .inl 28 := by
  obtain ⟨n, rfl⟩ : ∃ n : Nat, v = n := ⟨v.toNat, by omega⟩
  have hn : n = 0 ∨ n = 1 ∨ n = 2 ∨ n = 3 ∨ n = 4 ∨ n = 5 ∨ n = 6 ∨ n = 7 ∨ n = 8 ∨ n = 9 ∨ n = 10 ∨ n = 11 ∨ n = 12 ∨ n = 13 ∨ n = 14 ∨ n = 15 ∨ n = 16 ∨ n = 17 ∨ n = 18 ∨ n = 19 ∨ n = 20 ∨ n = 21 ∨ n = 22 ∨ n = 23 ∨ n = 24 ∨ n = 25 ∨ n = 26 ∨ n = 27 := by omega
  rcases hn with rfl | rfl | rfl | rfl | rfl | rfl | rfl | rfl | rfl | rfl | rfl | rfl | rfl | rfl | rfl | rfl | rfl | rfl | rfl | rfl | rfl | rfl | rfl | rfl | rfl | rfl | rfl | rfl
  · exact sh_12
  · exact sh_13
  · exact sh_14
  · exact sh_15
  · exact sh_16
  · exact sh_17
  · exact sh_18
  · exact sh_19
  · exact sh_20
  · exact sh_21
  · exact sh_22
  · exact sh_23
  · exact sh_24
  · exact sh_25
  · exact sh_26
  · exact sh_27
  · exact sh_28
  · exact sh_29
  · exact sh_30
  · exact sh_31
  · exact sh_32
  · exact sh_33
  · exact sh_34
  · exact sh_35
  · exact sh_36
  · exact sh_37
  · exact sh_38
  · exact sh_39
theorem w_abs : Cond.static Lib.Math.abs.name ∈ tbG ∧ Cond.initialized "java/lang/Math" ∈ tbG ∧ Cond.code Lib.Math.abs.name Lib.Math.abs.code 1 (some .int) ∈ tbG := by
  refine ⟨?_, ?_, ?_⟩ <;> exact List.mem_filter.mpr ⟨by decide +kernel, by decide +kernel⟩
theorem w_cpy : Cond.native arraycopyName ∈ tbG ∧ Cond.static arraycopyName ∈ tbG ∧ Cond.initialized "java/lang/System" ∈ tbG := by
  refine ⟨?_, ?_, ?_⟩ <;> exact List.mem_filter.mpr ⟨by decide +kernel, by decide +kernel⟩
abbrev MWi (l : Launch) (G : GT) (M : MI) (pc : Nat) (ls : List (Nat × MV)) (st : List MV) (σ : Sto) (Q : Int → Sto → Prop) : Prop := MW l G M pc ls st σ (fun r σ' => ∃ x, r = some (vI x) ∧ Q x σ')
abbrev MWv (l : Launch) (G : GT) (M : MI) (pc : Nat) (ls : List (Nat × MV)) (st : List MV) (σ : Sto) (Q : Sto → Prop) : Prop := MW l G M pc ls st σ (fun r σ' => r = none ∧ Q σ')
abbrev MWr (l : Launch) (G : GT) (M : MI) (pc : Nat) (ls : List (Nat × MV)) (st : List MV) (σ : Sto) (Q : Nat → Sto → Prop) : Prop := MW l G M pc ls st σ (fun r σ' => ∃ x, r = some (vR x) ∧ Q x σ')
theorem shne_ao {a b n : Nat} {o : (Nat × List Nat) ⊕ (Nat × List (Option Nat))} (ha : shp a = .inl n) (hb : shp b = .inr o) : a ≠ b := fun e => by
  rw [e, hb] at ha; cases ha
theorem shne_oa {a b n : Nat} {o : (Nat × List Nat) ⊕ (Nat × List (Option Nat))} (ha : shp a = .inr o) (hb : shp b = .inl n) : a ≠ b := fun e => by
  rw [e, hb] at ha; cases ha
theorem shne_aa {a b n m : Nat} (ha : shp a = .inl n) (hb : shp b = .inl m) (h : n ≠ m) : a ≠ b := fun e => by
  rw [e, hb] at ha; exact h (Sum.inl.inj ha).symm
theorem shne_oo {a b ci cj : Nat} {fs gs : List (Option Nat)} (ha : shp a = .inr (.inr (ci, fs))) (hb : shp b = .inr (.inr (cj, gs))) (h : ci ≠ cj) : a ≠ b := fun e => by
  rw [e, hb] at ha; exact h (Prod.mk.inj (Sum.inr.inj (Sum.inr.inj ha))).1.symm
theorem stS_ne {σ : Sto} {k j c i : Nat} {x : Int} (h : c ≠ k) : stS σ k j x c i = σ c i := if_neg fun q => h q.1
theorem stS_ni {σ : Sto} {k j i : Nat} {x : Int} (h : i ≠ j) : stS σ k j x k i = σ k i := if_neg fun q => h q.2
theorem stS_eq {σ : Sto} {k j : Nat} {x : Int} : stS σ k j x k j = x := if_pos ⟨rfl, rfl⟩
theorem cpS_ne {σ : Sto} {a b n c i : Nat} (h : c ≠ b) : cpS σ a b n c i = σ c i := if_neg fun q => h q.1
theorem cpS_in {σ : Sto} {a b n i : Nat} (h : i < n) : cpS σ a b n b i = σ a i := if_pos ⟨rfl, h⟩
section MROWS3
variable {l : Launch} {G : GT} {M : MI} {F : FT} {pc : Nat} {ls : List (Nat × MV)} {st : List MV} {σ : Sto}
theorem MWF.top {v v' : Int} (h : v = v') (kk : MWF l G M F pc ls (vI v' :: st) σ) : MWF l G M F pc ls (vI v :: st) σ := h ▸ kk
theorem p2_lt {n : Nat} (h : n < 31) : (2 ^ n : Nat) ≤ 1073741824 := by
  have h2 : (2 : Nat) ^ n ≤ 2 ^ 30 := Nat.pow_le_pow_right (by decide) (by omega)
  exact h2
theorem oI_n (n : Nat) : Int32.ofInt (n : Int) = nI n := Int32.ofInt_eq_ofNat
theorem s_l31 : ∀ n, n < 32 → ((nI n &&& 31).toBitVec.smod 32).toNat = n := by decide +kernel
theorem r_shl1 {y : Int} (hd : decode M.2.1 pc = .ok (.ishl, 1)) (h0 : 0 ≤ y) (h1 : y < 31) (kk : MWF l G M F (pc + 1) ls (vI ((2 ^ y.toNat : Nat) : Int) :: st) σ) : MWF l G M F pc ls (vI y :: vI 1 :: st) σ := by
  have e : Int32.ofInt 1 <<< (Int32.ofInt y &&& 31) = Int32.ofInt ((2 ^ y.toNat : Nat) : Int) := by
    have hy : Int32.ofInt y = nI y.toNat := by rw [← oI_n]; congr 1; omega
    have h2 := p2_lt (n := y.toNat) (by omega)
    rw [hy, oI_n, show Int32.ofInt 1 = nI 1 from by decide, pk_shlN (nI y.toNat &&& 31) y.toNat (s_l31 _ (by omega)) (by omega), Nat.one_mul]
  have h2 := p2_lt (n := y.toNat) (by omega)
  exact MWF.go (fun _ h => okL_I ⟨Int.le_trans (by decide) (Int.natCast_nonneg _), Int.le_trans (Int.ofNat_le.mpr h2) (by decide)⟩ (okL_tl (okL_tl h))) (fun _ hx hb _ _ _ k => lv_ishl hx hb hd (by rw [e]; exact k)) kk
theorem r_ior {x y : Int} (hd : decode M.2.1 pc = .ok (.ior, 1)) (h0 : 0 ≤ x) (h1 : 0 ≤ y) (kk : MWF l G M F (pc + 1) ls (vI ((x.toNat ||| y.toNat : Nat) : Int) :: st) σ) : MWF l G M F pc ls (vI y :: vI x :: st) σ := by
  have e : Int32.ofInt x ||| Int32.ofInt y = Int32.ofInt ((x.toNat ||| y.toNat : Nat) : Int) := by
    have hx : Int32.ofInt x = nI x.toNat := by rw [← oI_n]; congr 1; omega
    have hy : Int32.ofInt y = nI y.toNat := by rw [← oI_n]; congr 1; omega
    rw [hx, hy, oI_n]
    apply Int32.toBitVec_inj.1
    show BitVec.ofNat 32 _ ||| BitVec.ofNat 32 _ = BitVec.ofNat 32 _
    apply BitVec.eq_of_getLsbD_eq
    intro i hi
    simp [hi]
  refine MWF.go (fun _ h => okL_I ?_ (okL_tl (okL_tl h))) (fun _ hx hb _ _ _ k => lv_ior hx hb hd (by rw [e]; exact k)) kk
  have hx := (okL_hd (okL_tl h)).2
  have hy := (okL_hd h).2
  have hz : x.toNat ||| y.toNat < 2 ^ 31 := Nat.or_lt_two_pow (by omega) (by omega)
  omega
end MROWS3
def mX0_forget : MI := (yX0_forget, cX0_forget, 1, (Option.none : Option Jvm.ClassFile.FieldType), 0, 0)
theorem okX0_forget : MOK mX0_forget 0 := ⟨by decide +kernel, ⟨by decide +kernel, by decide +kernel⟩, by decide +kernel, tb_in 355 (by decide +kernel) (by decide +kernel), tb_in 28 (by decide +kernel) (by decide +kernel)⟩
theorem ivX0_forget : Cond.instanceMethod mX0_forget.1 ∈ tbG := tb_in 353 (by decide +kernel) (by decide +kernel)
theorem seX0_forget : Cond.selects mX0_forget.1.cls mX0_forget.1 mX0_forget.1 ∈ tbG := tb_in 354 (by decide +kernel) (by decide +kernel)
def mX0_record : MI := (yX0_record, cX0_record, 2, (Option.none : Option Jvm.ClassFile.FieldType), 3, 61)
theorem okX0_record : MOK mX0_record 1 := ⟨by decide +kernel, ⟨by decide +kernel, by decide +kernel⟩, by decide +kernel, tb_in 530 (by decide +kernel) (by decide +kernel), tb_in 28 (by decide +kernel) (by decide +kernel)⟩
theorem ivX0_record : Cond.instanceMethod mX0_record.1 ∈ tbG := tb_in 528 (by decide +kernel) (by decide +kernel)
theorem seX0_record : Cond.selects mX0_record.1.cls mX0_record.1 mX0_record.1 ∈ tbG := tb_in 529 (by decide +kernel) (by decide +kernel)
def mX0_restoreLatest : MI := (yX0_restoreLatest, cX0_restoreLatest, 2, (Option.none : Option Jvm.ClassFile.FieldType), 3, 61)
theorem okX0_restoreLatest : MOK mX0_restoreLatest 1 := ⟨by decide +kernel, ⟨by decide +kernel, by decide +kernel⟩, by decide +kernel, tb_in 610 (by decide +kernel) (by decide +kernel), tb_in 28 (by decide +kernel) (by decide +kernel)⟩
theorem ivX0_restoreLatest : Cond.instanceMethod mX0_restoreLatest.1 ∈ tbG := tb_in 608 (by decide +kernel) (by decide +kernel)
theorem seX0_restoreLatest : Cond.selects mX0_restoreLatest.1.cls mX0_restoreLatest.1 mX0_restoreLatest.1 ∈ tbG := tb_in 609 (by decide +kernel) (by decide +kernel)
def mX1_routeWith : MI := (yX1_routeWith, cX1_routeWith, 5, (Option.some (Jvm.ClassFile.FieldType.object "SharedRides$Route")), 2, 39)
theorem okX1_routeWith : MOK mX1_routeWith 4 := ⟨by decide +kernel, ⟨by decide +kernel, by decide +kernel⟩, by decide +kernel, tb_in 471 (by decide +kernel) (by decide +kernel), tb_in 24 (by decide +kernel) (by decide +kernel)⟩
theorem ivX1_routeWith : Cond.instanceMethod mX1_routeWith.1 ∈ tbG := tb_in 469 (by decide +kernel) (by decide +kernel)
theorem seX1_routeWith : Cond.selects mX1_routeWith.1.cls mX1_routeWith.1 mX1_routeWith.1 ∈ tbG := tb_in 470 (by decide +kernel) (by decide +kernel)
def mX1_startOver : MI := (yX1_startOver, cX1_startOver, 1, (Option.none : Option Jvm.ClassFile.FieldType), 0, 0)
theorem okX1_startOver : MOK mX1_startOver 0 := ⟨by decide +kernel, ⟨by decide +kernel, by decide +kernel⟩, by decide +kernel, tb_in 504 (by decide +kernel) (by decide +kernel), tb_in 24 (by decide +kernel) (by decide +kernel)⟩
theorem ivX1_startOver : Cond.instanceMethod mX1_startOver.1 ∈ tbG := tb_in 502 (by decide +kernel) (by decide +kernel)
theorem seX1_startOver : Cond.selects mX1_startOver.1.cls mX1_startOver.1 mX1_startOver.1 ∈ tbG := tb_in 503 (by decide +kernel) (by decide +kernel)
def mX1_tryRoute : MI := (yX1_tryRoute, cX1_tryRoute, 6, (Option.none : Option Jvm.ClassFile.FieldType), 3, 63)
theorem okX1_tryRoute : MOK mX1_tryRoute 2 := ⟨by decide +kernel, ⟨by decide +kernel, by decide +kernel⟩, by decide +kernel, tb_in 509 (by decide +kernel) (by decide +kernel), tb_in 24 (by decide +kernel) (by decide +kernel)⟩
theorem ivX1_tryRoute : Cond.instanceMethod mX1_tryRoute.1 ∈ tbG := tb_in 507 (by decide +kernel) (by decide +kernel)
theorem seX1_tryRoute : Cond.selects mX1_tryRoute.1.cls mX1_tryRoute.1 mX1_tryRoute.1 ∈ tbG := tb_in 508 (by decide +kernel) (by decide +kernel)
def mX1_tryAllBut : MI := (yX1_tryAllBut, cX1_tryAllBut, 5, (Option.none : Option Jvm.ClassFile.FieldType), 4, 88)
theorem okX1_tryAllBut : MOK mX1_tryAllBut 3 := ⟨by decide +kernel, ⟨by decide +kernel, by decide +kernel⟩, by decide +kernel, tb_in 520 (by decide +kernel) (by decide +kernel), tb_in 24 (by decide +kernel) (by decide +kernel)⟩
theorem ivX1_tryAllBut : Cond.instanceMethod mX1_tryAllBut.1 ∈ tbG := tb_in 518 (by decide +kernel) (by decide +kernel)
theorem seX1_tryAllBut : Cond.selects mX1_tryAllBut.1.cls mX1_tryAllBut.1 mX1_tryAllBut.1 ∈ tbG := tb_in 519 (by decide +kernel) (by decide +kernel)
def mX1_carryOut : MI := (yX1_carryOut, cX1_carryOut, 3, (Option.some Jvm.ClassFile.FieldType.boolean), 2, 48)
theorem okX1_carryOut : MOK mX1_carryOut 2 := ⟨by decide +kernel, ⟨by decide +kernel, by decide +kernel⟩, by decide +kernel, tb_in 540 (by decide +kernel) (by decide +kernel), tb_in 24 (by decide +kernel) (by decide +kernel)⟩
theorem ivX1_carryOut : Cond.instanceMethod mX1_carryOut.1 ∈ tbG := tb_in 538 (by decide +kernel) (by decide +kernel)
theorem seX1_carryOut : Cond.selects mX1_carryOut.1.cls mX1_carryOut.1 mX1_carryOut.1 ∈ tbG := tb_in 539 (by decide +kernel) (by decide +kernel)
def mX2_findChain : MI := (yX2_findChain, cX2_findChain, 4, (Option.none : Option Jvm.ClassFile.FieldType), 6, 137)
theorem okX2_findChain : MOK mX2_findChain 2 := ⟨by decide +kernel, ⟨by decide +kernel, by decide +kernel⟩, by decide +kernel, tb_in 565 (by decide +kernel) (by decide +kernel), tb_in 26 (by decide +kernel) (by decide +kernel)⟩
theorem ivX2_findChain : Cond.instanceMethod mX2_findChain.1 ∈ tbG := tb_in 563 (by decide +kernel) (by decide +kernel)
theorem seX2_findChain : Cond.selects mX2_findChain.1.cls mX2_findChain.1 mX2_findChain.1 ∈ tbG := tb_in 564 (by decide +kernel) (by decide +kernel)
def mX2_findImprovement : MI := (yX2_findImprovement, cX2_findImprovement, 3, (Option.none : Option Jvm.ClassFile.FieldType), 5, 112)
theorem okX2_findImprovement : MOK mX2_findImprovement 1 := ⟨by decide +kernel, ⟨by decide +kernel, by decide +kernel⟩, by decide +kernel, tb_in 602 (by decide +kernel) (by decide +kernel), tb_in 26 (by decide +kernel) (by decide +kernel)⟩
theorem ivX2_findImprovement : Cond.instanceMethod mX2_findImprovement.1 ∈ tbG := tb_in 600 (by decide +kernel) (by decide +kernel)
theorem seX2_findImprovement : Cond.selects mX2_findImprovement.1.cls mX2_findImprovement.1 mX2_findImprovement.1 ∈ tbG := tb_in 601 (by decide +kernel) (by decide +kernel)
def mX2_startOver : MI := (yX2_startOver, cX2_startOver, 3, (Option.none : Option Jvm.ClassFile.FieldType), 2, 47)
theorem okX2_startOver : MOK mX2_startOver 2 := ⟨by decide +kernel, ⟨by decide +kernel, by decide +kernel⟩, by decide +kernel, tb_in 570 (by decide +kernel) (by decide +kernel), tb_in 26 (by decide +kernel) (by decide +kernel)⟩
theorem ivX2_startOver : Cond.instanceMethod mX2_startOver.1 ∈ tbG := tb_in 569 (by decide +kernel) (by decide +kernel)
theorem seX2_startOver : Cond.selects mX2_startOver.1.cls mX2_startOver.1 mX2_startOver.1 ∈ tbG := tb_in 13 (by decide +kernel) (by decide +kernel)
def mX2_tryShortChain : MI := (yX2_tryShortChain, cX2_tryShortChain, 5, (Option.none : Option Jvm.ClassFile.FieldType), 5, 112)
theorem okX2_tryShortChain : MOK mX2_tryShortChain 3 := ⟨by decide +kernel, ⟨by decide +kernel, by decide +kernel⟩, by decide +kernel, tb_in 575 (by decide +kernel) (by decide +kernel), tb_in 26 (by decide +kernel) (by decide +kernel)⟩
theorem ivX2_tryShortChain : Cond.instanceMethod mX2_tryShortChain.1 ∈ tbG := tb_in 574 (by decide +kernel) (by decide +kernel)
theorem seX2_tryShortChain : Cond.selects mX2_tryShortChain.1.cls mX2_tryShortChain.1 mX2_tryShortChain.1 ∈ tbG := tb_in 14 (by decide +kernel) (by decide +kernel)
def mX2_tryLongChains : MI := (yX2_tryLongChains, cX2_tryLongChains, 6, (Option.none : Option Jvm.ClassFile.FieldType), 5, 112)
theorem okX2_tryLongChains : MOK mX2_tryLongChains 3 := ⟨by decide +kernel, ⟨by decide +kernel, by decide +kernel⟩, by decide +kernel, tb_in 593 (by decide +kernel) (by decide +kernel), tb_in 26 (by decide +kernel) (by decide +kernel)⟩
theorem ivX2_tryLongChains : Cond.instanceMethod mX2_tryLongChains.1 ∈ tbG := tb_in 592 (by decide +kernel) (by decide +kernel)
theorem seX2_tryLongChains : Cond.selects mX2_tryLongChains.1.cls mX2_tryLongChains.1 mX2_tryLongChains.1 ∈ tbG := tb_in 17 (by decide +kernel) (by decide +kernel)
def mX2_displace : MI := (yX2_displace, cX2_displace, 5, (Option.some Jvm.ClassFile.FieldType.boolean), 4, 88)
theorem okX2_displace : MOK mX2_displace 3 := ⟨by decide +kernel, ⟨by decide +kernel, by decide +kernel⟩, by decide +kernel, tb_in 580 (by decide +kernel) (by decide +kernel), tb_in 26 (by decide +kernel) (by decide +kernel)⟩
theorem ivX2_displace : Cond.instanceMethod mX2_displace.1 ∈ tbG := tb_in 579 (by decide +kernel) (by decide +kernel)
theorem seX2_displace : Cond.selects mX2_displace.1.cls mX2_displace.1 mX2_displace.1 ∈ tbG := tb_in 15 (by decide +kernel) (by decide +kernel)
def mX2_keepIfBest : MI := (yX2_keepIfBest, cX2_keepIfBest, 4, (Option.none : Option Jvm.ClassFile.FieldType), 3, 61)
theorem okX2_keepIfBest : MOK mX2_keepIfBest 2 := ⟨by decide +kernel, ⟨by decide +kernel, by decide +kernel⟩, by decide +kernel, tb_in 589 (by decide +kernel) (by decide +kernel), tb_in 26 (by decide +kernel) (by decide +kernel)⟩
theorem ivX2_keepIfBest : Cond.instanceMethod mX2_keepIfBest.1 ∈ tbG := tb_in 588 (by decide +kernel) (by decide +kernel)
theorem seX2_keepIfBest : Cond.selects mX2_keepIfBest.1.cls mX2_keepIfBest.1 mX2_keepIfBest.1 ∈ tbG := tb_in 16 (by decide +kernel) (by decide +kernel)
def mX3_become : MI := (yX3_become, cX3_become, 3, (Option.none : Option Jvm.ClassFile.FieldType), 2, 39)
theorem okX3_become : MOK mX3_become 1 := ⟨by decide +kernel, ⟨by decide +kernel, by decide +kernel⟩, by decide +kernel, tb_in 534 (by decide +kernel) (by decide +kernel), tb_in 27 (by decide +kernel) (by decide +kernel)⟩
theorem ivX3_become : Cond.instanceMethod mX3_become.1 ∈ tbG := tb_in 532 (by decide +kernel) (by decide +kernel)
theorem seX3_become : Cond.selects mX3_become.1.cls mX3_become.1 mX3_become.1 ∈ tbG := tb_in 533 (by decide +kernel) (by decide +kernel)
def mX3_put : MI := (yX3_put, cX3_put, 5, (Option.none : Option Jvm.ClassFile.FieldType), 1, 24)
theorem okX3_put : MOK mX3_put 4 := ⟨by decide +kernel, ⟨by decide +kernel, by decide +kernel⟩, by decide +kernel, tb_in 544 (by decide +kernel) (by decide +kernel), tb_in 27 (by decide +kernel) (by decide +kernel)⟩
theorem ivX3_put : Cond.instanceMethod mX3_put.1 ∈ tbG := tb_in 542 (by decide +kernel) (by decide +kernel)
theorem seX3_put : Cond.selects mX3_put.1.cls mX3_put.1 mX3_put.1 ∈ tbG := tb_in 543 (by decide +kernel) (by decide +kernel)
def mX3_take : MI := (yX3_take, cX3_take, 2, (Option.none : Option Jvm.ClassFile.FieldType), 1, 23)
theorem okX3_take : MOK mX3_take 1 := ⟨by decide +kernel, ⟨by decide +kernel, by decide +kernel⟩, by decide +kernel, tb_in 553 (by decide +kernel) (by decide +kernel), tb_in 27 (by decide +kernel) (by decide +kernel)⟩
theorem ivX3_take : Cond.instanceMethod mX3_take.1 ∈ tbG := tb_in 551 (by decide +kernel) (by decide +kernel)
theorem seX3_take : Cond.selects mX3_take.1.cls mX3_take.1 mX3_take.1 ∈ tbG := tb_in 552 (by decide +kernel) (by decide +kernel)
def mX3_requestsOf : MI := (yX3_requestsOf, cX3_requestsOf, 4, (Option.some Jvm.ClassFile.FieldType.int), 0, 0)
theorem okX3_requestsOf : MOK mX3_requestsOf 1 := ⟨by decide +kernel, ⟨by decide +kernel, by decide +kernel⟩, by decide +kernel, tb_in 459 (by decide +kernel) (by decide +kernel), tb_in 27 (by decide +kernel) (by decide +kernel)⟩
theorem ivX3_requestsOf : Cond.instanceMethod mX3_requestsOf.1 ∈ tbG := tb_in 457 (by decide +kernel) (by decide +kernel)
theorem seX3_requestsOf : Cond.selects mX3_requestsOf.1.cls mX3_requestsOf.1 mX3_requestsOf.1 ∈ tbG := tb_in 458 (by decide +kernel) (by decide +kernel)
def mX4_keepPlace : MI := (yX4_keepPlace, cX4_keepPlace, 6, (Option.none : Option Jvm.ClassFile.FieldType), 1, 21)
theorem okX4_keepPlace : MOK mX4_keepPlace 3 := ⟨by decide +kernel, ⟨by decide +kernel, by decide +kernel⟩, by decide +kernel, tb_in 348 (by decide +kernel) (by decide +kernel), tb_in 22 (by decide +kernel) (by decide +kernel)⟩
theorem ivX4_keepPlace : Cond.instanceMethod mX4_keepPlace.1 ∈ tbG := tb_in 346 (by decide +kernel) (by decide +kernel)
theorem seX4_keepPlace : Cond.selects mX4_keepPlace.1.cls mX4_keepPlace.1 mX4_keepPlace.1 ∈ tbG := tb_in 347 (by decide +kernel) (by decide +kernel)
def mX4_keepWindow : MI := (yX4_keepWindow, cX4_keepWindow, 4, (Option.none : Option Jvm.ClassFile.FieldType), 0, 0)
theorem okX4_keepWindow : MOK mX4_keepWindow 3 := ⟨by decide +kernel, ⟨by decide +kernel, by decide +kernel⟩, by decide +kernel, tb_in 370 (by decide +kernel) (by decide +kernel), tb_in 22 (by decide +kernel) (by decide +kernel)⟩
theorem ivX4_keepWindow : Cond.instanceMethod mX4_keepWindow.1 ∈ tbG := tb_in 368 (by decide +kernel) (by decide +kernel)
theorem seX4_keepWindow : Cond.selects mX4_keepWindow.1.cls mX4_keepWindow.1 mX4_keepWindow.1 ∈ tbG := tb_in 369 (by decide +kernel) (by decide +kernel)
def mX4_keepLoad : MI := (yX4_keepLoad, cX4_keepLoad, 3, (Option.none : Option Jvm.ClassFile.FieldType), 0, 0)
theorem okX4_keepLoad : MOK mX4_keepLoad 2 := ⟨by decide +kernel, ⟨by decide +kernel, by decide +kernel⟩, by decide +kernel, tb_in 366 (by decide +kernel) (by decide +kernel), tb_in 22 (by decide +kernel) (by decide +kernel)⟩
theorem ivX4_keepLoad : Cond.instanceMethod mX4_keepLoad.1 ∈ tbG := tb_in 364 (by decide +kernel) (by decide +kernel)
theorem seX4_keepLoad : Cond.selects mX4_keepLoad.1.cls mX4_keepLoad.1 mX4_keepLoad.1 ∈ tbG := tb_in 365 (by decide +kernel) (by decide +kernel)
def mX4_length : MI := (yX4_length, cX4_length, 5, (Option.some Jvm.ClassFile.FieldType.int), 0, 0)
theorem okX4_length : MOK mX4_length 1 := ⟨by decide +kernel, ⟨by decide +kernel, by decide +kernel⟩, by decide +kernel, tb_in 441 (by decide +kernel) (by decide +kernel), tb_in 22 (by decide +kernel) (by decide +kernel)⟩
theorem ivX4_length : Cond.instanceMethod mX4_length.1 ∈ tbG := tb_in 439 (by decide +kernel) (by decide +kernel)
theorem seX4_length : Cond.selects mX4_length.1.cls mX4_length.1 mX4_length.1 ∈ tbG := tb_in 440 (by decide +kernel) (by decide +kernel)
def mX4_totalLength : MI := (yX4_totalLength, cX4_totalLength, 4, (Option.some Jvm.ClassFile.FieldType.int), 1, 24)
theorem okX4_totalLength : MOK mX4_totalLength 1 := ⟨by decide +kernel, ⟨by decide +kernel, by decide +kernel⟩, by decide +kernel, tb_in 437 (by decide +kernel) (by decide +kernel), tb_in 22 (by decide +kernel) (by decide +kernel)⟩
theorem ivX4_totalLength : Cond.instanceMethod mX4_totalLength.1 ∈ tbG := tb_in 435 (by decide +kernel) (by decide +kernel)
theorem seX4_totalLength : Cond.selects mX4_totalLength.1.cls mX4_totalLength.1 mX4_totalLength.1 ∈ tbG := tb_in 436 (by decide +kernel) (by decide +kernel)
def mX4_addedLength : MI := (yX4_addedLength, cX4_addedLength, 11, (Option.some Jvm.ClassFile.FieldType.int), 1, 21)
theorem okX4_addedLength : MOK mX4_addedLength 4 := ⟨by decide +kernel, ⟨by decide +kernel, by decide +kernel⟩, by decide +kernel, tb_in 484 (by decide +kernel) (by decide +kernel), tb_in 22 (by decide +kernel) (by decide +kernel)⟩
theorem ivX4_addedLength : Cond.instanceMethod mX4_addedLength.1 ∈ tbG := tb_in 482 (by decide +kernel) (by decide +kernel)
theorem seX4_addedLength : Cond.selects mX4_addedLength.1.cls mX4_addedLength.1 mX4_addedLength.1 ∈ tbG := tb_in 483 (by decide +kernel) (by decide +kernel)
def mX5_become : MI := (yX5_become, cX5_become, 2, (Option.none : Option Jvm.ClassFile.FieldType), 1, 18)
theorem okX5_become : MOK mX5_become 1 := ⟨by decide +kernel, ⟨by decide +kernel, by decide +kernel⟩, by decide +kernel, tb_in 475 (by decide +kernel) (by decide +kernel), tb_in 25 (by decide +kernel) (by decide +kernel)⟩
theorem ivX5_become : Cond.instanceMethod mX5_become.1 ∈ tbG := tb_in 473 (by decide +kernel) (by decide +kernel)
theorem seX5_become : Cond.selects mX5_become.1.cls mX5_become.1 mX5_become.1 ∈ tbG := tb_in 474 (by decide +kernel) (by decide +kernel)
def mX5_placeAt : MI := (yX5_placeAt, cX5_placeAt, 2, (Option.some Jvm.ClassFile.FieldType.int), 0, 0)
theorem okX5_placeAt : MOK mX5_placeAt 1 := ⟨by decide +kernel, ⟨by decide +kernel, by decide +kernel⟩, by decide +kernel, tb_in 488 (by decide +kernel) (by decide +kernel), tb_in 25 (by decide +kernel) (by decide +kernel)⟩
theorem ivX5_placeAt : Cond.instanceMethod mX5_placeAt.1 ∈ tbG := tb_in 486 (by decide +kernel) (by decide +kernel)
theorem seX5_placeAt : Cond.selects mX5_placeAt.1.cls mX5_placeAt.1 mX5_placeAt.1 ∈ tbG := tb_in 487 (by decide +kernel) (by decide +kernel)
def mX5_put : MI := (yX5_put, cX5_put, 5, (Option.none : Option Jvm.ClassFile.FieldType), 0, 0)
theorem okX5_put : MOK mX5_put 3 := ⟨by decide +kernel, ⟨by decide +kernel, by decide +kernel⟩, by decide +kernel, tb_in 480 (by decide +kernel) (by decide +kernel), tb_in 25 (by decide +kernel) (by decide +kernel)⟩
theorem ivX5_put : Cond.instanceMethod mX5_put.1 ∈ tbG := tb_in 478 (by decide +kernel) (by decide +kernel)
theorem seX5_put : Cond.selects mX5_put.1.cls mX5_put.1 mX5_put.1 ∈ tbG := tb_in 479 (by decide +kernel) (by decide +kernel)
def mX5_take : MI := (yX5_take, cX5_take, 4, (Option.none : Option Jvm.ClassFile.FieldType), 0, 0)
theorem okX5_take : MOK mX5_take 1 := ⟨by decide +kernel, ⟨by decide +kernel, by decide +kernel⟩, by decide +kernel, tb_in 557 (by decide +kernel) (by decide +kernel), tb_in 25 (by decide +kernel) (by decide +kernel)⟩
theorem ivX5_take : Cond.instanceMethod mX5_take.1 ∈ tbG := tb_in 555 (by decide +kernel) (by decide +kernel)
theorem seX5_take : Cond.selects mX5_take.1.cls mX5_take.1 mX5_take.1 ∈ tbG := tb_in 556 (by decide +kernel) (by decide +kernel)
def mX6_fits : MI := (yX6_fits, cX6_fits, 5, (Option.some Jvm.ClassFile.FieldType.boolean), 1, 25)
theorem okX6_fits : MOK mX6_fits 1 := ⟨by decide +kernel, ⟨by decide +kernel, by decide +kernel⟩, by decide +kernel, tb_in 390 (by decide +kernel) (by decide +kernel), tb_in 23 (by decide +kernel) (by decide +kernel)⟩
theorem ivX6_fits : Cond.instanceMethod mX6_fits.1 ∈ tbG := tb_in 388 (by decide +kernel) (by decide +kernel)
theorem seX6_fits : Cond.selects mX6_fits.1.cls mX6_fits.1 mX6_fits.1 ∈ tbG := tb_in 389 (by decide +kernel) (by decide +kernel)
def mX6_makeLatest : MI := (yX6_makeLatest, cX6_makeLatest, 5, (Option.none : Option Jvm.ClassFile.FieldType), 1, 25)
theorem okX6_makeLatest : MOK mX6_makeLatest 1 := ⟨by decide +kernel, ⟨by decide +kernel, by decide +kernel⟩, by decide +kernel, tb_in 635 (by decide +kernel) (by decide +kernel), tb_in 23 (by decide +kernel) (by decide +kernel)⟩
theorem ivX6_makeLatest : Cond.instanceMethod mX6_makeLatest.1 ∈ tbG := tb_in 633 (by decide +kernel) (by decide +kernel)
theorem seX6_makeLatest : Cond.selects mX6_makeLatest.1.cls mX6_makeLatest.1 mX6_makeLatest.1 ∈ tbG := tb_in 634 (by decide +kernel) (by decide +kernel)
def mX6_waitBefore : MI := (yX6_waitBefore, cX6_waitBefore, 2, (Option.some Jvm.ClassFile.FieldType.int), 0, 0)
theorem okX6_waitBefore : MOK mX6_waitBefore 1 := ⟨by decide +kernel, ⟨by decide +kernel, by decide +kernel⟩, by decide +kernel, tb_in 647 (by decide +kernel) (by decide +kernel), tb_in 23 (by decide +kernel) (by decide +kernel)⟩
theorem ivX6_waitBefore : Cond.instanceMethod mX6_waitBefore.1 ∈ tbG := tb_in 645 (by decide +kernel) (by decide +kernel)
theorem seX6_waitBefore : Cond.selects mX6_waitBefore.1.cls mX6_waitBefore.1 mX6_waitBefore.1 ∈ tbG := tb_in 646 (by decide +kernel) (by decide +kernel)
def mX6_minutesAboard : MI := (yX6_minutesAboard, cX6_minutesAboard, 5, (Option.some Jvm.ClassFile.FieldType.int), 0, 0)
theorem okX6_minutesAboard : MOK mX6_minutesAboard 2 := ⟨by decide +kernel, ⟨by decide +kernel, by decide +kernel⟩, by decide +kernel, tb_in 661 (by decide +kernel) (by decide +kernel), tb_in 23 (by decide +kernel) (by decide +kernel)⟩
theorem ivX6_minutesAboard : Cond.instanceMethod mX6_minutesAboard.1 ∈ tbG := tb_in 659 (by decide +kernel) (by decide +kernel)
theorem seX6_minutesAboard : Cond.selects mX6_minutesAboard.1.cls mX6_minutesAboard.1 mX6_minutesAboard.1 ∈ tbG := tb_in 660 (by decide +kernel) (by decide +kernel)
def mX6_lookAt : MI := (yX6_lookAt, cX6_lookAt, 6, (Option.none : Option Jvm.ClassFile.FieldType), 0, 0)
theorem okX6_lookAt : MOK mX6_lookAt 1 := ⟨by decide +kernel, ⟨by decide +kernel, by decide +kernel⟩, by decide +kernel, tb_in 394 (by decide +kernel) (by decide +kernel), tb_in 23 (by decide +kernel) (by decide +kernel)⟩
theorem ivX6_lookAt : Cond.instanceMethod mX6_lookAt.1 ∈ tbG := tb_in 392 (by decide +kernel) (by decide +kernel)
theorem seX6_lookAt : Cond.selects mX6_lookAt.1.cls mX6_lookAt.1 mX6_lookAt.1 ∈ tbG := tb_in 393 (by decide +kernel) (by decide +kernel)
def mX6_delayStops : MI := (yX6_delayStops, cX6_delayStops, 4, (Option.some Jvm.ClassFile.FieldType.boolean), 0, 0)
theorem okX6_delayStops : MOK mX6_delayStops 0 := ⟨by decide +kernel, ⟨by decide +kernel, by decide +kernel⟩, by decide +kernel, tb_in 401 (by decide +kernel) (by decide +kernel), tb_in 23 (by decide +kernel) (by decide +kernel)⟩
theorem ivX6_delayStops : Cond.instanceMethod mX6_delayStops.1 ∈ tbG := tb_in 400 (by decide +kernel) (by decide +kernel)
theorem seX6_delayStops : Cond.selects mX6_delayStops.1.cls mX6_delayStops.1 mX6_delayStops.1 ∈ tbG := tb_in 3 (by decide +kernel) (by decide +kernel)
def mX6_delayPickups : MI := (yX6_delayPickups, cX6_delayPickups, 4, (Option.some Jvm.ClassFile.FieldType.boolean), 0, 0)
theorem okX6_delayPickups : MOK mX6_delayPickups 0 := ⟨by decide +kernel, ⟨by decide +kernel, by decide +kernel⟩, by decide +kernel, tb_in 405 (by decide +kernel) (by decide +kernel), tb_in 23 (by decide +kernel) (by decide +kernel)⟩
theorem ivX6_delayPickups : Cond.instanceMethod mX6_delayPickups.1 ∈ tbG := tb_in 404 (by decide +kernel) (by decide +kernel)
theorem seX6_delayPickups : Cond.selects mX6_delayPickups.1.cls mX6_delayPickups.1 mX6_delayPickups.1 ∈ tbG := tb_in 4 (by decide +kernel) (by decide +kernel)
def mX6_isTooLate : MI := (yX6_isTooLate, cX6_isTooLate, 2, (Option.some Jvm.ClassFile.FieldType.boolean), 0, 0)
theorem okX6_isTooLate : MOK mX6_isTooLate 0 := ⟨by decide +kernel, ⟨by decide +kernel, by decide +kernel⟩, by decide +kernel, tb_in 409 (by decide +kernel) (by decide +kernel), tb_in 23 (by decide +kernel) (by decide +kernel)⟩
theorem ivX6_isTooLate : Cond.instanceMethod mX6_isTooLate.1 ∈ tbG := tb_in 408 (by decide +kernel) (by decide +kernel)
theorem seX6_isTooLate : Cond.selects mX6_isTooLate.1.cls mX6_isTooLate.1 mX6_isTooLate.1 ∈ tbG := tb_in 5 (by decide +kernel) (by decide +kernel)
def mX6_advanceStops : MI := (yX6_advanceStops, cX6_advanceStops, 4, (Option.some Jvm.ClassFile.FieldType.boolean), 0, 0)
theorem okX6_advanceStops : MOK mX6_advanceStops 0 := ⟨by decide +kernel, ⟨by decide +kernel, by decide +kernel⟩, by decide +kernel, tb_in 639 (by decide +kernel) (by decide +kernel), tb_in 23 (by decide +kernel) (by decide +kernel)⟩
theorem ivX6_advanceStops : Cond.instanceMethod mX6_advanceStops.1 ∈ tbG := tb_in 638 (by decide +kernel) (by decide +kernel)
theorem seX6_advanceStops : Cond.selects mX6_advanceStops.1.cls mX6_advanceStops.1 mX6_advanceStops.1 ∈ tbG := tb_in 18 (by decide +kernel) (by decide +kernel)
def mX6_advanceDrops : MI := (yX6_advanceDrops, cX6_advanceDrops, 4, (Option.some Jvm.ClassFile.FieldType.boolean), 0, 0)
theorem okX6_advanceDrops : MOK mX6_advanceDrops 0 := ⟨by decide +kernel, ⟨by decide +kernel, by decide +kernel⟩, by decide +kernel, tb_in 643 (by decide +kernel) (by decide +kernel), tb_in 23 (by decide +kernel) (by decide +kernel)⟩
theorem ivX6_advanceDrops : Cond.instanceMethod mX6_advanceDrops.1 ∈ tbG := tb_in 642 (by decide +kernel) (by decide +kernel)
theorem seX6_advanceDrops : Cond.selects mX6_advanceDrops.1.cls mX6_advanceDrops.1 mX6_advanceDrops.1 ∈ tbG := tb_in 19 (by decide +kernel) (by decide +kernel)
def mX7_addVehicle : MI := (yX7_addVehicle, cX7_addVehicle, 7, (Option.some Jvm.ClassFile.FieldType.int), 2, 46)
theorem okX7_addVehicle : MOK mX7_addVehicle 5 := ⟨by decide +kernel, ⟨by decide +kernel, by decide +kernel⟩, by decide +kernel, tb_in 335 (by decide +kernel) (by decide +kernel), tb_in 21 (by decide +kernel) (by decide +kernel)⟩
theorem ivX7_addVehicle : Cond.instanceMethod mX7_addVehicle.1 ∈ tbG := tb_in 333 (by decide +kernel) (by decide +kernel)
theorem seX7_addVehicle : Cond.selects mX7_addVehicle.1.cls mX7_addVehicle.1 mX7_addVehicle.1 ∈ tbG := tb_in 334 (by decide +kernel) (by decide +kernel)
def mX7_addRequest : MI := (yX7_addRequest, cX7_addRequest, 8, (Option.some Jvm.ClassFile.FieldType.int), 2, 46)
theorem okX7_addRequest : MOK mX7_addRequest 6 := ⟨by decide +kernel, ⟨by decide +kernel, by decide +kernel⟩, by decide +kernel, tb_in 359 (by decide +kernel) (by decide +kernel), tb_in 21 (by decide +kernel) (by decide +kernel)⟩
theorem ivX7_addRequest : Cond.instanceMethod mX7_addRequest.1 ∈ tbG := tb_in 357 (by decide +kernel) (by decide +kernel)
theorem seX7_addRequest : Cond.selects mX7_addRequest.1.cls mX7_addRequest.1 mX7_addRequest.1 ∈ tbG := tb_in 358 (by decide +kernel) (by decide +kernel)
def mX7_setWindow : MI := (yX7_setWindow, cX7_setWindow, 8, (Option.some Jvm.ClassFile.FieldType.int), 3, 70)
theorem okX7_setWindow : MOK mX7_setWindow 4 := ⟨by decide +kernel, ⟨by decide +kernel, by decide +kernel⟩, by decide +kernel, tb_in 374 (by decide +kernel) (by decide +kernel), tb_in 21 (by decide +kernel) (by decide +kernel)⟩
theorem ivX7_setWindow : Cond.instanceMethod mX7_setWindow.1 ∈ tbG := tb_in 372 (by decide +kernel) (by decide +kernel)
theorem seX7_setWindow : Cond.selects mX7_setWindow.1.cls mX7_setWindow.1 mX7_setWindow.1 ∈ tbG := tb_in 373 (by decide +kernel) (by decide +kernel)
def mX7_setLimit : MI := (yX7_setLimit, cX7_setLimit, 4, (Option.some Jvm.ClassFile.FieldType.int), 3, 70)
theorem okX7_setLimit : MOK mX7_setLimit 2 := ⟨by decide +kernel, ⟨by decide +kernel, by decide +kernel⟩, by decide +kernel, tb_in 413 (by decide +kernel) (by decide +kernel), tb_in 21 (by decide +kernel) (by decide +kernel)⟩
theorem ivX7_setLimit : Cond.instanceMethod mX7_setLimit.1 ∈ tbG := tb_in 411 (by decide +kernel) (by decide +kernel)
theorem seX7_setLimit : Cond.selects mX7_setLimit.1.cls mX7_setLimit.1 mX7_setLimit.1 ∈ tbG := tb_in 412 (by decide +kernel) (by decide +kernel)
def mX7_setLoad : MI := (yX7_setLoad, cX7_setLoad, 4, (Option.some Jvm.ClassFile.FieldType.int), 3, 70)
theorem okX7_setLoad : MOK mX7_setLoad 2 := ⟨by decide +kernel, ⟨by decide +kernel, by decide +kernel⟩, by decide +kernel, tb_in 417 (by decide +kernel) (by decide +kernel), tb_in 21 (by decide +kernel) (by decide +kernel)⟩
theorem ivX7_setLoad : Cond.instanceMethod mX7_setLoad.1 ∈ tbG := tb_in 415 (by decide +kernel) (by decide +kernel)
theorem seX7_setLoad : Cond.selects mX7_setLoad.1.cls mX7_setLoad.1 mX7_setLoad.1 ∈ tbG := tb_in 416 (by decide +kernel) (by decide +kernel)
def mX7_setService : MI := (yX7_setService, cX7_setService, 3, (Option.some Jvm.ClassFile.FieldType.int), 3, 70)
theorem okX7_setService : MOK mX7_setService 1 := ⟨by decide +kernel, ⟨by decide +kernel, by decide +kernel⟩, by decide +kernel, tb_in 421 (by decide +kernel) (by decide +kernel), tb_in 21 (by decide +kernel) (by decide +kernel)⟩
theorem ivX7_setService : Cond.instanceMethod mX7_setService.1 ∈ tbG := tb_in 419 (by decide +kernel) (by decide +kernel)
theorem seX7_setService : Cond.selects mX7_setService.1.cls mX7_setService.1 mX7_setService.1 ∈ tbG := tb_in 420 (by decide +kernel) (by decide +kernel)
def mX7_count : MI := (yX7_count, cX7_count, 2, (Option.some Jvm.ClassFile.FieldType.int), 2, 47)
theorem okX7_count : MOK mX7_count 1 := ⟨by decide +kernel, ⟨by decide +kernel, by decide +kernel⟩, by decide +kernel, tb_in 429 (by decide +kernel) (by decide +kernel), tb_in 21 (by decide +kernel) (by decide +kernel)⟩
theorem ivX7_count : Cond.instanceMethod mX7_count.1 ∈ tbG := tb_in 427 (by decide +kernel) (by decide +kernel)
theorem seX7_count : Cond.selects mX7_count.1.cls mX7_count.1 mX7_count.1 ∈ tbG := tb_in 428 (by decide +kernel) (by decide +kernel)
def mX7_request : MI := (yX7_request, cX7_request, 4, (Option.some Jvm.ClassFile.FieldType.int), 1, 21)
theorem okX7_request : MOK mX7_request 2 := ⟨by decide +kernel, ⟨by decide +kernel, by decide +kernel⟩, by decide +kernel, tb_in 445 (by decide +kernel) (by decide +kernel), tb_in 21 (by decide +kernel) (by decide +kernel)⟩
theorem ivX7_request : Cond.instanceMethod mX7_request.1 ∈ tbG := tb_in 443 (by decide +kernel) (by decide +kernel)
theorem seX7_request : Cond.selects mX7_request.1.cls mX7_request.1 mX7_request.1 ∈ tbG := tb_in 444 (by decide +kernel) (by decide +kernel)
def mX7_vehicle : MI := (yX7_vehicle, cX7_vehicle, 4, (Option.some Jvm.ClassFile.FieldType.int), 1, 25)
theorem okX7_vehicle : MOK mX7_vehicle 2 := ⟨by decide +kernel, ⟨by decide +kernel, by decide +kernel⟩, by decide +kernel, tb_in 449 (by decide +kernel) (by decide +kernel), tb_in 21 (by decide +kernel) (by decide +kernel)⟩
theorem ivX7_vehicle : Cond.instanceMethod mX7_vehicle.1 ∈ tbG := tb_in 447 (by decide +kernel) (by decide +kernel)
theorem seX7_vehicle : Cond.selects mX7_vehicle.1.cls mX7_vehicle.1 mX7_vehicle.1 ∈ tbG := tb_in 448 (by decide +kernel) (by decide +kernel)
def mX7_stop : MI := (yX7_stop, cX7_stop, 6, (Option.some Jvm.ClassFile.FieldType.int), 2, 49)
theorem okX7_stop : MOK mX7_stop 3 := ⟨by decide +kernel, ⟨by decide +kernel, by decide +kernel⟩, by decide +kernel, tb_in 631 (by decide +kernel) (by decide +kernel), tb_in 21 (by decide +kernel) (by decide +kernel)⟩
theorem ivX7_stop : Cond.instanceMethod mX7_stop.1 ∈ tbG := tb_in 629 (by decide +kernel) (by decide +kernel)
theorem seX7_stop : Cond.selects mX7_stop.1.cls mX7_stop.1 mX7_stop.1 ∈ tbG := tb_in 630 (by decide +kernel) (by decide +kernel)
def mX7_rideTime : MI := (yX7_rideTime, cX7_rideTime, 4, (Option.some Jvm.ClassFile.FieldType.int), 2, 49)
theorem okX7_rideTime : MOK mX7_rideTime 2 := ⟨by decide +kernel, ⟨by decide +kernel, by decide +kernel⟩, by decide +kernel, tb_in 657 (by decide +kernel) (by decide +kernel), tb_in 21 (by decide +kernel) (by decide +kernel)⟩
theorem ivX7_rideTime : Cond.instanceMethod mX7_rideTime.1 ∈ tbG := tb_in 655 (by decide +kernel) (by decide +kernel)
theorem seX7_rideTime : Cond.selects mX7_rideTime.1.cls mX7_rideTime.1 mX7_rideTime.1 ∈ tbG := tb_in 656 (by decide +kernel) (by decide +kernel)
def mX7_depotTime : MI := (yX7_depotTime, cX7_depotTime, 4, (Option.some Jvm.ClassFile.FieldType.int), 2, 49)
theorem okX7_depotTime : MOK mX7_depotTime 2 := ⟨by decide +kernel, ⟨by decide +kernel, by decide +kernel⟩, by decide +kernel, tb_in 665 (by decide +kernel) (by decide +kernel), tb_in 21 (by decide +kernel) (by decide +kernel)⟩
theorem ivX7_depotTime : Cond.instanceMethod mX7_depotTime.1 ∈ tbG := tb_in 663 (by decide +kernel) (by decide +kernel)
theorem seX7_depotTime : Cond.selects mX7_depotTime.1.cls mX7_depotTime.1 mX7_depotTime.1 ∈ tbG := tb_in 664 (by decide +kernel) (by decide +kernel)
def mX7_cost : MI := (yX7_cost, cX7_cost, 6, (Option.some Jvm.ClassFile.FieldType.int), 4, 88)
theorem okX7_cost : MOK mX7_cost 4 := ⟨by decide +kernel, ⟨by decide +kernel, by decide +kernel⟩, by decide +kernel, tb_in 463 (by decide +kernel) (by decide +kernel), tb_in 21 (by decide +kernel) (by decide +kernel)⟩
theorem ivX7_cost : Cond.instanceMethod mX7_cost.1 ∈ tbG := tb_in 461 (by decide +kernel) (by decide +kernel)
theorem seX7_cost : Cond.selects mX7_cost.1.cls mX7_cost.1 mX7_cost.1 ∈ tbG := tb_in 462 (by decide +kernel) (by decide +kernel)
def mX7_insert : MI := (yX7_insert, cX7_insert, 7, (Option.some Jvm.ClassFile.FieldType.int), 4, 88)
theorem okX7_insert : MOK mX7_insert 4 := ⟨by decide +kernel, ⟨by decide +kernel, by decide +kernel⟩, by decide +kernel, tb_in 687 (by decide +kernel) (by decide +kernel), tb_in 21 (by decide +kernel) (by decide +kernel)⟩
theorem ivX7_insert : Cond.instanceMethod mX7_insert.1 ∈ tbG := tb_in 685 (by decide +kernel) (by decide +kernel)
theorem seX7_insert : Cond.selects mX7_insert.1.cls mX7_insert.1 mX7_insert.1 ∈ tbG := tb_in 686 (by decide +kernel) (by decide +kernel)
def mX7_best : MI := (yX7_best, cX7_best, 4, (Option.some Jvm.ClassFile.FieldType.int), 4, 88)
theorem okX7_best : MOK mX7_best 2 := ⟨by decide +kernel, ⟨by decide +kernel, by decide +kernel⟩, by decide +kernel, tb_in 492 (by decide +kernel) (by decide +kernel), tb_in 21 (by decide +kernel) (by decide +kernel)⟩
theorem ivX7_best : Cond.instanceMethod mX7_best.1 ∈ tbG := tb_in 490 (by decide +kernel) (by decide +kernel)
theorem seX7_best : Cond.selects mX7_best.1.cls mX7_best.1 mX7_best.1 ∈ tbG := tb_in 491 (by decide +kernel) (by decide +kernel)
def mX7_assignTo : MI := (yX7_assignTo, cX7_assignTo, 4, (Option.some Jvm.ClassFile.FieldType.int), 5, 103)
theorem okX7_assignTo : MOK mX7_assignTo 2 := ⟨by decide +kernel, ⟨by decide +kernel, by decide +kernel⟩, by decide +kernel, tb_in 683 (by decide +kernel) (by decide +kernel), tb_in 21 (by decide +kernel) (by decide +kernel)⟩
theorem ivX7_assignTo : Cond.instanceMethod mX7_assignTo.1 ∈ tbG := tb_in 681 (by decide +kernel) (by decide +kernel)
theorem seX7_assignTo : Cond.selects mX7_assignTo.1.cls mX7_assignTo.1 mX7_assignTo.1 ∈ tbG := tb_in 682 (by decide +kernel) (by decide +kernel)
def mX7_assign : MI := (yX7_assign, cX7_assign, 3, (Option.some Jvm.ClassFile.FieldType.int), 5, 112)
theorem okX7_assign : MOK mX7_assign 1 := ⟨by decide +kernel, ⟨by decide +kernel, by decide +kernel⟩, by decide +kernel, tb_in 516 (by decide +kernel) (by decide +kernel), tb_in 21 (by decide +kernel) (by decide +kernel)⟩
theorem ivX7_assign : Cond.instanceMethod mX7_assign.1 ∈ tbG := tb_in 514 (by decide +kernel) (by decide +kernel)
theorem seX7_assign : Cond.selects mX7_assign.1.cls mX7_assign.1 mX7_assign.1 ∈ tbG := tb_in 515 (by decide +kernel) (by decide +kernel)
def mX7_remove : MI := (yX7_remove, cX7_remove, 3, (Option.some Jvm.ClassFile.FieldType.int), 4, 82)
theorem okX7_remove : MOK mX7_remove 1 := ⟨by decide +kernel, ⟨by decide +kernel, by decide +kernel⟩, by decide +kernel, tb_in 549 (by decide +kernel) (by decide +kernel), tb_in 21 (by decide +kernel) (by decide +kernel)⟩
theorem ivX7_remove : Cond.instanceMethod mX7_remove.1 ∈ tbG := tb_in 547 (by decide +kernel) (by decide +kernel)
theorem seX7_remove : Cond.selects mX7_remove.1.cls mX7_remove.1 mX7_remove.1 ∈ tbG := tb_in 548 (by decide +kernel) (by decide +kernel)
def mX7_chainCost : MI := (yX7_chainCost, cX7_chainCost, 3, (Option.some Jvm.ClassFile.FieldType.int), 7, 160)
theorem okX7_chainCost : MOK mX7_chainCost 1 := ⟨by decide +kernel, ⟨by decide +kernel, by decide +kernel⟩, by decide +kernel, tb_in 695 (by decide +kernel) (by decide +kernel), tb_in 21 (by decide +kernel) (by decide +kernel)⟩
theorem ivX7_chainCost : Cond.instanceMethod mX7_chainCost.1 ∈ tbG := tb_in 693 (by decide +kernel) (by decide +kernel)
theorem seX7_chainCost : Cond.selects mX7_chainCost.1.cls mX7_chainCost.1 mX7_chainCost.1 ∈ tbG := tb_in 694 (by decide +kernel) (by decide +kernel)
def mX7_chain : MI := (yX7_chain, cX7_chain, 3, (Option.some Jvm.ClassFile.FieldType.int), 7, 160)
theorem okX7_chain : MOK mX7_chain 1 := ⟨by decide +kernel, ⟨by decide +kernel, by decide +kernel⟩, by decide +kernel, tb_in 561 (by decide +kernel) (by decide +kernel), tb_in 21 (by decide +kernel) (by decide +kernel)⟩
theorem ivX7_chain : Cond.instanceMethod mX7_chain.1 ∈ tbG := tb_in 559 (by decide +kernel) (by decide +kernel)
theorem seX7_chain : Cond.selects mX7_chain.1.cls mX7_chain.1 mX7_chain.1 ∈ tbG := tb_in 560 (by decide +kernel) (by decide +kernel)
def mX7_improve : MI := (yX7_improve, cX7_improve, 1, (Option.some Jvm.ClassFile.FieldType.int), 6, 134)
theorem okX7_improve : MOK mX7_improve 0 := ⟨by decide +kernel, ⟨by decide +kernel, by decide +kernel⟩, by decide +kernel, tb_in 598 (by decide +kernel) (by decide +kernel), tb_in 21 (by decide +kernel) (by decide +kernel)⟩
theorem ivX7_improve : Cond.instanceMethod mX7_improve.1 ∈ tbG := tb_in 596 (by decide +kernel) (by decide +kernel)
theorem seX7_improve : Cond.selects mX7_improve.1.cls mX7_improve.1 mX7_improve.1 ∈ tbG := tb_in 597 (by decide +kernel) (by decide +kernel)
def mX7_undo : MI := (yX7_undo, cX7_undo, 1, (Option.some Jvm.ClassFile.FieldType.int), 4, 82)
theorem okX7_undo : MOK mX7_undo 0 := ⟨by decide +kernel, ⟨by decide +kernel, by decide +kernel⟩, by decide +kernel, tb_in 606 (by decide +kernel) (by decide +kernel), tb_in 21 (by decide +kernel) (by decide +kernel)⟩
theorem ivX7_undo : Cond.instanceMethod mX7_undo.1 ∈ tbG := tb_in 604 (by decide +kernel) (by decide +kernel)
theorem seX7_undo : Cond.selects mX7_undo.1.cls mX7_undo.1 mX7_undo.1 ∈ tbG := tb_in 605 (by decide +kernel) (by decide +kernel)
def mX7_isPlace : MI := (yX7_isPlace, cX7_isPlace, 2, (Option.some Jvm.ClassFile.FieldType.boolean), 0, 0)
theorem okX7_isPlace : MOK mX7_isPlace 2 := ⟨by decide +kernel, ⟨by decide +kernel, by decide +kernel⟩, by decide +kernel, tb_in 338 (by decide +kernel) (by decide +kernel), tb_in 21 (by decide +kernel) (by decide +kernel)⟩
theorem ssX7_isPlace : Cond.static mX7_isPlace.1 ∈ tbG := tb_in 337 (by decide +kernel) (by decide +kernel)
def mX7_isLoad : MI := (yX7_isLoad, cX7_isLoad, 1, (Option.some Jvm.ClassFile.FieldType.boolean), 0, 0)
theorem okX7_isLoad : MOK mX7_isLoad 1 := ⟨by decide +kernel, ⟨by decide +kernel, by decide +kernel⟩, by decide +kernel, tb_in 341 (by decide +kernel) (by decide +kernel), tb_in 21 (by decide +kernel) (by decide +kernel)⟩
theorem ssX7_isLoad : Cond.static mX7_isLoad.1 ∈ tbG := tb_in 340 (by decide +kernel) (by decide +kernel)
def mX7_isLimit : MI := (yX7_isLimit, cX7_isLimit, 1, (Option.some Jvm.ClassFile.FieldType.boolean), 0, 0)
theorem okX7_isLimit : MOK mX7_isLimit 1 := ⟨by decide +kernel, ⟨by decide +kernel, by decide +kernel⟩, by decide +kernel, tb_in 362 (by decide +kernel) (by decide +kernel), tb_in 21 (by decide +kernel) (by decide +kernel)⟩
theorem ssX7_isLimit : Cond.static mX7_isLimit.1 ∈ tbG := tb_in 361 (by decide +kernel) (by decide +kernel)
def mX7_isWindow : MI := (yX7_isWindow, cX7_isWindow, 2, (Option.some Jvm.ClassFile.FieldType.boolean), 0, 0)
theorem okX7_isWindow : MOK mX7_isWindow 2 := ⟨by decide +kernel, ⟨by decide +kernel, by decide +kernel⟩, by decide +kernel, tb_in 344 (by decide +kernel) (by decide +kernel), tb_in 21 (by decide +kernel) (by decide +kernel)⟩
theorem ssX7_isWindow : Cond.static mX7_isWindow.1 ∈ tbG := tb_in 343 (by decide +kernel) (by decide +kernel)
def mX7_isVehicle : MI := (yX7_isVehicle, cX7_isVehicle, 2, (Option.some Jvm.ClassFile.FieldType.boolean), 0, 0)
theorem okX7_isVehicle : MOK mX7_isVehicle 1 := ⟨by decide +kernel, ⟨by decide +kernel, by decide +kernel⟩, by decide +kernel, tb_in 453 (by decide +kernel) (by decide +kernel), tb_in 21 (by decide +kernel) (by decide +kernel)⟩
theorem ivX7_isVehicle : Cond.instanceMethod mX7_isVehicle.1 ∈ tbG := tb_in 452 (by decide +kernel) (by decide +kernel)
theorem seX7_isVehicle : Cond.selects mX7_isVehicle.1.cls mX7_isVehicle.1 mX7_isVehicle.1 ∈ tbG := tb_in 8 (by decide +kernel) (by decide +kernel)
def mX7_isRequest : MI := (yX7_isRequest, cX7_isRequest, 2, (Option.some Jvm.ClassFile.FieldType.boolean), 0, 0)
theorem okX7_isRequest : MOK mX7_isRequest 1 := ⟨by decide +kernel, ⟨by decide +kernel, by decide +kernel⟩, by decide +kernel, tb_in 378 (by decide +kernel) (by decide +kernel), tb_in 21 (by decide +kernel) (by decide +kernel)⟩
theorem ivX7_isRequest : Cond.instanceMethod mX7_isRequest.1 ∈ tbG := tb_in 377 (by decide +kernel) (by decide +kernel)
theorem seX7_isRequest : Cond.selects mX7_isRequest.1.cls mX7_isRequest.1 mX7_isRequest.1 ∈ tbG := tb_in 0 (by decide +kernel) (by decide +kernel)
def mX7_isOpen : MI := (yX7_isOpen, cX7_isOpen, 2, (Option.some Jvm.ClassFile.FieldType.boolean), 0, 0)
theorem okX7_isOpen : MOK mX7_isOpen 1 := ⟨by decide +kernel, ⟨by decide +kernel, by decide +kernel⟩, by decide +kernel, tb_in 386 (by decide +kernel) (by decide +kernel), tb_in 21 (by decide +kernel) (by decide +kernel)⟩
theorem ivX7_isOpen : Cond.instanceMethod mX7_isOpen.1 ∈ tbG := tb_in 385 (by decide +kernel) (by decide +kernel)
theorem seX7_isOpen : Cond.selects mX7_isOpen.1.cls mX7_isOpen.1 mX7_isOpen.1 ∈ tbG := tb_in 2 (by decide +kernel) (by decide +kernel)
def mX7_openRequests : MI := (yX7_openRequests, cX7_openRequests, 3, (Option.some Jvm.ClassFile.FieldType.int), 1, 21)
theorem okX7_openRequests : MOK mX7_openRequests 0 := ⟨by decide +kernel, ⟨by decide +kernel, by decide +kernel⟩, by decide +kernel, tb_in 433 (by decide +kernel) (by decide +kernel), tb_in 21 (by decide +kernel) (by decide +kernel)⟩
theorem ivX7_openRequests : Cond.instanceMethod mX7_openRequests.1 ∈ tbG := tb_in 432 (by decide +kernel) (by decide +kernel)
theorem seX7_openRequests : Cond.selects mX7_openRequests.1.cls mX7_openRequests.1 mX7_openRequests.1 ∈ tbG := tb_in 7 (by decide +kernel) (by decide +kernel)
def mX7_routeStillFits : MI := (yX7_routeStillFits, cX7_routeStillFits, 2, (Option.some Jvm.ClassFile.FieldType.boolean), 2, 49)
theorem okX7_routeStillFits : MOK mX7_routeStillFits 1 := ⟨by decide +kernel, ⟨by decide +kernel, by decide +kernel⟩, by decide +kernel, tb_in 382 (by decide +kernel) (by decide +kernel), tb_in 21 (by decide +kernel) (by decide +kernel)⟩
theorem ivX7_routeStillFits : Cond.instanceMethod mX7_routeStillFits.1 ∈ tbG := tb_in 381 (by decide +kernel) (by decide +kernel)
theorem seX7_routeStillFits : Cond.selects mX7_routeStillFits.1.cls mX7_routeStillFits.1 mX7_routeStillFits.1 ∈ tbG := tb_in 1 (by decide +kernel) (by decide +kernel)
def mX7_allRoutesStillFit : MI := (yX7_allRoutesStillFit, cX7_allRoutesStillFit, 2, (Option.some Jvm.ClassFile.FieldType.boolean), 2, 49)
theorem okX7_allRoutesStillFit : MOK mX7_allRoutesStillFit 0 := ⟨by decide +kernel, ⟨by decide +kernel, by decide +kernel⟩, by decide +kernel, tb_in 425 (by decide +kernel) (by decide +kernel), tb_in 21 (by decide +kernel) (by decide +kernel)⟩
theorem ivX7_allRoutesStillFit : Cond.instanceMethod mX7_allRoutesStillFit.1 ∈ tbG := tb_in 424 (by decide +kernel) (by decide +kernel)
theorem seX7_allRoutesStillFit : Cond.selects mX7_allRoutesStillFit.1.cls mX7_allRoutesStillFit.1 mX7_allRoutesStillFit.1 ∈ tbG := tb_in 6 (by decide +kernel) (by decide +kernel)
def mX7_openRequestError : MI := (yX7_openRequestError, cX7_openRequestError, 2, (Option.some Jvm.ClassFile.FieldType.int), 1, 21)
theorem okX7_openRequestError : MOK mX7_openRequestError 1 := ⟨by decide +kernel, ⟨by decide +kernel, by decide +kernel⟩, by decide +kernel, tb_in 500 (by decide +kernel) (by decide +kernel), tb_in 21 (by decide +kernel) (by decide +kernel)⟩
theorem ivX7_openRequestError : Cond.instanceMethod mX7_openRequestError.1 ∈ tbG := tb_in 499 (by decide +kernel) (by decide +kernel)
theorem seX7_openRequestError : Cond.selects mX7_openRequestError.1.cls mX7_openRequestError.1 mX7_openRequestError.1 ∈ tbG := tb_in 11 (by decide +kernel) (by decide +kernel)
def mX7_openRequestError_ : MI := (yX7_openRequestError_, cX7_openRequestError_, 3, (Option.some Jvm.ClassFile.FieldType.int), 2, 42)
theorem okX7_openRequestError_ : MOK mX7_openRequestError_ 2 := ⟨by decide +kernel, ⟨by decide +kernel, by decide +kernel⟩, by decide +kernel, tb_in 496 (by decide +kernel) (by decide +kernel), tb_in 21 (by decide +kernel) (by decide +kernel)⟩
theorem ivX7_openRequestError_ : Cond.instanceMethod mX7_openRequestError_.1 ∈ tbG := tb_in 495 (by decide +kernel) (by decide +kernel)
theorem seX7_openRequestError_ : Cond.selects mX7_openRequestError_.1.cls mX7_openRequestError_.1 mX7_openRequestError_.1 ∈ tbG := tb_in 10 (by decide +kernel) (by decide +kernel)
def mX7_insertionError : MI := (yX7_insertionError, cX7_insertionError, 6, (Option.some Jvm.ClassFile.FieldType.int), 3, 63)
theorem okX7_insertionError : MOK mX7_insertionError 4 := ⟨by decide +kernel, ⟨by decide +kernel, by decide +kernel⟩, by decide +kernel, tb_in 467 (by decide +kernel) (by decide +kernel), tb_in 21 (by decide +kernel) (by decide +kernel)⟩
theorem ivX7_insertionError : Cond.instanceMethod mX7_insertionError.1 ∈ tbG := tb_in 466 (by decide +kernel) (by decide +kernel)
theorem seX7_insertionError : Cond.selects mX7_insertionError.1.cls mX7_insertionError.1 mX7_insertionError.1 ∈ tbG := tb_in 9 (by decide +kernel) (by decide +kernel)
def mX7_carryOutInsertion : MI := (yX7_carryOutInsertion, cX7_carryOutInsertion, 2, (Option.some Jvm.ClassFile.FieldType.boolean), 4, 82)
theorem okX7_carryOutInsertion : MOK mX7_carryOutInsertion 1 := ⟨by decide +kernel, ⟨by decide +kernel, by decide +kernel⟩, by decide +kernel, tb_in 526 (by decide +kernel) (by decide +kernel), tb_in 21 (by decide +kernel) (by decide +kernel)⟩
theorem ivX7_carryOutInsertion : Cond.instanceMethod mX7_carryOutInsertion.1 ∈ tbG := tb_in 525 (by decide +kernel) (by decide +kernel)
theorem seX7_carryOutInsertion : Cond.selects mX7_carryOutInsertion.1.cls mX7_carryOutInsertion.1 mX7_carryOutInsertion.1 ∈ tbG := tb_in 12 (by decide +kernel) (by decide +kernel)
def mL_cell : MI := (yL_cell, cL_cell, 2, (Option.some Jvm.ClassFile.FieldType.int), 0, 0)
theorem okL_cell : MOK mL_cell 2 := ⟨by decide +kernel, ⟨by decide +kernel, by decide +kernel⟩, by decide +kernel, tb_in 613 (by decide +kernel) (by decide +kernel), tb_in 20 (by decide +kernel) (by decide +kernel)⟩
theorem ssL_cell : Cond.static mL_cell.1 ∈ tbG := tb_in 612 (by decide +kernel) (by decide +kernel)
def mL_low : MI := (yL_low, cL_low, 2, (Option.some Jvm.ClassFile.FieldType.int), 0, 0)
theorem okL_low : MOK mL_low 2 := ⟨by decide +kernel, ⟨by decide +kernel, by decide +kernel⟩, by decide +kernel, tb_in 617 (by decide +kernel) (by decide +kernel), tb_in 20 (by decide +kernel) (by decide +kernel)⟩
theorem ssL_low : Cond.static mL_low.1 ∈ tbG := tb_in 616 (by decide +kernel) (by decide +kernel)
def mL_size : MI := (yL_size, cL_size, 1, (Option.some Jvm.ClassFile.FieldType.int), 0, 0)
theorem okL_size : MOK mL_size 1 := ⟨by decide +kernel, ⟨by decide +kernel, by decide +kernel⟩, by decide +kernel, tb_in 653 (by decide +kernel) (by decide +kernel), tb_in 20 (by decide +kernel) (by decide +kernel)⟩
theorem ssL_size : Cond.static mL_size.1 ∈ tbG := tb_in 652 (by decide +kernel) (by decide +kernel)
def mL_far : MI := (yL_far, cL_far, 3, (Option.some Jvm.ClassFile.FieldType.int), 1, 20)
theorem okL_far : MOK mL_far 3 := ⟨by decide +kernel, ⟨by decide +kernel, by decide +kernel⟩, by decide +kernel, tb_in 650 (by decide +kernel) (by decide +kernel), tb_in 20 (by decide +kernel) (by decide +kernel)⟩
theorem ssL_far : Cond.static mL_far.1 ∈ tbG := tb_in 649 (by decide +kernel) (by decide +kernel)
def mL_at : MI := (yL_at, cL_at, 3, (Option.some Jvm.ClassFile.FieldType.int), 3, 74)
theorem okL_at : MOK mL_at 3 := ⟨by decide +kernel, ⟨by decide +kernel, by decide +kernel⟩, by decide +kernel, tb_in 627 (by decide +kernel) (by decide +kernel), tb_in 20 (by decide +kernel) (by decide +kernel)⟩
theorem ssL_at : Cond.static mL_at.1 ∈ tbG := tb_in 626 (by decide +kernel) (by decide +kernel)
def mL_route : MI := (yL_route, cL_route, 24, (Option.some Jvm.ClassFile.FieldType.boolean), 4, 96)
theorem okL_route : MOK mL_route 3 := ⟨by decide +kernel, ⟨by decide +kernel, by decide +kernel⟩, by decide +kernel, tb_in 624 (by decide +kernel) (by decide +kernel), tb_in 20 (by decide +kernel) (by decide +kernel)⟩
theorem ssL_route : Cond.static mL_route.1 ∈ tbG := tb_in 623 (by decide +kernel) (by decide +kernel)
def mL_plan : MI := (yL_plan, cL_plan, 7, (Option.some Jvm.ClassFile.FieldType.boolean), 5, 139)
theorem okL_plan : MOK mL_plan 2 := ⟨by decide +kernel, ⟨by decide +kernel, by decide +kernel⟩, by decide +kernel, tb_in 621 (by decide +kernel) (by decide +kernel), tb_in 20 (by decide +kernel) (by decide +kernel)⟩
theorem ssL_plan : Cond.static mL_plan.1 ∈ tbG := tb_in 620 (by decide +kernel) (by decide +kernel)
def mL_best : MI := (yL_best, cL_best, 9, (Option.some Jvm.ClassFile.FieldType.int), 5, 113)
theorem okL_best : MOK mL_best 3 := ⟨by decide +kernel, ⟨by decide +kernel, by decide +kernel⟩, by decide +kernel, tb_in 679 (by decide +kernel) (by decide +kernel), tb_in 20 (by decide +kernel) (by decide +kernel)⟩
theorem ssL_best : Cond.static mL_best.1 ∈ tbG := tb_in 678 (by decide +kernel) (by decide +kernel)
def mL_print : MI := (yL_print, cL_print, 5, (Option.some Jvm.ClassFile.FieldType.long), 3, 74)
theorem okL_print : MOK mL_print 1 := ⟨by decide +kernel, ⟨by decide +kernel, by decide +kernel⟩, by decide +kernel, tb_in 668 (by decide +kernel) (by decide +kernel), tb_in 20 (by decide +kernel) (by decide +kernel)⟩
theorem ssL_print : Cond.static mL_print.1 ∈ tbG := tb_in 667 (by decide +kernel) (by decide +kernel)
def mL_puts : MI := (yL_puts, cL_puts, 15, (Option.some Jvm.ClassFile.FieldType.boolean), 6, 141)
theorem okL_puts : MOK mL_puts 3 := ⟨by decide +kernel, ⟨by decide +kernel, by decide +kernel⟩, by decide +kernel, tb_in 675 (by decide +kernel) (by decide +kernel), tb_in 20 (by decide +kernel) (by decide +kernel)⟩
theorem ssL_puts : Cond.static mL_puts.1 ∈ tbG := tb_in 674 (by decide +kernel) (by decide +kernel)
def mL_chains : MI := (yL_chains, cL_chains, 13, (Option.some Jvm.ClassFile.FieldType.boolean), 8, 182)
theorem okL_chains : MOK mL_chains 2 := ⟨by decide +kernel, ⟨by decide +kernel, by decide +kernel⟩, by decide +kernel, tb_in 691 (by decide +kernel) (by decide +kernel), tb_in 20 (by decide +kernel) (by decide +kernel)⟩
theorem ssL_chains : Cond.static mL_chains.1 ∈ tbG := tb_in 690 (by decide +kernel) (by decide +kernel)
def mL_errors : MI := (yL_errors, cL_errors, 6, (Option.some Jvm.ClassFile.FieldType.boolean), 8, 182)
theorem okL_errors : MOK mL_errors 1 := ⟨by decide +kernel, ⟨by decide +kernel, by decide +kernel⟩, by decide +kernel, tb_in 698 (by decide +kernel) (by decide +kernel), tb_in 20 (by decide +kernel) (by decide +kernel)⟩
theorem ssL_errors : Cond.static mL_errors.1 ∈ tbG := tb_in 697 (by decide +kernel) (by decide +kernel)
theorem lf_X0_9 : Cond.fieldLink "SharedRides$History" 9 "SharedRides$History" "size" "I" ∈ tbG := tb_in 302 (by decide +kernel) (by decide +kernel)
theorem lf_X0_15 : Cond.fieldLink "SharedRides$History" 15 "SharedRides$History" "oldest" "I" ∈ tbG := tb_in 304 (by decide +kernel) (by decide +kernel)
theorem lf_X0_20 : Cond.fieldLink "SharedRides$History" 20 "SharedRides$History" "plans" "[LSharedRides$Plan;" ∈ tbG := tb_in 305 (by decide +kernel) (by decide +kernel)
theorem lm_X0_25 : Cond.methodLink "SharedRides$History" 25 ⟨"SharedRides$Plan", "become", "(LSharedRides$Plan;)V"⟩ ∈ tbG := tb_in 531 (by decide +kernel) (by decide +kernel)
theorem lf_X1_33 : Cond.fieldLink "SharedRides$Inserter" 33 "SharedRides$Inserter" "trial" "LSharedRides$Route;" ∈ tbG := tb_in 209 (by decide +kernel) (by decide +kernel)
theorem lm_X1_45 : Cond.methodLink "SharedRides$Inserter" 45 ⟨"SharedRides$Route", "become", "(LSharedRides$Route;)V"⟩ ∈ tbG := tb_in 472 (by decide +kernel) (by decide +kernel)
theorem lm_X1_49 : Cond.methodLink "SharedRides$Inserter" 49 ⟨"SharedRides$Route", "put", "(III)V"⟩ ∈ tbG := tb_in 477 (by decide +kernel) (by decide +kernel)
theorem lf_X1_9 : Cond.fieldLink "SharedRides$Inserter" 9 "SharedRides$Inserter" "found" "Z" ∈ tbG := tb_in 197 (by decide +kernel) (by decide +kernel)
theorem lc_X1_53 : Cond.constant "SharedRides$Inserter" 53 (Int32.ofInt 1000000) ∈ tbG := tb_in 505 (by decide +kernel) (by decide +kernel)
theorem lf_X1_15 : Cond.fieldLink "SharedRides$Inserter" 15 "SharedRides$Inserter" "cost" "I" ∈ tbG := tb_in 199 (by decide +kernel) (by decide +kernel)
theorem lf_X1_19 : Cond.fieldLink "SharedRides$Inserter" 19 "SharedRides$Inserter" "vehicle" "I" ∈ tbG := tb_in 201 (by decide +kernel) (by decide +kernel)
theorem lf_X1_54 : Cond.fieldLink "SharedRides$Inserter" 54 "SharedRides$Route" "size" "I" ∈ tbG := tb_in 180 (by decide +kernel) (by decide +kernel)
theorem lf_X1_37 : Cond.fieldLink "SharedRides$Inserter" 37 "SharedRides$Inserter" "problem" "LSharedRides$Problem;" ∈ tbG := tb_in 207 (by decide +kernel) (by decide +kernel)
theorem lm_X1_57 : Cond.methodLink "SharedRides$Inserter" 57 ⟨"SharedRides$Problem", "addedLength", "(LSharedRides$Route;III)I"⟩ ∈ tbG := tb_in 510 (by decide +kernel) (by decide +kernel)
theorem lf_X1_41 : Cond.fieldLink "SharedRides$Inserter" 41 "SharedRides$Inserter" "timetable" "LSharedRides$Timetable;" ∈ tbG := tb_in 208 (by decide +kernel) (by decide +kernel)
theorem lm_X1_63 : Cond.methodLink "SharedRides$Inserter" 63 ⟨"SharedRides$Inserter", "routeWith", "(LSharedRides$Route;III)LSharedRides$Route;"⟩ ∈ tbG := tb_in 511 (by decide +kernel) (by decide +kernel)
theorem lm_X1_67 : Cond.methodLink "SharedRides$Inserter" 67 ⟨"SharedRides$Timetable", "fits", "(LSharedRides$Route;)Z"⟩ ∈ tbG := tb_in 512 (by decide +kernel) (by decide +kernel)
theorem lf_X1_73 : Cond.fieldLink "SharedRides$Inserter" 73 "SharedRides$Route" "vehicle" "I" ∈ tbG := tb_in 175 (by decide +kernel) (by decide +kernel)
theorem lf_X1_22 : Cond.fieldLink "SharedRides$Inserter" 22 "SharedRides$Inserter" "i" "I" ∈ tbG := tb_in 203 (by decide +kernel) (by decide +kernel)
theorem lf_X1_25 : Cond.fieldLink "SharedRides$Inserter" 25 "SharedRides$Inserter" "j" "I" ∈ tbG := tb_in 205 (by decide +kernel) (by decide +kernel)
theorem lm_X1_74 : Cond.methodLink "SharedRides$Inserter" 74 ⟨"SharedRides$Inserter", "startOver", "()V"⟩ ∈ tbG := tb_in 521 (by decide +kernel) (by decide +kernel)
theorem lf_X1_77 : Cond.fieldLink "SharedRides$Inserter" 77 "SharedRides$Problem" "vehicles" "I" ∈ tbG := tb_in 49 (by decide +kernel) (by decide +kernel)
theorem lf_X1_80 : Cond.fieldLink "SharedRides$Inserter" 80 "SharedRides$Plan" "routes" "[LSharedRides$Route;" ∈ tbG := tb_in 243 (by decide +kernel) (by decide +kernel)
theorem lm_X1_86 : Cond.methodLink "SharedRides$Inserter" 86 ⟨"SharedRides$Inserter", "tryRoute", "(LSharedRides$Route;I)V"⟩ ∈ tbG := tb_in 522 (by decide +kernel) (by decide +kernel)
theorem lm_X1_90 : Cond.methodLink "SharedRides$Inserter" 90 ⟨"SharedRides$Plan", "put", "(IIII)V"⟩ ∈ tbG := tb_in 541 (by decide +kernel) (by decide +kernel)
theorem lc_X2_49 : Cond.constant "SharedRides$Mover" 49 (Int32.ofInt 1000000) ∈ tbG := tb_in 566 (by decide +kernel) (by decide +kernel)
theorem lm_X2_50 : Cond.methodLink "SharedRides$Mover" 50 ⟨"SharedRides$Mover", "startOver", "(LSharedRides$Plan;I)V"⟩ ∈ tbG := tb_in 567 (by decide +kernel) (by decide +kernel)
theorem lf_X2_41 : Cond.fieldLink "SharedRides$Mover" 41 "SharedRides$Mover" "problem" "LSharedRides$Problem;" ∈ tbG := tb_in 265 (by decide +kernel) (by decide +kernel)
theorem lf_X2_54 : Cond.fieldLink "SharedRides$Mover" 54 "SharedRides$Problem" "requests" "I" ∈ tbG := tb_in 51 (by decide +kernel) (by decide +kernel)
theorem lf_X2_9 : Cond.fieldLink "SharedRides$Mover" 9 "SharedRides$Mover" "found" "Z" ∈ tbG := tb_in 255 (by decide +kernel) (by decide +kernel)
theorem lm_X2_59 : Cond.methodLink "SharedRides$Mover" 59 ⟨"SharedRides$Mover", "tryShortChain", "(LSharedRides$Plan;II)V"⟩ ∈ tbG := tb_in 572 (by decide +kernel) (by decide +kernel)
theorem lm_X2_63 : Cond.methodLink "SharedRides$Mover" 63 ⟨"SharedRides$Mover", "tryLongChains", "(LSharedRides$Plan;II)V"⟩ ∈ tbG := tb_in 590 (by decide +kernel) (by decide +kernel)
theorem lf_X2_66 : Cond.fieldLink "SharedRides$Mover" 66 "SharedRides$Plan" "vehicleOf" "[I" ∈ tbG := tb_in 248 (by decide +kernel) (by decide +kernel)
theorem lf_X2_35 : Cond.fieldLink "SharedRides$Mover" 35 "SharedRides$Mover" "work" "LSharedRides$Plan;" ∈ tbG := tb_in 268 (by decide +kernel) (by decide +kernel)
theorem lm_X2_70 : Cond.methodLink "SharedRides$Mover" 70 ⟨"SharedRides$Plan", "become", "(LSharedRides$Plan;)V"⟩ ∈ tbG := tb_in 576 (by decide +kernel) (by decide +kernel)
theorem lm_X2_74 : Cond.methodLink "SharedRides$Mover" 74 ⟨"SharedRides$Plan", "take", "(I)V"⟩ ∈ tbG := tb_in 581 (by decide +kernel) (by decide +kernel)
theorem lf_X2_45 : Cond.fieldLink "SharedRides$Mover" 45 "SharedRides$Mover" "inserter" "LSharedRides$Inserter;" ∈ tbG := tb_in 266 (by decide +kernel) (by decide +kernel)
theorem lm_X2_78 : Cond.methodLink "SharedRides$Mover" 78 ⟨"SharedRides$Inserter", "tryAllBut", "(ILSharedRides$Plan;I)V"⟩ ∈ tbG := tb_in 585 (by decide +kernel) (by decide +kernel)
theorem lm_X2_84 : Cond.methodLink "SharedRides$Mover" 84 ⟨"SharedRides$Inserter", "carryOut", "(LSharedRides$Plan;I)Z"⟩ ∈ tbG := tb_in 584 (by decide +kernel) (by decide +kernel)
theorem lm_X2_88 : Cond.methodLink "SharedRides$Mover" 88 ⟨"SharedRides$Mover", "keepIfBest", "(II)V"⟩ ∈ tbG := tb_in 586 (by decide +kernel) (by decide +kernel)
theorem lf_X2_15 : Cond.fieldLink "SharedRides$Mover" 15 "SharedRides$Mover" "change" "I" ∈ tbG := tb_in 257 (by decide +kernel) (by decide +kernel)
theorem lm_X2_92 : Cond.methodLink "SharedRides$Mover" 92 ⟨"SharedRides$Problem", "totalLength", "(LSharedRides$Plan;)I"⟩ ∈ tbG := tb_in 571 (by decide +kernel) (by decide +kernel)
theorem lf_X2_38 : Cond.fieldLink "SharedRides$Mover" 38 "SharedRides$Mover" "lengthBefore" "I" ∈ tbG := tb_in 269 (by decide +kernel) (by decide +kernel)
theorem lm_X2_96 : Cond.methodLink "SharedRides$Mover" 96 ⟨"SharedRides$Mover", "displace", "(LSharedRides$Plan;II)Z"⟩ ∈ tbG := tb_in 577 (by decide +kernel) (by decide +kernel)
theorem lf_X2_32 : Cond.fieldLink "SharedRides$Mover" 32 "SharedRides$Mover" "begun" "LSharedRides$Plan;" ∈ tbG := tb_in 267 (by decide +kernel) (by decide +kernel)
theorem lm_X2_100 : Cond.methodLink "SharedRides$Mover" 100 ⟨"SharedRides$Inserter", "startOver", "()V"⟩ ∈ tbG := tb_in 582 (by decide +kernel) (by decide +kernel)
theorem lf_X2_102 : Cond.fieldLink "SharedRides$Mover" 102 "SharedRides$Plan" "routes" "[LSharedRides$Route;" ∈ tbG := tb_in 245 (by decide +kernel) (by decide +kernel)
theorem lm_X2_106 : Cond.methodLink "SharedRides$Mover" 106 ⟨"SharedRides$Inserter", "tryRoute", "(LSharedRides$Route;I)V"⟩ ∈ tbG := tb_in 583 (by decide +kernel) (by decide +kernel)
theorem lf_X2_19 : Cond.fieldLink "SharedRides$Mover" 19 "SharedRides$Mover" "firstMoved" "I" ∈ tbG := tb_in 259 (by decide +kernel) (by decide +kernel)
theorem lf_X2_22 : Cond.fieldLink "SharedRides$Mover" 22 "SharedRides$Mover" "secondMoved" "I" ∈ tbG := tb_in 261 (by decide +kernel) (by decide +kernel)
theorem lf_X2_28 : Cond.fieldLink "SharedRides$Mover" 28 "SharedRides$Mover" "outcome" "LSharedRides$Plan;" ∈ tbG := tb_in 263 (by decide +kernel) (by decide +kernel)
theorem lf_X3_17 : Cond.fieldLink "SharedRides$Plan" 17 "SharedRides$Plan" "vehicleOf" "[I" ∈ tbG := tb_in 247 (by decide +kernel) (by decide +kernel)
theorem lm_X3_28 : Cond.methodLink "SharedRides$Plan" 28 ⟨"java/lang/System", "arraycopy", "(Ljava/lang/Object;ILjava/lang/Object;II)V"⟩ ∈ tbG := tb_in 536 (by decide +kernel) (by decide +kernel)
theorem lf_X3_11 : Cond.fieldLink "SharedRides$Plan" 11 "SharedRides$Plan" "routes" "[LSharedRides$Route;" ∈ tbG := tb_in 242 (by decide +kernel) (by decide +kernel)
theorem lm_X3_24 : Cond.methodLink "SharedRides$Plan" 24 ⟨"SharedRides$Route", "become", "(LSharedRides$Route;)V"⟩ ∈ tbG := tb_in 535 (by decide +kernel) (by decide +kernel)
theorem lm_X3_34 : Cond.methodLink "SharedRides$Plan" 34 ⟨"SharedRides$Route", "put", "(III)V"⟩ ∈ tbG := tb_in 545 (by decide +kernel) (by decide +kernel)
theorem lm_X3_38 : Cond.methodLink "SharedRides$Plan" 38 ⟨"SharedRides$Route", "take", "(I)V"⟩ ∈ tbG := tb_in 554 (by decide +kernel) (by decide +kernel)
theorem lf_X4_43 : Cond.fieldLink "SharedRides$Problem" 43 "SharedRides$Problem" "placeX" "[I" ∈ tbG := tb_in 77 (by decide +kernel) (by decide +kernel)
theorem lf_X4_46 : Cond.fieldLink "SharedRides$Problem" 46 "SharedRides$Problem" "placeY" "[I" ∈ tbG := tb_in 78 (by decide +kernel) (by decide +kernel)
theorem lm_X4_54 : Cond.methodLink "SharedRides$Problem" 54 ⟨"java/lang/Math", "abs", "(I)I"⟩ ∈ tbG := tb_in 349 (by decide +kernel) (by decide +kernel)
theorem lf_X4_51 : Cond.fieldLink "SharedRides$Problem" 51 "SharedRides$Problem" "travel" "[[I" ∈ tbG := tb_in 79 (by decide +kernel) (by decide +kernel)
theorem lf_X4_37 : Cond.fieldLink "SharedRides$Problem" 37 "SharedRides$Problem" "windowFirst" "[I" ∈ tbG := tb_in 71 (by decide +kernel) (by decide +kernel)
theorem lf_X4_40 : Cond.fieldLink "SharedRides$Problem" 40 "SharedRides$Problem" "windowLast" "[I" ∈ tbG := tb_in 74 (by decide +kernel) (by decide +kernel)
theorem lf_X4_34 : Cond.fieldLink "SharedRides$Problem" 34 "SharedRides$Problem" "loadChange" "[I" ∈ tbG := tb_in 68 (by decide +kernel) (by decide +kernel)
theorem lf_X4_60 : Cond.fieldLink "SharedRides$Problem" 60 "SharedRides$Route" "depot" "I" ∈ tbG := tb_in 177 (by decide +kernel) (by decide +kernel)
theorem lf_X4_65 : Cond.fieldLink "SharedRides$Problem" 65 "SharedRides$Route" "size" "I" ∈ tbG := tb_in 181 (by decide +kernel) (by decide +kernel)
theorem lf_X4_68 : Cond.fieldLink "SharedRides$Problem" 68 "SharedRides$Route" "stops" "[I" ∈ tbG := tb_in 185 (by decide +kernel) (by decide +kernel)
theorem lf_X4_9 : Cond.fieldLink "SharedRides$Problem" 9 "SharedRides$Problem" "vehicles" "I" ∈ tbG := tb_in 47 (by decide +kernel) (by decide +kernel)
theorem lf_X4_71 : Cond.fieldLink "SharedRides$Problem" 71 "SharedRides$Plan" "routes" "[LSharedRides$Route;" ∈ tbG := tb_in 244 (by decide +kernel) (by decide +kernel)
theorem lm_X4_77 : Cond.methodLink "SharedRides$Problem" 77 ⟨"SharedRides$Problem", "length", "(LSharedRides$Route;)I"⟩ ∈ tbG := tb_in 438 (by decide +kernel) (by decide +kernel)
theorem lm_X4_81 : Cond.methodLink "SharedRides$Problem" 81 ⟨"SharedRides$Route", "placeAt", "(I)I"⟩ ∈ tbG := tb_in 485 (by decide +kernel) (by decide +kernel)
theorem lf_X5_19 : Cond.fieldLink "SharedRides$Route" 19 "SharedRides$Route" "vehicle" "I" ∈ tbG := tb_in 173 (by decide +kernel) (by decide +kernel)
theorem lf_X5_22 : Cond.fieldLink "SharedRides$Route" 22 "SharedRides$Route" "depot" "I" ∈ tbG := tb_in 176 (by decide +kernel) (by decide +kernel)
theorem lf_X5_9 : Cond.fieldLink "SharedRides$Route" 9 "SharedRides$Route" "size" "I" ∈ tbG := tb_in 179 (by decide +kernel) (by decide +kernel)
theorem lf_X5_15 : Cond.fieldLink "SharedRides$Route" 15 "SharedRides$Route" "stops" "[I" ∈ tbG := tb_in 184 (by decide +kernel) (by decide +kernel)
theorem lm_X5_25 : Cond.methodLink "SharedRides$Route" 25 ⟨"java/lang/System", "arraycopy", "(Ljava/lang/Object;ILjava/lang/Object;II)V"⟩ ∈ tbG := tb_in 476 (by decide +kernel) (by decide +kernel)
theorem lm_X6_53 : Cond.methodLink "SharedRides$Timetable" 53 ⟨"SharedRides$Timetable", "lookAt", "(LSharedRides$Route;)V"⟩ ∈ tbG := tb_in 391 (by decide +kernel) (by decide +kernel)
theorem lf_X6_24 : Cond.fieldLink "SharedRides$Timetable" 24 "SharedRides$Timetable" "greatestLoad" "I" ∈ tbG := tb_in 124 (by decide +kernel) (by decide +kernel)
theorem lf_X6_49 : Cond.fieldLink "SharedRides$Timetable" 49 "SharedRides$Timetable" "problem" "LSharedRides$Problem;" ∈ tbG := tb_in 126 (by decide +kernel) (by decide +kernel)
theorem lf_X6_57 : Cond.fieldLink "SharedRides$Timetable" 57 "SharedRides$Problem" "capacity" "[I" ∈ tbG := tb_in 57 (by decide +kernel) (by decide +kernel)
theorem lf_X6_62 : Cond.fieldLink "SharedRides$Timetable" 62 "SharedRides$Route" "vehicle" "I" ∈ tbG := tb_in 174 (by decide +kernel) (by decide +kernel)
theorem lf_X6_28 : Cond.fieldLink "SharedRides$Timetable" 28 "SharedRides$Timetable" "lowest" "[I" ∈ tbG := tb_in 127 (by decide +kernel) (by decide +kernel)
theorem lf_X6_9 : Cond.fieldLink "SharedRides$Timetable" 9 "SharedRides$Timetable" "earliest" "[I" ∈ tbG := tb_in 116 (by decide +kernel) (by decide +kernel)
theorem lm_X6_67 : Cond.methodLink "SharedRides$Timetable" 67 ⟨"java/lang/System", "arraycopy", "(Ljava/lang/Object;ILjava/lang/Object;II)V"⟩ ∈ tbG := tb_in 395 (by decide +kernel) (by decide +kernel)
theorem lf_X6_43 : Cond.fieldLink "SharedRides$Timetable" 43 "SharedRides$Timetable" "size" "I" ∈ tbG := tb_in 132 (by decide +kernel) (by decide +kernel)
theorem lm_X6_73 : Cond.methodLink "SharedRides$Timetable" 73 ⟨"SharedRides$Timetable", "delayStops", "()Z"⟩ ∈ tbG := tb_in 398 (by decide +kernel) (by decide +kernel)
theorem lm_X6_77 : Cond.methodLink "SharedRides$Timetable" 77 ⟨"SharedRides$Timetable", "delayPickups", "()Z"⟩ ∈ tbG := tb_in 402 (by decide +kernel) (by decide +kernel)
theorem lm_X6_80 : Cond.methodLink "SharedRides$Timetable" 80 ⟨"SharedRides$Timetable", "isTooLate", "()Z"⟩ ∈ tbG := tb_in 406 (by decide +kernel) (by decide +kernel)
theorem lf_X6_31 : Cond.fieldLink "SharedRides$Timetable" 31 "SharedRides$Timetable" "highest" "[I" ∈ tbG := tb_in 128 (by decide +kernel) (by decide +kernel)
theorem lf_X6_15 : Cond.fieldLink "SharedRides$Timetable" 15 "SharedRides$Timetable" "latest" "[I" ∈ tbG := tb_in 118 (by decide +kernel) (by decide +kernel)
theorem lm_X6_83 : Cond.methodLink "SharedRides$Timetable" 83 ⟨"SharedRides$Timetable", "advanceStops", "()Z"⟩ ∈ tbG := tb_in 636 (by decide +kernel) (by decide +kernel)
theorem lm_X6_86 : Cond.methodLink "SharedRides$Timetable" 86 ⟨"SharedRides$Timetable", "advanceDrops", "()Z"⟩ ∈ tbG := tb_in 640 (by decide +kernel) (by decide +kernel)
theorem lf_X6_21 : Cond.fieldLink "SharedRides$Timetable" 21 "SharedRides$Timetable" "gap" "[I" ∈ tbG := tb_in 122 (by decide +kernel) (by decide +kernel)
theorem lf_X6_46 : Cond.fieldLink "SharedRides$Timetable" 46 "SharedRides$Timetable" "shiftFirst" "I" ∈ tbG := tb_in 133 (by decide +kernel) (by decide +kernel)
theorem lf_X6_34 : Cond.fieldLink "SharedRides$Timetable" 34 "SharedRides$Timetable" "stopNumber" "[I" ∈ tbG := tb_in 129 (by decide +kernel) (by decide +kernel)
theorem lf_X6_89 : Cond.fieldLink "SharedRides$Timetable" 89 "SharedRides$Problem" "service" "I" ∈ tbG := tb_in 54 (by decide +kernel) (by decide +kernel)
theorem lf_X6_92 : Cond.fieldLink "SharedRides$Timetable" 92 "SharedRides$Route" "depot" "I" ∈ tbG := tb_in 178 (by decide +kernel) (by decide +kernel)
theorem lf_X6_95 : Cond.fieldLink "SharedRides$Timetable" 95 "SharedRides$Route" "size" "I" ∈ tbG := tb_in 182 (by decide +kernel) (by decide +kernel)
theorem lf_X6_96 : Cond.fieldLink "SharedRides$Timetable" 96 "SharedRides$Problem" "shiftFirst" "[I" ∈ tbG := tb_in 61 (by decide +kernel) (by decide +kernel)
theorem lf_X6_104 : Cond.fieldLink "SharedRides$Timetable" 104 "SharedRides$Problem" "travel" "[[I" ∈ tbG := tb_in 80 (by decide +kernel) (by decide +kernel)
theorem lf_X6_117 : Cond.fieldLink "SharedRides$Timetable" 117 "SharedRides$Problem" "shiftLast" "[I" ∈ tbG := tb_in 64 (by decide +kernel) (by decide +kernel)
theorem lf_X6_98 : Cond.fieldLink "SharedRides$Timetable" 98 "SharedRides$Route" "stops" "[I" ∈ tbG := tb_in 186 (by decide +kernel) (by decide +kernel)
theorem lf_X6_101 : Cond.fieldLink "SharedRides$Timetable" 101 "SharedRides$Problem" "loadChange" "[I" ∈ tbG := tb_in 70 (by decide +kernel) (by decide +kernel)
theorem lf_X6_18 : Cond.fieldLink "SharedRides$Timetable" 18 "SharedRides$Timetable" "loadAfter" "[I" ∈ tbG := tb_in 120 (by decide +kernel) (by decide +kernel)
theorem lf_X6_108 : Cond.fieldLink "SharedRides$Timetable" 108 "SharedRides$Problem" "windowFirst" "[I" ∈ tbG := tb_in 73 (by decide +kernel) (by decide +kernel)
theorem lf_X6_111 : Cond.fieldLink "SharedRides$Timetable" 111 "SharedRides$Problem" "windowLast" "[I" ∈ tbG := tb_in 76 (by decide +kernel) (by decide +kernel)
theorem lf_X6_37 : Cond.fieldLink "SharedRides$Timetable" 37 "SharedRides$Timetable" "pickupOf" "[I" ∈ tbG := tb_in 130 (by decide +kernel) (by decide +kernel)
theorem lf_X6_40 : Cond.fieldLink "SharedRides$Timetable" 40 "SharedRides$Timetable" "longest" "[I" ∈ tbG := tb_in 131 (by decide +kernel) (by decide +kernel)
theorem lf_X6_114 : Cond.fieldLink "SharedRides$Timetable" 114 "SharedRides$Problem" "limit" "[I" ∈ tbG := tb_in 67 (by decide +kernel) (by decide +kernel)
theorem lm_X7_57 : Cond.methodLink "SharedRides" 57 ⟨"SharedRides", "isPlace", "(II)Z"⟩ ∈ tbG := tb_in 336 (by decide +kernel) (by decide +kernel)
theorem lm_X7_61 : Cond.methodLink "SharedRides" 61 ⟨"SharedRides", "isLoad", "(I)Z"⟩ ∈ tbG := tb_in 339 (by decide +kernel) (by decide +kernel)
theorem lm_X7_65 : Cond.methodLink "SharedRides" 65 ⟨"SharedRides", "isWindow", "(II)Z"⟩ ∈ tbG := tb_in 342 (by decide +kernel) (by decide +kernel)
theorem lf_X7_22 : Cond.fieldLink "SharedRides" 22 "SharedRides" "problem" "LSharedRides$Problem;" ∈ tbG := tb_in 313 (by decide +kernel) (by decide +kernel)
theorem lf_X7_68 : Cond.fieldLink "SharedRides" 68 "SharedRides$Problem" "vehicles" "I" ∈ tbG := tb_in 48 (by decide +kernel) (by decide +kernel)
theorem lf_X7_72 : Cond.fieldLink "SharedRides" 72 "SharedRides$Problem" "capacity" "[I" ∈ tbG := tb_in 58 (by decide +kernel) (by decide +kernel)
theorem lf_X7_76 : Cond.fieldLink "SharedRides" 76 "SharedRides$Problem" "shiftFirst" "[I" ∈ tbG := tb_in 60 (by decide +kernel) (by decide +kernel)
theorem lf_X7_79 : Cond.fieldLink "SharedRides" 79 "SharedRides$Problem" "shiftLast" "[I" ∈ tbG := tb_in 63 (by decide +kernel) (by decide +kernel)
theorem lm_X7_82 : Cond.methodLink "SharedRides" 82 ⟨"SharedRides$Problem", "keepPlace", "(III)V"⟩ ∈ tbG := tb_in 345 (by decide +kernel) (by decide +kernel)
theorem lf_X7_53 : Cond.fieldLink "SharedRides" 53 "SharedRides" "history" "LSharedRides$History;" ∈ tbG := tb_in 315 (by decide +kernel) (by decide +kernel)
theorem lm_X7_86 : Cond.methodLink "SharedRides" 86 ⟨"SharedRides$History", "forget", "()V"⟩ ∈ tbG := tb_in 352 (by decide +kernel) (by decide +kernel)
theorem lm_X7_89 : Cond.methodLink "SharedRides" 89 ⟨"SharedRides", "isLimit", "(I)Z"⟩ ∈ tbG := tb_in 360 (by decide +kernel) (by decide +kernel)
theorem lf_X7_92 : Cond.fieldLink "SharedRides" 92 "SharedRides$Problem" "requests" "I" ∈ tbG := tb_in 52 (by decide +kernel) (by decide +kernel)
theorem lm_X7_95 : Cond.methodLink "SharedRides" 95 ⟨"SharedRides$Problem", "keepLoad", "(II)V"⟩ ∈ tbG := tb_in 363 (by decide +kernel) (by decide +kernel)
theorem lf_X7_99 : Cond.fieldLink "SharedRides" 99 "SharedRides$Problem" "limit" "[I" ∈ tbG := tb_in 66 (by decide +kernel) (by decide +kernel)
theorem lm_X7_102 : Cond.methodLink "SharedRides" 102 ⟨"SharedRides$Problem", "keepWindow", "(III)V"⟩ ∈ tbG := tb_in 367 (by decide +kernel) (by decide +kernel)
theorem lm_X7_105 : Cond.methodLink "SharedRides" 105 ⟨"SharedRides", "isRequest", "(I)Z"⟩ ∈ tbG := tb_in 375 (by decide +kernel) (by decide +kernel)
theorem lf_X7_108 : Cond.fieldLink "SharedRides" 108 "SharedRides$Problem" "windowFirst" "[I" ∈ tbG := tb_in 72 (by decide +kernel) (by decide +kernel)
theorem lf_X7_111 : Cond.fieldLink "SharedRides" 111 "SharedRides$Problem" "windowLast" "[I" ∈ tbG := tb_in 75 (by decide +kernel) (by decide +kernel)
theorem lm_X7_114 : Cond.methodLink "SharedRides" 114 ⟨"SharedRides", "routeStillFits", "(I)Z"⟩ ∈ tbG := tb_in 379 (by decide +kernel) (by decide +kernel)
theorem lf_X7_117 : Cond.fieldLink "SharedRides" 117 "SharedRides$Problem" "loadChange" "[I" ∈ tbG := tb_in 69 (by decide +kernel) (by decide +kernel)
theorem lf_X7_120 : Cond.fieldLink "SharedRides" 120 "SharedRides$Problem" "service" "I" ∈ tbG := tb_in 55 (by decide +kernel) (by decide +kernel)
theorem lm_X7_123 : Cond.methodLink "SharedRides" 123 ⟨"SharedRides", "allRoutesStillFit", "()Z"⟩ ∈ tbG := tb_in 422 (by decide +kernel) (by decide +kernel)
theorem lm_X7_127 : Cond.methodLink "SharedRides" 127 ⟨"SharedRides", "openRequests", "()I"⟩ ∈ tbG := tb_in 430 (by decide +kernel) (by decide +kernel)
theorem lf_X7_46 : Cond.fieldLink "SharedRides" 46 "SharedRides" "plan" "LSharedRides$Plan;" ∈ tbG := tb_in 314 (by decide +kernel) (by decide +kernel)
theorem lm_X7_131 : Cond.methodLink "SharedRides" 131 ⟨"SharedRides$Problem", "totalLength", "(LSharedRides$Plan;)I"⟩ ∈ tbG := tb_in 434 (by decide +kernel) (by decide +kernel)
theorem lf_X7_135 : Cond.fieldLink "SharedRides" 135 "SharedRides$History" "size" "I" ∈ tbG := tb_in 303 (by decide +kernel) (by decide +kernel)
theorem lm_X7_138 : Cond.methodLink "SharedRides" 138 ⟨"SharedRides", "isOpen", "(I)Z"⟩ ∈ tbG := tb_in 383 (by decide +kernel) (by decide +kernel)
theorem lf_X7_141 : Cond.fieldLink "SharedRides" 141 "SharedRides$Plan" "vehicleOf" "[I" ∈ tbG := tb_in 249 (by decide +kernel) (by decide +kernel)
theorem lf_X7_144 : Cond.fieldLink "SharedRides" 144 "SharedRides$Problem" "travel" "[[I" ∈ tbG := tb_in 81 (by decide +kernel) (by decide +kernel)
theorem lm_X7_148 : Cond.methodLink "SharedRides" 148 ⟨"SharedRides", "isVehicle", "(I)Z"⟩ ∈ tbG := tb_in 450 (by decide +kernel) (by decide +kernel)
theorem lf_X7_151 : Cond.fieldLink "SharedRides" 151 "SharedRides$Plan" "routes" "[LSharedRides$Route;" ∈ tbG := tb_in 246 (by decide +kernel) (by decide +kernel)
theorem lf_X7_155 : Cond.fieldLink "SharedRides" 155 "SharedRides$Route" "size" "I" ∈ tbG := tb_in 183 (by decide +kernel) (by decide +kernel)
theorem lm_X7_158 : Cond.methodLink "SharedRides" 158 ⟨"SharedRides$Problem", "length", "(LSharedRides$Route;)I"⟩ ∈ tbG := tb_in 454 (by decide +kernel) (by decide +kernel)
theorem lf_X7_26 : Cond.fieldLink "SharedRides" 26 "SharedRides" "timetable" "LSharedRides$Timetable;" ∈ tbG := tb_in 316 (by decide +kernel) (by decide +kernel)
theorem lm_X7_162 : Cond.methodLink "SharedRides" 162 ⟨"SharedRides$Timetable", "lookAt", "(LSharedRides$Route;)V"⟩ ∈ tbG := tb_in 455 (by decide +kernel) (by decide +kernel)
theorem lf_X7_166 : Cond.fieldLink "SharedRides" 166 "SharedRides$Timetable" "greatestLoad" "I" ∈ tbG := tb_in 125 (by decide +kernel) (by decide +kernel)
theorem lm_X7_169 : Cond.methodLink "SharedRides" 169 ⟨"SharedRides$Plan", "requestsOf", "(I)I"⟩ ∈ tbG := tb_in 456 (by decide +kernel) (by decide +kernel)
theorem lf_X7_173 : Cond.fieldLink "SharedRides" 173 "SharedRides$Route" "stops" "[I" ∈ tbG := tb_in 187 (by decide +kernel) (by decide +kernel)
theorem lm_X7_176 : Cond.methodLink "SharedRides" 176 ⟨"SharedRides$Timetable", "fits", "(LSharedRides$Route;)Z"⟩ ∈ tbG := tb_in 387 (by decide +kernel) (by decide +kernel)
theorem lf_X7_180 : Cond.fieldLink "SharedRides" 180 "SharedRides$Timetable" "earliest" "[I" ∈ tbG := tb_in 117 (by decide +kernel) (by decide +kernel)
theorem lm_X7_183 : Cond.methodLink "SharedRides" 183 ⟨"SharedRides$Timetable", "makeLatest", "(LSharedRides$Route;)V"⟩ ∈ tbG := tb_in 632 (by decide +kernel) (by decide +kernel)
theorem lf_X7_186 : Cond.fieldLink "SharedRides" 186 "SharedRides$Timetable" "latest" "[I" ∈ tbG := tb_in 119 (by decide +kernel) (by decide +kernel)
theorem lf_X7_189 : Cond.fieldLink "SharedRides" 189 "SharedRides$Timetable" "loadAfter" "[I" ∈ tbG := tb_in 121 (by decide +kernel) (by decide +kernel)
theorem lm_X7_192 : Cond.methodLink "SharedRides" 192 ⟨"SharedRides$Timetable", "waitBefore", "(I)I"⟩ ∈ tbG := tb_in 644 (by decide +kernel) (by decide +kernel)
theorem lm_X7_195 : Cond.methodLink "SharedRides" 195 ⟨"SharedRides$Timetable", "minutesAboard", "([II)I"⟩ ∈ tbG := tb_in 658 (by decide +kernel) (by decide +kernel)
theorem lf_X7_199 : Cond.fieldLink "SharedRides" 199 "SharedRides$Timetable" "gap" "[I" ∈ tbG := tb_in 123 (by decide +kernel) (by decide +kernel)
theorem lm_X7_202 : Cond.methodLink "SharedRides" 202 ⟨"SharedRides", "insertionError", "(IIII)I"⟩ ∈ tbG := tb_in 464 (by decide +kernel) (by decide +kernel)
theorem lm_X7_206 : Cond.methodLink "SharedRides" 206 ⟨"SharedRides$Problem", "addedLength", "(LSharedRides$Route;III)I"⟩ ∈ tbG := tb_in 481 (by decide +kernel) (by decide +kernel)
theorem lm_X7_210 : Cond.methodLink "SharedRides" 210 ⟨"SharedRides$History", "record", "(LSharedRides$Plan;)V"⟩ ∈ tbG := tb_in 527 (by decide +kernel) (by decide +kernel)
theorem lm_X7_214 : Cond.methodLink "SharedRides" 214 ⟨"SharedRides$Plan", "put", "(IIII)V"⟩ ∈ tbG := tb_in 688 (by decide +kernel) (by decide +kernel)
theorem lm_X7_218 : Cond.methodLink "SharedRides" 218 ⟨"SharedRides", "openRequestError", "(II)I"⟩ ∈ tbG := tb_in 493 (by decide +kernel) (by decide +kernel)
theorem lf_X7_30 : Cond.fieldLink "SharedRides" 30 "SharedRides" "inserter" "LSharedRides$Inserter;" ∈ tbG := tb_in 317 (by decide +kernel) (by decide +kernel)
theorem lm_X7_222 : Cond.methodLink "SharedRides" 222 ⟨"SharedRides$Inserter", "startOver", "()V"⟩ ∈ tbG := tb_in 501 (by decide +kernel) (by decide +kernel)
theorem lm_X7_225 : Cond.methodLink "SharedRides" 225 ⟨"SharedRides$Inserter", "tryRoute", "(LSharedRides$Route;I)V"⟩ ∈ tbG := tb_in 506 (by decide +kernel) (by decide +kernel)
theorem lf_X7_229 : Cond.fieldLink "SharedRides" 229 "SharedRides$Inserter" "found" "Z" ∈ tbG := tb_in 198 (by decide +kernel) (by decide +kernel)
theorem lf_X7_233 : Cond.fieldLink "SharedRides" 233 "SharedRides$Inserter" "i" "I" ∈ tbG := tb_in 204 (by decide +kernel) (by decide +kernel)
theorem lf_X7_236 : Cond.fieldLink "SharedRides" 236 "SharedRides$Inserter" "j" "I" ∈ tbG := tb_in 206 (by decide +kernel) (by decide +kernel)
theorem lm_X7_239 : Cond.methodLink "SharedRides" 239 ⟨"SharedRides", "carryOutInsertion", "(I)Z"⟩ ∈ tbG := tb_in 523 (by decide +kernel) (by decide +kernel)
theorem lf_X7_242 : Cond.fieldLink "SharedRides" 242 "SharedRides$Inserter" "cost" "I" ∈ tbG := tb_in 200 (by decide +kernel) (by decide +kernel)
theorem lm_X7_245 : Cond.methodLink "SharedRides" 245 ⟨"SharedRides", "openRequestError", "(I)I"⟩ ∈ tbG := tb_in 497 (by decide +kernel) (by decide +kernel)
theorem lm_X7_247 : Cond.methodLink "SharedRides" 247 ⟨"SharedRides$Inserter", "tryAllBut", "(ILSharedRides$Plan;I)V"⟩ ∈ tbG := tb_in 517 (by decide +kernel) (by decide +kernel)
theorem lf_X7_251 : Cond.fieldLink "SharedRides" 251 "SharedRides$Inserter" "vehicle" "I" ∈ tbG := tb_in 202 (by decide +kernel) (by decide +kernel)
theorem lm_X7_254 : Cond.methodLink "SharedRides" 254 ⟨"SharedRides$Plan", "take", "(I)V"⟩ ∈ tbG := tb_in 550 (by decide +kernel) (by decide +kernel)
theorem lf_X7_39 : Cond.fieldLink "SharedRides" 39 "SharedRides" "mover" "LSharedRides$Mover;" ∈ tbG := tb_in 318 (by decide +kernel) (by decide +kernel)
theorem lm_X7_258 : Cond.methodLink "SharedRides" 258 ⟨"SharedRides$Mover", "findChain", "(LSharedRides$Plan;I)V"⟩ ∈ tbG := tb_in 562 (by decide +kernel) (by decide +kernel)
theorem lf_X7_262 : Cond.fieldLink "SharedRides" 262 "SharedRides$Mover" "found" "Z" ∈ tbG := tb_in 256 (by decide +kernel) (by decide +kernel)
theorem lf_X7_263 : Cond.fieldLink "SharedRides" 263 "SharedRides$Mover" "change" "I" ∈ tbG := tb_in 258 (by decide +kernel) (by decide +kernel)
theorem lf_X7_266 : Cond.fieldLink "SharedRides" 266 "SharedRides$Mover" "outcome" "LSharedRides$Plan;" ∈ tbG := tb_in 264 (by decide +kernel) (by decide +kernel)
theorem lm_X7_269 : Cond.methodLink "SharedRides" 269 ⟨"SharedRides$Plan", "become", "(LSharedRides$Plan;)V"⟩ ∈ tbG := tb_in 594 (by decide +kernel) (by decide +kernel)
theorem lf_X7_272 : Cond.fieldLink "SharedRides" 272 "SharedRides$Mover" "firstMoved" "I" ∈ tbG := tb_in 260 (by decide +kernel) (by decide +kernel)
theorem lf_X7_275 : Cond.fieldLink "SharedRides" 275 "SharedRides$Mover" "secondMoved" "I" ∈ tbG := tb_in 262 (by decide +kernel) (by decide +kernel)
theorem lm_X7_278 : Cond.methodLink "SharedRides" 278 ⟨"SharedRides$Mover", "findImprovement", "(LSharedRides$Plan;)V"⟩ ∈ tbG := tb_in 599 (by decide +kernel) (by decide +kernel)
theorem lm_X7_281 : Cond.methodLink "SharedRides" 281 ⟨"SharedRides$History", "restoreLatest", "(LSharedRides$Plan;)V"⟩ ∈ tbG := tb_in 607 (by decide +kernel) (by decide +kernel)
theorem lm_X7_284 : Cond.methodLink "SharedRides" 284 ⟨"SharedRides$Inserter", "routeWith", "(LSharedRides$Route;III)LSharedRides$Route;"⟩ ∈ tbG := tb_in 468 (by decide +kernel) (by decide +kernel)
theorem lm_X7_288 : Cond.methodLink "SharedRides" 288 ⟨"SharedRides$Inserter", "carryOut", "(LSharedRides$Plan;I)Z"⟩ ∈ tbG := tb_in 537 (by decide +kernel) (by decide +kernel)
theorem lc_L_8 : Cond.constant "SharedRidesLaw" 8 (Int32.ofInt 2147483647) ∈ tbG := tb_in 618 (by decide +kernel) (by decide +kernel)
theorem lm_L_9 : Cond.methodLink "SharedRidesLaw" 9 ⟨"SharedRidesLaw", "size", "(I)I"⟩ ∈ tbG := tb_in 651 (by decide +kernel) (by decide +kernel)
theorem lm_L_15 : Cond.methodLink "SharedRidesLaw" 15 ⟨"SharedRides", "stop", "(III)I"⟩ ∈ tbG := tb_in 628 (by decide +kernel) (by decide +kernel)
theorem lm_L_21 : Cond.methodLink "SharedRidesLaw" 21 ⟨"SharedRides", "vehicle", "(II)I"⟩ ∈ tbG := tb_in 446 (by decide +kernel) (by decide +kernel)
theorem lm_L_25 : Cond.methodLink "SharedRidesLaw" 25 ⟨"SharedRides", "count", "(I)I"⟩ ∈ tbG := tb_in 426 (by decide +kernel) (by decide +kernel)
theorem lm_L_28 : Cond.methodLink "SharedRidesLaw" 28 ⟨"SharedRidesLaw", "at", "(LSharedRides;II)I"⟩ ∈ tbG := tb_in 625 (by decide +kernel) (by decide +kernel)
theorem lm_L_32 : Cond.methodLink "SharedRidesLaw" 32 ⟨"SharedRidesLaw", "far", "([III)I"⟩ ∈ tbG := tb_in 648 (by decide +kernel) (by decide +kernel)
theorem lm_L_43 : Cond.methodLink "SharedRidesLaw" 43 ⟨"SharedRides", "depotTime", "(IZ)I"⟩ ∈ tbG := tb_in 662 (by decide +kernel) (by decide +kernel)
theorem lm_L_36 : Cond.methodLink "SharedRidesLaw" 36 ⟨"SharedRides", "request", "(II)I"⟩ ∈ tbG := tb_in 442 (by decide +kernel) (by decide +kernel)
theorem lm_L_39 : Cond.methodLink "SharedRidesLaw" 39 ⟨"SharedRides", "rideTime", "(IZ)I"⟩ ∈ tbG := tb_in 654 (by decide +kernel) (by decide +kernel)
theorem lm_L_46 : Cond.methodLink "SharedRidesLaw" 46 ⟨"SharedRidesLaw", "route", "(LSharedRides;[II)Z"⟩ ∈ tbG := tb_in 622 (by decide +kernel) (by decide +kernel)
theorem lc_L_50 : Cond.constant "SharedRidesLaw" 50 (Int32.ofInt 99999) ∈ tbG := tb_in 676 (by decide +kernel) (by decide +kernel)
theorem lm_L_55 : Cond.methodLink "SharedRidesLaw" 55 ⟨"SharedRides", "best", "(II)I"⟩ ∈ tbG := tb_in 489 (by decide +kernel) (by decide +kernel)
theorem lm_L_51 : Cond.methodLink "SharedRidesLaw" 51 ⟨"SharedRides", "cost", "(IIII)I"⟩ ∈ tbG := tb_in 460 (by decide +kernel) (by decide +kernel)
theorem lc_L_58 : Cond.constantLong "SharedRidesLaw" 58 (1000003 : Int64) ∈ tbG := tb_in 669 (by decide +kernel) (by decide +kernel)
theorem lc_L_60 : Cond.constantLong "SharedRidesLaw" 60 (7 : Int64) ∈ tbG := tb_in 670 (by decide +kernel) (by decide +kernel)
theorem lc_L_62 : Cond.constantLong "SharedRidesLaw" 62 (1009 : Int64) ∈ tbG := tb_in 671 (by decide +kernel) (by decide +kernel)
theorem lc_L_64 : Cond.constantLong "SharedRidesLaw" 64 (2 : Int64) ∈ tbG := tb_in 672 (by decide +kernel) (by decide +kernel)
theorem lm_L_66 : Cond.methodLink "SharedRidesLaw" 66 ⟨"SharedRidesLaw", "low", "(II)I"⟩ ∈ tbG := tb_in 615 (by decide +kernel) (by decide +kernel)
theorem lm_L_69 : Cond.methodLink "SharedRidesLaw" 69 ⟨"SharedRidesLaw", "best", "(LSharedRides;II)I"⟩ ∈ tbG := tb_in 677 (by decide +kernel) (by decide +kernel)
theorem lm_L_71 : Cond.methodLink "SharedRidesLaw" 71 ⟨"SharedRides", "assign", "(I)I"⟩ ∈ tbG := tb_in 513 (by decide +kernel) (by decide +kernel)
theorem lm_L_74 : Cond.methodLink "SharedRidesLaw" 74 ⟨"SharedRides", "assignTo", "(II)I"⟩ ∈ tbG := tb_in 680 (by decide +kernel) (by decide +kernel)
theorem lm_L_77 : Cond.methodLink "SharedRidesLaw" 77 ⟨"SharedRides", "insert", "(IIII)I"⟩ ∈ tbG := tb_in 684 (by decide +kernel) (by decide +kernel)
theorem lm_L_80 : Cond.methodLink "SharedRidesLaw" 80 ⟨"SharedRides", "chainCost", "(I)I"⟩ ∈ tbG := tb_in 692 (by decide +kernel) (by decide +kernel)
theorem lm_L_83 : Cond.methodLink "SharedRidesLaw" 83 ⟨"SharedRidesLaw", "print", "(LSharedRides;)J"⟩ ∈ tbG := tb_in 666 (by decide +kernel) (by decide +kernel)
theorem lm_L_87 : Cond.methodLink "SharedRidesLaw" 87 ⟨"SharedRides", "chain", "(I)I"⟩ ∈ tbG := tb_in 558 (by decide +kernel) (by decide +kernel)
theorem lm_L_90 : Cond.methodLink "SharedRidesLaw" 90 ⟨"SharedRides", "addVehicle", "(IIIII)I"⟩ ∈ tbG := tb_in 332 (by decide +kernel) (by decide +kernel)
theorem lm_L_94 : Cond.methodLink "SharedRidesLaw" 94 ⟨"SharedRides", "addRequest", "(IIIIII)I"⟩ ∈ tbG := tb_in 356 (by decide +kernel) (by decide +kernel)
theorem lm_L_98 : Cond.methodLink "SharedRidesLaw" 98 ⟨"SharedRides", "setWindow", "(IZII)I"⟩ ∈ tbG := tb_in 371 (by decide +kernel) (by decide +kernel)
theorem lm_L_102 : Cond.methodLink "SharedRidesLaw" 102 ⟨"SharedRides", "setLimit", "(II)I"⟩ ∈ tbG := tb_in 410 (by decide +kernel) (by decide +kernel)
theorem lm_L_105 : Cond.methodLink "SharedRidesLaw" 105 ⟨"SharedRides", "setLoad", "(II)I"⟩ ∈ tbG := tb_in 414 (by decide +kernel) (by decide +kernel)
theorem lm_L_108 : Cond.methodLink "SharedRidesLaw" 108 ⟨"SharedRides", "setService", "(I)I"⟩ ∈ tbG := tb_in 418 (by decide +kernel) (by decide +kernel)
theorem lm_L_111 : Cond.methodLink "SharedRidesLaw" 111 ⟨"SharedRides", "remove", "(I)I"⟩ ∈ tbG := tb_in 546 (by decide +kernel) (by decide +kernel)
theorem lm_L_115 : Cond.methodLink "SharedRidesLaw" 115 ⟨"SharedRides", "undo", "()I"⟩ ∈ tbG := tb_in 603 (by decide +kernel) (by decide +kernel)
theorem lm_L_119 : Cond.methodLink "SharedRidesLaw" 119 ⟨"SharedRides", "improve", "()I"⟩ ∈ tbG := tb_in 595 (by decide +kernel) (by decide +kernel)
theorem lm_L_122 : Cond.methodLink "SharedRidesLaw" 122 ⟨"SharedRidesLaw", "cell", "([II)I"⟩ ∈ tbG := tb_in 611 (by decide +kernel) (by decide +kernel)
theorem lm_L_138 : Cond.methodLink "SharedRidesLaw" 138 ⟨"SharedRidesLaw", "errors", "(LSharedRides;)Z"⟩ ∈ tbG := tb_in 696 (by decide +kernel) (by decide +kernel)
theorem lm_L_126 : Cond.methodLink "SharedRidesLaw" 126 ⟨"SharedRidesLaw", "puts", "(LSharedRides;II)Z"⟩ ∈ tbG := tb_in 673 (by decide +kernel) (by decide +kernel)
theorem lm_L_130 : Cond.methodLink "SharedRidesLaw" 130 ⟨"SharedRidesLaw", "chains", "(LSharedRides;I)Z"⟩ ∈ tbG := tb_in 689 (by decide +kernel) (by decide +kernel)
theorem lm_L_134 : Cond.methodLink "SharedRidesLaw" 134 ⟨"SharedRidesLaw", "plan", "(LSharedRides;[I)Z"⟩ ∈ tbG := tb_in 619 (by decide +kernel) (by decide +kernel)
theorem lc_L_7 : Cond.constant "SharedRidesLaw" 7 (Int32.ofInt 4090013) ∈ tbG := tb_in 614 (by decide +kernel) (by decide +kernel)
