def R_law : String := "SharedRidesLaw"
def lw_P (b : Addr) (xs : List Int32) (args : Array Value) (s : State) : Prop := args = #[.ref b] ∧ s.IntsAt b xs ∧ xs.length ≤ 3584 ∧ (Jvm.Cond.and given_1 narrow_1).before args s = true
def lw_Q (_ : Array Value) (s : State) (o : Outcome) (t : State) : Prop := o = .returned (some (.int 1)) ∧ Framed s o t [] 600000 7302250
def lw_Z (below : List Frame) (a : Array Value) (s : State) : State → Prop := fun t => ∃ o, t.status = .running ∧ Ended t below o ∧ lw_Q a s o t
theorem lw_ret {p : Program} {l : Launch} {e : Env} {s : State} {m : MethodId} {below : List Frame} {meth : Method} {c : Code} {b : Nat} (hx : p.tables.exec = Jvm.exec) (hb : c.code = code) (hr : meth.sig.returnType = ret) (hlocks : meth.locks = false) {pc : Nat} {H : Heap} {ls : Array Slot} (hdg : decode code pc = .ok (.ireturn, 1)) : W p l e room_1 s m #[Value.ref b] below meth c H [] 600000 7302250 (lw_Z below #[Value.ref b] s) (F0 m pc ls [.int 1]) := by
  intro T hT X
  obtain ⟨fs, hret, hrun, hended, hW, hframe⟩ := X.leave (v := some (.int 1)) (hlocks := hlocks) (fun h => by rw [hr] at h; cases h)
  have hmeth' : T.vm.method? m = some meth := X.method'
  refine ⟨T.setFrames fs, ?_, .returned (some (.int 1)), hrun, hended, rfl, ⟨_, rfl⟩, hW, hframe⟩
  jvm_step X.here [X.here.top, hx, hb, hdg, hmeth', hr, ret, narrow_b1]
  (try refine ⟨rfl, ?_⟩); (try refine ⟨rfl, ?_⟩)
  first | (intro acts; rw [hret _ acts rfl rfl rfl]) | rw [hret _ _ rfl rfl rfl]
  exact Steps.refl _
def lw_At (p : Program) (s : State) (m : MethodId) (meth : Method) (c : Code) (b L : Nat) (xs : Nat → Int32) : Prop :=
  p.tables.exec = Jvm.exec ∧ c.code = code ∧ meth.sig.returnType = ret ∧ c.maxLocals = 4 ∧ s.vm.findClass R_law = some m.cls ∧ (∀ w ∈ lw_tbl, w.before #[Value.ref b] s = true) ∧ va_X b L xs s s.heap ∧ b < s.heap.size ∧ meth.locks = false ∧ (Jvm.Cond.and given_1 narrow_1).before #[Value.ref b] s = true
def sx (xs : Nat → Int32) (z : Int) : Int := (xs z.toNat).toInt
def bz (z : Int) : Int := if z = 0 then 0 else 1
def FL (b L : Nat) (xs : Nat → Int32) : FT := fun _ _ R s _ args below meth _ A H0 cells slots Qf => R = room_1 ∧ meth.sig.returnType = ret ∧ meth.locks = false ∧ A = (fun q : Nat => s.heap.size ≤ q) ∧ H0 = s.heap ∧ args = #[Value.ref b] ∧ va_X b L xs s s.heap ∧ b < s.heap.size ∧ Qf = lw_Z below #[Value.ref b] s ∧ cells ≤ 600000 ∧ slots ≤ 7302250
def mL : MI := (yL_law, cL_law, 4, ret, 12, 478)
abbrev lwS (x : Int) : List (Nat × MV) := [(3, vI x), (2, vR 56), (1, vR 0), (0, vR 228)]
theorem ok_sx (xs : Nat → Int32) (z : Int) : okV (vI (sx xs z)) := ⟨(xs z.toNat).le_toInt, by have := (xs z.toNat).toInt_lt; show (xs z.toNat).toInt ≤ 2147483647; omega⟩
theorem InvM_c {σ σ' : Sto} {S : ST} (h : InvM σ S) (f : frC σ σ') : InvM σ' S := by
  have e : ∀ k, 56 ≤ k → k ≤ 73 → ∀ i, σ' k i = σ k i := fun k a b i => congrFun (f k a b) i
  obtain ⟨⟨a, b, c, d⟩, hR, hH⟩ := h
  refine ⟨⟨by rw [e 56 (by omega) (by omega), e 56 (by omega) (by omega), e 56 (by omega) (by omega)]; exact a, fun v hv => ?_, fun s hs => ?_, fun r hr => ?_⟩, by rw [f 68 (by omega) (by omega)]; exact hR, by rw [e 56 (by omega) (by omega)]; exact hH.1, fun i x q => by rw [f 72 (by omega) (by omega)]; exact hH.2 i x q⟩
  · rw [e 57 (by omega) (by omega), e 58 (by omega) (by omega), e 59 (by omega) (by omega), e 60 (by omega) (by omega), e 61 (by omega) (by omega)]; exact b v hv
  · rw [e 62 (by omega) (by omega), e 63 (by omega) (by omega), e 64 (by omega) (by omega), e 65 (by omega) (by omega)]; exact c s hs
  · rw [e 66 (by omega) (by omega), e 67 (by omega) (by omega)]; exact d r hr
theorem InvC_m {σ σ' : Sto} {S : ST} (h : InvC σ S) (f : frM σ σ') : InvC σ' S :=
  ⟨rP_k h.1 (fun k hk => f k (by omega)), rPl_k h.2.1 (fun k a b => f k (by omega)), rH_k h.2.2 (f 53 (by omega)) (fun k hk => f k (by omega))⟩
section LAWROWS
variable {l : Launch} {G : GT} {b L : Nat} {xs : Nat → Int32} {pc : Nat} {ls : List (Nat × MV)} {st : List MV} {σ : Sto}
theorem r_sld (hb2 : G.2.2.1 228 = b) {x : Int} (hd : decode mL.2.1 pc = .ok (.iaload, 1)) (h : 0 ≤ x ∧ x < L) (kk : MWF l G mL (FL b L xs) (pc + 1) ls (vI (sx xs x) :: st) σ) : MWF l G mL (FL b L xs) pc ls (vI x :: vR 228 :: st) σ := by
  intro hσ hl hs p e R s m args below meth c A H0 cells slots Qf hF hC H locs lsA hP hS hls
  obtain ⟨hx, hb, hml, hown, hts, hK, hD, hfr, hlo, hce, hsl⟩ := id hC
  obtain ⟨e1, e2, e3, e4, e5, e6, e7, e8, e9, e10, e11⟩ := id hF
  have h1 : okV (vI x) := okL_hd hs
  have k2 := kk hσ hl (okL_cons (ok_sx xs x) (okL_tl (okL_tl hs))) p e R s m args below meth c A H0 cells slots Qf hF hC H locs lsA hP hS hls
  have ev : Value.int (xs (Int32.ofInt x).toNatClampNeg) = cv G.2.2.1 (vI (sx xs x)) := by
    show Value.int _ = Value.int (Int32.ofInt (xs x.toNat).toInt)
    rw [oI_N h1, Int32.ofInt_toInt]
  show W p l e R s m args below meth c H locs cells slots Qf (F0 m pc lsA (.int (Int32.ofInt x) :: .ref (G.2.2.1 228) :: st.map (cv G.2.2.1)))
  rw [hb2]
  refine va_sld hx hb (xs := xs) (L := L) (by rw [e5]; exact e7) (by rw [e5]; exact e8) (by rw [e4]; exact Nat.not_le.mpr e8) hS (oI_vp h1 h.1 h.2) hd ?_
  rw [ev]
  exact k2
theorem r_slen (hb2 : G.2.2.1 228 = b) (hL : L ≤ 3584) (hd : decode mL.2.1 pc = .ok (.arraylength, 1)) (kk : MWF l G mL (FL b L xs) (pc + 1) ls (vI L :: st) σ) : MWF l G mL (FL b L xs) pc ls (vR 228 :: st) σ := by
  intro hσ hl hs p e R s m args below meth c A H0 cells slots Qf hF hC H locs lsA hP hS hls
  obtain ⟨hx, hb, hml, hown, hts, hK, hD, hfr, hlo, hce, hsl⟩ := id hC
  obtain ⟨e1, e2, e3, e4, e5, e6, e7, e8, e9, e10, e11⟩ := id hF
  have k2 := kk hσ hl (okL_I (by omega) (okL_tl hs)) p e R s m args below meth c A H0 cells slots Qf hF hC H locs lsA hP hS hls
  show W p l e R s m args below meth c H locs cells slots Qf (F0 m pc lsA (.ref (G.2.2.1 228) :: st.map (cv G.2.2.1)))
  rw [hb2]
  refine va_slen hx hb (xs := xs) (L := L) (by rw [e5]; exact e7) (by rw [e5]; exact e8) (by rw [e4]; exact Nat.not_le.mpr e8) hS hd ?_
  exact k2
theorem r_iand {M : MI} {F : FT} {x y : Int} (hd : decode M.2.1 pc = .ok (.iand, 1)) (kk : ∀ z, MWF l G M F (pc + 1) ls (vI z :: st) σ) : MWF l G M F pc ls (vI y :: vI x :: st) σ := by
  intro hσ hl hs p e R s m args below meth c A H0 cells slots Qf hF hC H locs lsA hP hS hls
  obtain ⟨hx, hb, hml, hown, hts, hK, hD, hfr, hlo, hce, hsl⟩ := id hC
  have hz : okV (vI (Int32.ofInt x &&& Int32.ofInt y).toInt) := ⟨(Int32.ofInt x &&& Int32.ofInt y).le_toInt, by have := (Int32.ofInt x &&& Int32.ofInt y).toInt_lt; show (Int32.ofInt x &&& Int32.ofInt y).toInt ≤ 2147483647; omega⟩
  have k2 := kk (Int32.ofInt x &&& Int32.ofInt y).toInt hσ hl (okL_cons hz (okL_tl (okL_tl hs))) p e R s m args below meth c A H0 cells slots Qf hF hC H locs lsA hP hS hls
  refine lv_iand hx hb hd ?_
  have ev : Value.int (Int32.ofInt x &&& Int32.ofInt y) = cv G.2.2.1 (vI (Int32.ofInt x &&& Int32.ofInt y).toInt) := by
    show Value.int _ = Value.int (Int32.ofInt (Int32.ofInt x &&& Int32.ofInt y).toInt)
    rw [Int32.ofInt_toInt]
  rw [ev]
  exact k2
theorem r_lret (hd : decode cL_law pc = .ok (.ireturn, 1)) : MWF l G mL (FL b L xs) pc ls [vI 1] σ := by
  intro hσ hl hs p e R s m args below meth c A H0 cells slots Qf hF hC H locs lsA hP hS hls
  obtain ⟨hx, hb, hml, hown, hts, hK, hD, hfr, hlo, hce, hsl⟩ := id hC
  obtain ⟨rfl, e2, e3, rfl, rfl, rfl, e7, e8, rfl, e10, e11⟩ := id hF
  refine va_forget (fun q hq => hS.2.2 q hq) ?_
  refine W.widen (k := 600000) (n := 7302250) e10 e11 ?_
  exact lw_ret hx hb e2 e3 hd
end LAWROWS

theorem lm_L_13 : Cond.methodLink mL.1.cls 13 mX7_addVehicle.1 ∈ tbG := tb_in 364 (by decide +kernel) (by decide +kernel)
theorem lm_L_17 : Cond.methodLink mL.1.cls 17 mX8_addVehicle.1 ∈ tbG := tb_in 779 (by decide +kernel) (by decide +kernel)
theorem lm_L_18 : Cond.methodLink mL.1.cls 18 mX7_addRequest.1 ∈ tbG := tb_in 388 (by decide +kernel) (by decide +kernel)
theorem lm_L_22 : Cond.methodLink mL.1.cls 22 mX8_addRequest.1 ∈ tbG := tb_in 789 (by decide +kernel) (by decide +kernel)
theorem lm_L_23 : Cond.methodLink mL.1.cls 23 mX7_setWindow.1 ∈ tbG := tb_in 403 (by decide +kernel) (by decide +kernel)
theorem lm_L_27 : Cond.methodLink mL.1.cls 27 mX8_setWindow.1 ∈ tbG := tb_in 793 (by decide +kernel) (by decide +kernel)
theorem lm_L_28 : Cond.methodLink mL.1.cls 28 mX7_setLimit.1 ∈ tbG := tb_in 442 (by decide +kernel) (by decide +kernel)
theorem lm_L_32 : Cond.methodLink mL.1.cls 32 mX8_setLimit.1 ∈ tbG := tb_in 844 (by decide +kernel) (by decide +kernel)
theorem lm_L_33 : Cond.methodLink mL.1.cls 33 mX7_setLoad.1 ∈ tbG := tb_in 446 (by decide +kernel) (by decide +kernel)
theorem lm_L_36 : Cond.methodLink mL.1.cls 36 mX8_setLoad.1 ∈ tbG := tb_in 848 (by decide +kernel) (by decide +kernel)
theorem lm_L_37 : Cond.methodLink mL.1.cls 37 mX7_setService.1 ∈ tbG := tb_in 450 (by decide +kernel) (by decide +kernel)
theorem lm_L_41 : Cond.methodLink mL.1.cls 41 mX8_setService.1 ∈ tbG := tb_in 852 (by decide +kernel) (by decide +kernel)
theorem lm_L_42 : Cond.methodLink mL.1.cls 42 mX7_count.1 ∈ tbG := tb_in 458 (by decide +kernel) (by decide +kernel)
theorem lm_L_45 : Cond.methodLink mL.1.cls 45 mX8_count.1 ∈ tbG := tb_in 856 (by decide +kernel) (by decide +kernel)
theorem lm_L_46 : Cond.methodLink mL.1.cls 46 mX7_request.1 ∈ tbG := tb_in 474 (by decide +kernel) (by decide +kernel)
theorem lm_L_49 : Cond.methodLink mL.1.cls 49 mX8_request.1 ∈ tbG := tb_in 868 (by decide +kernel) (by decide +kernel)
theorem lm_L_50 : Cond.methodLink mL.1.cls 50 mX7_vehicle.1 ∈ tbG := tb_in 478 (by decide +kernel) (by decide +kernel)
theorem lm_L_53 : Cond.methodLink mL.1.cls 53 mX8_vehicle.1 ∈ tbG := tb_in 872 (by decide +kernel) (by decide +kernel)
theorem lm_L_54 : Cond.methodLink mL.1.cls 54 mX7_stop.1 ∈ tbG := tb_in 492 (by decide +kernel) (by decide +kernel)
theorem lm_L_58 : Cond.methodLink mL.1.cls 58 mX8_stop.1 ∈ tbG := tb_in 880 (by decide +kernel) (by decide +kernel)
theorem lm_L_59 : Cond.methodLink mL.1.cls 59 mX7_rideTime.1 ∈ tbG := tb_in 512 (by decide +kernel) (by decide +kernel)
theorem lm_L_63 : Cond.methodLink mL.1.cls 63 mX8_rideTime.1 ∈ tbG := tb_in 892 (by decide +kernel) (by decide +kernel)
theorem lm_L_64 : Cond.methodLink mL.1.cls 64 mX7_depotTime.1 ∈ tbG := tb_in 520 (by decide +kernel) (by decide +kernel)
theorem lm_L_67 : Cond.methodLink mL.1.cls 67 mX8_depotTime.1 ∈ tbG := tb_in 896 (by decide +kernel) (by decide +kernel)
theorem lm_L_68 : Cond.methodLink mL.1.cls 68 mX7_cost.1 ∈ tbG := tb_in 524 (by decide +kernel) (by decide +kernel)
theorem lm_L_72 : Cond.methodLink mL.1.cls 72 mX8_cost.1 ∈ tbG := tb_in 900 (by decide +kernel) (by decide +kernel)
theorem lm_L_73 : Cond.methodLink mL.1.cls 73 mX7_insert.1 ∈ tbG := tb_in 553 (by decide +kernel) (by decide +kernel)
theorem lm_L_76 : Cond.methodLink mL.1.cls 76 mX8_insert.1 ∈ tbG := tb_in 916 (by decide +kernel) (by decide +kernel)
theorem lm_L_77 : Cond.methodLink mL.1.cls 77 mX7_best.1 ∈ tbG := tb_in 572 (by decide +kernel) (by decide +kernel)
theorem lm_L_80 : Cond.methodLink mL.1.cls 80 mX8_best.1 ∈ tbG := tb_in 932 (by decide +kernel) (by decide +kernel)
theorem lm_L_81 : Cond.methodLink mL.1.cls 81 mX7_assignTo.1 ∈ tbG := tb_in 596 (by decide +kernel) (by decide +kernel)
theorem lm_L_84 : Cond.methodLink mL.1.cls 84 mX8_assignTo.1 ∈ tbG := tb_in 940 (by decide +kernel) (by decide +kernel)
theorem lm_L_85 : Cond.methodLink mL.1.cls 85 mX7_assign.1 ∈ tbG := tb_in 609 (by decide +kernel) (by decide +kernel)
theorem lm_L_88 : Cond.methodLink mL.1.cls 88 mX8_assign.1 ∈ tbG := tb_in 948 (by decide +kernel) (by decide +kernel)
theorem lm_L_89 : Cond.methodLink mL.1.cls 89 mX7_remove.1 ∈ tbG := tb_in 619 (by decide +kernel) (by decide +kernel)
theorem lm_L_92 : Cond.methodLink mL.1.cls 92 mX8_remove.1 ∈ tbG := tb_in 960 (by decide +kernel) (by decide +kernel)
theorem lm_L_93 : Cond.methodLink mL.1.cls 93 mX7_chainCost.1 ∈ tbG := tb_in 631 (by decide +kernel) (by decide +kernel)
theorem lm_L_96 : Cond.methodLink mL.1.cls 96 mX8_chainCost.1 ∈ tbG := tb_in 968 (by decide +kernel) (by decide +kernel)
theorem lm_L_97 : Cond.methodLink mL.1.cls 97 mX7_chain.1 ∈ tbG := tb_in 667 (by decide +kernel) (by decide +kernel)
theorem lm_L_100 : Cond.methodLink mL.1.cls 100 mX8_chain.1 ∈ tbG := tb_in 988 (by decide +kernel) (by decide +kernel)
theorem lm_L_101 : Cond.methodLink mL.1.cls 101 mX7_improve.1 ∈ tbG := tb_in 672 (by decide +kernel) (by decide +kernel)
theorem lm_L_105 : Cond.methodLink mL.1.cls 105 mX8_improve.1 ∈ tbG := tb_in 992 (by decide +kernel) (by decide +kernel)
theorem lm_L_106 : Cond.methodLink mL.1.cls 106 mX7_undo.1 ∈ tbG := tb_in 680 (by decide +kernel) (by decide +kernel)
theorem lm_L_109 : Cond.methodLink mL.1.cls 109 mX8_undo.1 ∈ tbG := tb_in 996 (by decide +kernel) (by decide +kernel)
section LAWCASES
variable {l : Launch} {G : GT} {b L : Nat} {xs : Nat → Int32}
theorem lw_c0 (hb2 : G.2.2.1 228 = b) {x : Int} (hx : 0 ≤ x ∧ x + 7 ≤ (L : Int) ∧ (L : Int) ≤ 3584) (head : ∀ (S : ST) (σ : Sto), Val S → InvC σ S → InvM σ S → MWF l G mL (FL b L xs) 952 (lwS x) [] σ) {S : ST} (hV : Val S) {σ : Sto} (hC : InvC σ S) (hM : InvM σ S) : MWF l G mL (FL b L xs) 136 (lwS x) [] σ := by
  refine r_aload_n 2 dL_law_136 rfl rfl ?_
  refine r_aload_n 3 dL_law_137 rfl rfl ?_
  refine r_iload_n 0 dL_law_138 rfl rfl ?_
  refine r_iconst dL_law_139 (by decide) ?_
  refine r_iadd dL_law_140 (by omega) ?_
  refine r_sld hb2 dL_law_141 (by omega) ?_
  refine r_aload_n 3 dL_law_142 rfl rfl ?_
  refine r_iload_n 0 dL_law_143 rfl rfl ?_
  refine r_iconst dL_law_144 (by decide) ?_
  refine r_iadd dL_law_145 (by omega) ?_
  refine r_sld hb2 dL_law_146 (by omega) ?_
  refine r_aload_n 3 dL_law_147 rfl rfl ?_
  refine r_iload_n 0 dL_law_148 rfl rfl ?_
  refine r_iconst dL_law_149 (by decide) ?_
  refine r_iadd dL_law_150 (by omega) ?_
  refine r_sld hb2 dL_law_151 (by omega) ?_
  refine r_aload_n 3 dL_law_152 rfl rfl ?_
  refine r_iload_n 0 dL_law_153 rfl rfl ?_
  refine r_iconst dL_law_154 (by decide) ?_
  refine r_iadd dL_law_155 (by omega) ?_
  refine r_sld hb2 dL_law_156 (by omega) ?_
  refine r_aload_n 3 dL_law_157 rfl rfl ?_
  refine r_iload_n 0 dL_law_158 rfl rfl ?_
  refine r_iconst dL_law_159 (by decide) ?_
  refine r_iadd dL_law_160 (by omega) ?_
  refine r_sld hb2 dL_law_161 (by omega) ?_
  refine r_callV [vI (sx xs (x + 1)), vI (sx xs (x + 2)), vI (sx xs (x + 3)), vI (sx xs (x + 4)), vI (sx xs (x + 5))] [] dL_law_162 okX7_addVehicle ivX7_addVehicle seX7_addVehicle lm_L_13 rfl rfl sh_0 rfl ⟨Nat.le_of_ble_eq_true rfl, Nat.le_of_ble_eq_true rfl, Nat.le_of_ble_eq_true rfl, Nat.le_of_ble_eq_true rfl⟩ (c_addV hV hC (Q := fun r s => r = (f_addV S (sx xs (x + 1)) (sx xs (x + 2)) (sx xs (x + 3)) (sx xs (x + 4)) (sx xs (x + 5))).1 ∧ InvC s (f_addV S (sx xs (x + 1)) (sx xs (x + 2)) (sx xs (x + 3)) (sx xs (x + 4)) (sx xs (x + 5))).2 ∧ frC σ s) (fun s h f => ⟨rfl, h, f⟩)) ?_
  rintro _ s1 ⟨r1, rfl, rfl, hC1, f1⟩
  have hM1 := InvM_c hM f1
  refine r_aload_n 1 dL_law_165 rfl rfl ?_
  refine r_aload_n 3 dL_law_166 rfl rfl ?_
  refine r_iload_n 0 dL_law_167 rfl rfl ?_
  refine r_iconst dL_law_168 (by decide) ?_
  refine r_iadd dL_law_169 (by omega) ?_
  refine r_sld hb2 dL_law_170 (by omega) ?_
  refine r_aload_n 3 dL_law_171 rfl rfl ?_
  refine r_iload_n 0 dL_law_172 rfl rfl ?_
  refine r_iconst dL_law_173 (by decide) ?_
  refine r_iadd dL_law_174 (by omega) ?_
  refine r_sld hb2 dL_law_175 (by omega) ?_
  refine r_aload_n 3 dL_law_176 rfl rfl ?_
  refine r_iload_n 0 dL_law_177 rfl rfl ?_
  refine r_iconst dL_law_178 (by decide) ?_
  refine r_iadd dL_law_179 (by omega) ?_
  refine r_sld hb2 dL_law_180 (by omega) ?_
  refine r_aload_n 3 dL_law_181 rfl rfl ?_
  refine r_iload_n 0 dL_law_182 rfl rfl ?_
  refine r_iconst dL_law_183 (by decide) ?_
  refine r_iadd dL_law_184 (by omega) ?_
  refine r_sld hb2 dL_law_185 (by omega) ?_
  refine r_aload_n 3 dL_law_186 rfl rfl ?_
  refine r_iload_n 0 dL_law_187 rfl rfl ?_
  refine r_iconst dL_law_188 (by decide) ?_
  refine r_iadd dL_law_189 (by omega) ?_
  refine r_sld hb2 dL_law_190 (by omega) ?_
  refine r_callV [vI (sx xs (x + 1)), vI (sx xs (x + 2)), vI (sx xs (x + 3)), vI (sx xs (x + 4)), vI (sx xs (x + 5))] [vI ((f_addV S (sx xs (x + 1)) (sx xs (x + 2)) (sx xs (x + 3)) (sx xs (x + 4)) (sx xs (x + 5))).1)] dL_law_191 okX8_addVehicle ivX8_addVehicle seX8_addVehicle lm_L_17 rfl rfl sh_56 rfl ⟨Nat.le_of_ble_eq_true rfl, Nat.le_of_ble_eq_true rfl, Nat.le_of_ble_eq_true rfl, Nat.le_of_ble_eq_true rfl⟩ (m_addV hV hM1 (Q := fun r s => r = (f_addV S (sx xs (x + 1)) (sx xs (x + 2)) (sx xs (x + 3)) (sx xs (x + 4)) (sx xs (x + 5))).1 ∧ InvM s (f_addV S (sx xs (x + 1)) (sx xs (x + 2)) (sx xs (x + 3)) (sx xs (x + 4)) (sx xs (x + 5))).2 ∧ frM s1 s) (fun s h f => ⟨rfl, h, f⟩)) ?_
  rintro _ s2 ⟨r2, rfl, rfl, hM2, f2⟩
  have hC2 := InvC_m hC1 f2
  exact r_icmp_eq (tgt := 952) dL_law_194 (by decide) (fun _ => head _ _ (V_addV hV _ _ _ _ _) hC2 hM2) (fun q => absurd rfl q)
theorem lw_c1 (hb2 : G.2.2.1 228 = b) {x : Int} (hx : 0 ≤ x ∧ x + 7 ≤ (L : Int) ∧ (L : Int) ≤ 3584) (head : ∀ (S : ST) (σ : Sto), Val S → InvC σ S → InvM σ S → MWF l G mL (FL b L xs) 952 (lwS x) [] σ) {S : ST} (hV : Val S) {σ : Sto} (hC : InvC σ S) (hM : InvM σ S) : MWF l G mL (FL b L xs) 199 (lwS x) [] σ := by
  refine r_aload_n 2 dL_law_199 rfl rfl ?_
  refine r_aload_n 3 dL_law_200 rfl rfl ?_
  refine r_iload_n 0 dL_law_201 rfl rfl ?_
  refine r_iconst dL_law_202 (by decide) ?_
  refine r_iadd dL_law_203 (by omega) ?_
  refine r_sld hb2 dL_law_204 (by omega) ?_
  refine r_aload_n 3 dL_law_205 rfl rfl ?_
  refine r_iload_n 0 dL_law_206 rfl rfl ?_
  refine r_iconst dL_law_207 (by decide) ?_
  refine r_iadd dL_law_208 (by omega) ?_
  refine r_sld hb2 dL_law_209 (by omega) ?_
  refine r_aload_n 3 dL_law_210 rfl rfl ?_
  refine r_iload_n 0 dL_law_211 rfl rfl ?_
  refine r_iconst dL_law_212 (by decide) ?_
  refine r_iadd dL_law_213 (by omega) ?_
  refine r_sld hb2 dL_law_214 (by omega) ?_
  refine r_aload_n 3 dL_law_215 rfl rfl ?_
  refine r_iload_n 0 dL_law_216 rfl rfl ?_
  refine r_iconst dL_law_217 (by decide) ?_
  refine r_iadd dL_law_218 (by omega) ?_
  refine r_sld hb2 dL_law_219 (by omega) ?_
  refine r_aload_n 3 dL_law_220 rfl rfl ?_
  refine r_iload_n 0 dL_law_221 rfl rfl ?_
  refine r_iconst dL_law_222 (by decide) ?_
  refine r_iadd dL_law_223 (by omega) ?_
  refine r_sld hb2 dL_law_224 (by omega) ?_
  refine r_aload_n 3 dL_law_225 rfl rfl ?_
  refine r_iload_n 0 dL_law_226 rfl rfl ?_
  refine r_bipush dL_law_227 (by decide) (by decide) ?_
  refine r_iadd dL_law_229 (by omega) ?_
  refine r_sld hb2 dL_law_230 (by omega) ?_
  refine r_callV [vI (sx xs (x + 1)), vI (sx xs (x + 2)), vI (sx xs (x + 3)), vI (sx xs (x + 4)), vI (sx xs (x + 5)), vI (sx xs (x + 6))] [] dL_law_231 okX7_addRequest ivX7_addRequest seX7_addRequest lm_L_18 rfl rfl sh_0 rfl ⟨Nat.le_of_ble_eq_true rfl, Nat.le_of_ble_eq_true rfl, Nat.le_of_ble_eq_true rfl, Nat.le_of_ble_eq_true rfl⟩ (c_addR hV hC (Q := fun r s => r = (f_addR S (sx xs (x + 1)) (sx xs (x + 2)) (sx xs (x + 3)) (sx xs (x + 4)) (sx xs (x + 5)) (sx xs (x + 6))).1 ∧ InvC s (f_addR S (sx xs (x + 1)) (sx xs (x + 2)) (sx xs (x + 3)) (sx xs (x + 4)) (sx xs (x + 5)) (sx xs (x + 6))).2 ∧ frC σ s) (fun s h f => ⟨rfl, h, f⟩)) ?_
  rintro _ s1 ⟨r1, rfl, rfl, hC1, f1⟩
  have hM1 := InvM_c hM f1
  refine r_aload_n 1 dL_law_234 rfl rfl ?_
  refine r_aload_n 3 dL_law_235 rfl rfl ?_
  refine r_iload_n 0 dL_law_236 rfl rfl ?_
  refine r_iconst dL_law_237 (by decide) ?_
  refine r_iadd dL_law_238 (by omega) ?_
  refine r_sld hb2 dL_law_239 (by omega) ?_
  refine r_aload_n 3 dL_law_240 rfl rfl ?_
  refine r_iload_n 0 dL_law_241 rfl rfl ?_
  refine r_iconst dL_law_242 (by decide) ?_
  refine r_iadd dL_law_243 (by omega) ?_
  refine r_sld hb2 dL_law_244 (by omega) ?_
  refine r_aload_n 3 dL_law_245 rfl rfl ?_
  refine r_iload_n 0 dL_law_246 rfl rfl ?_
  refine r_iconst dL_law_247 (by decide) ?_
  refine r_iadd dL_law_248 (by omega) ?_
  refine r_sld hb2 dL_law_249 (by omega) ?_
  refine r_aload_n 3 dL_law_250 rfl rfl ?_
  refine r_iload_n 0 dL_law_251 rfl rfl ?_
  refine r_iconst dL_law_252 (by decide) ?_
  refine r_iadd dL_law_253 (by omega) ?_
  refine r_sld hb2 dL_law_254 (by omega) ?_
  refine r_aload_n 3 dL_law_255 rfl rfl ?_
  refine r_iload_n 0 dL_law_256 rfl rfl ?_
  refine r_iconst dL_law_257 (by decide) ?_
  refine r_iadd dL_law_258 (by omega) ?_
  refine r_sld hb2 dL_law_259 (by omega) ?_
  refine r_aload_n 3 dL_law_260 rfl rfl ?_
  refine r_iload_n 0 dL_law_261 rfl rfl ?_
  refine r_bipush dL_law_262 (by decide) (by decide) ?_
  refine r_iadd dL_law_264 (by omega) ?_
  refine r_sld hb2 dL_law_265 (by omega) ?_
  refine r_callV [vI (sx xs (x + 1)), vI (sx xs (x + 2)), vI (sx xs (x + 3)), vI (sx xs (x + 4)), vI (sx xs (x + 5)), vI (sx xs (x + 6))] [vI ((f_addR S (sx xs (x + 1)) (sx xs (x + 2)) (sx xs (x + 3)) (sx xs (x + 4)) (sx xs (x + 5)) (sx xs (x + 6))).1)] dL_law_266 okX8_addRequest ivX8_addRequest seX8_addRequest lm_L_22 rfl rfl sh_56 rfl ⟨Nat.le_of_ble_eq_true rfl, Nat.le_of_ble_eq_true rfl, Nat.le_of_ble_eq_true rfl, Nat.le_of_ble_eq_true rfl⟩ (m_addR hV hM1 (Q := fun r s => r = (f_addR S (sx xs (x + 1)) (sx xs (x + 2)) (sx xs (x + 3)) (sx xs (x + 4)) (sx xs (x + 5)) (sx xs (x + 6))).1 ∧ InvM s (f_addR S (sx xs (x + 1)) (sx xs (x + 2)) (sx xs (x + 3)) (sx xs (x + 4)) (sx xs (x + 5)) (sx xs (x + 6))).2 ∧ frM s1 s) (fun s h f => ⟨rfl, h, f⟩)) ?_
  rintro _ s2 ⟨r2, rfl, rfl, hM2, f2⟩
  have hC2 := InvC_m hC1 f2
  exact r_icmp_eq (tgt := 952) dL_law_269 (by decide) (fun _ => head _ _ (V_addR hV _ _ _ _ _ _) hC2 hM2) (fun q => absurd rfl q)
theorem lw_c2 (hb2 : G.2.2.1 228 = b) {x : Int} (hx : 0 ≤ x ∧ x + 7 ≤ (L : Int) ∧ (L : Int) ≤ 3584) (head : ∀ (S : ST) (σ : Sto), Val S → InvC σ S → InvM σ S → MWF l G mL (FL b L xs) 952 (lwS x) [] σ) {S : ST} (hV : Val S) {σ : Sto} (hC : InvC σ S) (hM : InvM σ S) : MWF l G mL (FL b L xs) 274 (lwS x) [] σ := by
  refine r_aload_n 2 dL_law_274 rfl rfl ?_
  refine r_aload_n 3 dL_law_275 rfl rfl ?_
  refine r_iload_n 0 dL_law_276 rfl rfl ?_
  refine r_iconst dL_law_277 (by decide) ?_
  refine r_iadd dL_law_278 (by omega) ?_
  refine r_sld hb2 dL_law_279 (by omega) ?_
  refine r_aload_n 3 dL_law_280 rfl rfl ?_
  refine r_iload_n 0 dL_law_281 rfl rfl ?_
  refine r_iconst dL_law_282 (by decide) ?_
  refine r_iadd dL_law_283 (by omega) ?_
  refine r_sld hb2 dL_law_284 (by omega) ?_
  have t1 : ∀ y : Int, y = bz (sx xs (x + 2)) → MWF l G mL (FL b L xs) 293 (lwS x) [vI y, vI (sx xs (x + 1)), vR 0] σ := by
    intro y hy
    subst hy
    refine r_aload_n 3 dL_law_293 rfl rfl ?_
    refine r_iload_n 0 dL_law_294 rfl rfl ?_
    refine r_iconst dL_law_295 (by decide) ?_
    refine r_iadd dL_law_296 (by omega) ?_
    refine r_sld hb2 dL_law_297 (by omega) ?_
    refine r_aload_n 3 dL_law_298 rfl rfl ?_
    refine r_iload_n 0 dL_law_299 rfl rfl ?_
    refine r_iconst dL_law_300 (by decide) ?_
    refine r_iadd dL_law_301 (by omega) ?_
    refine r_sld hb2 dL_law_302 (by omega) ?_
    refine r_callV [vI (sx xs (x + 1)), vI (bz (sx xs (x + 2))), vI (sx xs (x + 3)), vI (sx xs (x + 4))] [] dL_law_303 okX7_setWindow ivX7_setWindow seX7_setWindow lm_L_23 rfl rfl sh_0 rfl ⟨Nat.le_of_ble_eq_true rfl, Nat.le_of_ble_eq_true rfl, Nat.le_of_ble_eq_true rfl, Nat.le_of_ble_eq_true rfl⟩ (c_setW hV hC (Q := fun r s => r = (f_setW S (sx xs (x + 1)) (bz (sx xs (x + 2))) (sx xs (x + 3)) (sx xs (x + 4))).1 ∧ InvC s (f_setW S (sx xs (x + 1)) (bz (sx xs (x + 2))) (sx xs (x + 3)) (sx xs (x + 4))).2 ∧ frC σ s) (fun s h f => ⟨rfl, h, f⟩)) ?_
    rintro _ s1 ⟨r1, rfl, rfl, hC1, f1⟩
    have hM1 := InvM_c hM f1
    refine r_aload_n 1 dL_law_306 rfl rfl ?_
    refine r_aload_n 3 dL_law_307 rfl rfl ?_
    refine r_iload_n 0 dL_law_308 rfl rfl ?_
    refine r_iconst dL_law_309 (by decide) ?_
    refine r_iadd dL_law_310 (by omega) ?_
    refine r_sld hb2 dL_law_311 (by omega) ?_
    refine r_aload_n 3 dL_law_312 rfl rfl ?_
    refine r_iload_n 0 dL_law_313 rfl rfl ?_
    refine r_iconst dL_law_314 (by decide) ?_
    refine r_iadd dL_law_315 (by omega) ?_
    refine r_sld hb2 dL_law_316 (by omega) ?_
    have t2 : ∀ y : Int, y = bz (sx xs (x + 2)) → MWF l G mL (FL b L xs) 325 (lwS x) [vI y, vI (sx xs (x + 1)), vR 56, vI ((f_setW S (sx xs (x + 1)) (bz (sx xs (x + 2))) (sx xs (x + 3)) (sx xs (x + 4))).1)] s1 := by
      intro y hy
      subst hy
      refine r_aload_n 3 dL_law_325 rfl rfl ?_
      refine r_iload_n 0 dL_law_326 rfl rfl ?_
      refine r_iconst dL_law_327 (by decide) ?_
      refine r_iadd dL_law_328 (by omega) ?_
      refine r_sld hb2 dL_law_329 (by omega) ?_
      refine r_aload_n 3 dL_law_330 rfl rfl ?_
      refine r_iload_n 0 dL_law_331 rfl rfl ?_
      refine r_iconst dL_law_332 (by decide) ?_
      refine r_iadd dL_law_333 (by omega) ?_
      refine r_sld hb2 dL_law_334 (by omega) ?_
      refine r_callV [vI (sx xs (x + 1)), vI (bz (sx xs (x + 2))), vI (sx xs (x + 3)), vI (sx xs (x + 4))] [vI ((f_setW S (sx xs (x + 1)) (bz (sx xs (x + 2))) (sx xs (x + 3)) (sx xs (x + 4))).1)] dL_law_335 okX8_setWindow ivX8_setWindow seX8_setWindow lm_L_27 rfl rfl sh_56 rfl ⟨Nat.le_of_ble_eq_true rfl, Nat.le_of_ble_eq_true rfl, Nat.le_of_ble_eq_true rfl, Nat.le_of_ble_eq_true rfl⟩ (m_setW hV hM1 (Q := fun r s => r = (f_setW S (sx xs (x + 1)) (bz (sx xs (x + 2))) (sx xs (x + 3)) (sx xs (x + 4))).1 ∧ InvM s (f_setW S (sx xs (x + 1)) (bz (sx xs (x + 2))) (sx xs (x + 3)) (sx xs (x + 4))).2 ∧ frM s1 s) (fun s h f => ⟨rfl, h, f⟩)) ?_
      rintro _ s2 ⟨r2, rfl, rfl, hM2, f2⟩
      have hC2 := InvC_m hC1 f2
      exact r_icmp_eq (tgt := 952) dL_law_338 (by decide) (fun _ => head _ _ (V_setW hV _ _ _ _) hC2 hM2) (fun q => absurd rfl q)
    refine r_if_eq (tgt := 324) dL_law_317 (by decide) (fun c => ?_) (fun c => ?_)
    · refine r_iconst dL_law_324 (by decide) ?_
      exact t2 0 (by unfold bz; rw [if_pos c])
    · refine r_iconst dL_law_320 (by decide) ?_
      refine r_goto (tgt := 325) dL_law_321 (by decide) ?_
      exact t2 1 (by unfold bz; rw [if_neg c])
  refine r_if_eq (tgt := 292) dL_law_285 (by decide) (fun c => ?_) (fun c => ?_)
  · refine r_iconst dL_law_292 (by decide) ?_
    exact t1 0 (by unfold bz; rw [if_pos c])
  · refine r_iconst dL_law_288 (by decide) ?_
    refine r_goto (tgt := 293) dL_law_289 (by decide) ?_
    exact t1 1 (by unfold bz; rw [if_neg c])
theorem lw_c3 (hb2 : G.2.2.1 228 = b) {x : Int} (hx : 0 ≤ x ∧ x + 7 ≤ (L : Int) ∧ (L : Int) ≤ 3584) (head : ∀ (S : ST) (σ : Sto), Val S → InvC σ S → InvM σ S → MWF l G mL (FL b L xs) 952 (lwS x) [] σ) {S : ST} (hV : Val S) {σ : Sto} (hC : InvC σ S) (hM : InvM σ S) : MWF l G mL (FL b L xs) 343 (lwS x) [] σ := by
  refine r_aload_n 2 dL_law_343 rfl rfl ?_
  refine r_aload_n 3 dL_law_344 rfl rfl ?_
  refine r_iload_n 0 dL_law_345 rfl rfl ?_
  refine r_iconst dL_law_346 (by decide) ?_
  refine r_iadd dL_law_347 (by omega) ?_
  refine r_sld hb2 dL_law_348 (by omega) ?_
  refine r_aload_n 3 dL_law_349 rfl rfl ?_
  refine r_iload_n 0 dL_law_350 rfl rfl ?_
  refine r_iconst dL_law_351 (by decide) ?_
  refine r_iadd dL_law_352 (by omega) ?_
  refine r_sld hb2 dL_law_353 (by omega) ?_
  refine r_callV [vI (sx xs (x + 1)), vI (sx xs (x + 2))] [] dL_law_354 okX7_setLimit ivX7_setLimit seX7_setLimit lm_L_28 rfl rfl sh_0 rfl ⟨Nat.le_of_ble_eq_true rfl, Nat.le_of_ble_eq_true rfl, Nat.le_of_ble_eq_true rfl, Nat.le_of_ble_eq_true rfl⟩ (c_setM hV hC (Q := fun r s => r = (f_setM S (sx xs (x + 1)) (sx xs (x + 2))).1 ∧ InvC s (f_setM S (sx xs (x + 1)) (sx xs (x + 2))).2 ∧ frC σ s) (fun s h f => ⟨rfl, h, f⟩)) ?_
  rintro _ s1 ⟨r1, rfl, rfl, hC1, f1⟩
  have hM1 := InvM_c hM f1
  refine r_aload_n 1 dL_law_357 rfl rfl ?_
  refine r_aload_n 3 dL_law_358 rfl rfl ?_
  refine r_iload_n 0 dL_law_359 rfl rfl ?_
  refine r_iconst dL_law_360 (by decide) ?_
  refine r_iadd dL_law_361 (by omega) ?_
  refine r_sld hb2 dL_law_362 (by omega) ?_
  refine r_aload_n 3 dL_law_363 rfl rfl ?_
  refine r_iload_n 0 dL_law_364 rfl rfl ?_
  refine r_iconst dL_law_365 (by decide) ?_
  refine r_iadd dL_law_366 (by omega) ?_
  refine r_sld hb2 dL_law_367 (by omega) ?_
  refine r_callV [vI (sx xs (x + 1)), vI (sx xs (x + 2))] [vI ((f_setM S (sx xs (x + 1)) (sx xs (x + 2))).1)] dL_law_368 okX8_setLimit ivX8_setLimit seX8_setLimit lm_L_32 rfl rfl sh_56 rfl ⟨Nat.le_of_ble_eq_true rfl, Nat.le_of_ble_eq_true rfl, Nat.le_of_ble_eq_true rfl, Nat.le_of_ble_eq_true rfl⟩ (m_setM hV hM1 (Q := fun r s => r = (f_setM S (sx xs (x + 1)) (sx xs (x + 2))).1 ∧ InvM s (f_setM S (sx xs (x + 1)) (sx xs (x + 2))).2 ∧ frM s1 s) (fun s h f => ⟨rfl, h, f⟩)) ?_
  rintro _ s2 ⟨r2, rfl, rfl, hM2, f2⟩
  have hC2 := InvC_m hC1 f2
  exact r_icmp_eq (tgt := 952) dL_law_371 (by decide) (fun _ => head _ _ (V_setM hV _ _) hC2 hM2) (fun q => absurd rfl q)
theorem lw_c4 (hb2 : G.2.2.1 228 = b) {x : Int} (hx : 0 ≤ x ∧ x + 7 ≤ (L : Int) ∧ (L : Int) ≤ 3584) (head : ∀ (S : ST) (σ : Sto), Val S → InvC σ S → InvM σ S → MWF l G mL (FL b L xs) 952 (lwS x) [] σ) {S : ST} (hV : Val S) {σ : Sto} (hC : InvC σ S) (hM : InvM σ S) : MWF l G mL (FL b L xs) 376 (lwS x) [] σ := by
  refine r_aload_n 2 dL_law_376 rfl rfl ?_
  refine r_aload_n 3 dL_law_377 rfl rfl ?_
  refine r_iload_n 0 dL_law_378 rfl rfl ?_
  refine r_iconst dL_law_379 (by decide) ?_
  refine r_iadd dL_law_380 (by omega) ?_
  refine r_sld hb2 dL_law_381 (by omega) ?_
  refine r_aload_n 3 dL_law_382 rfl rfl ?_
  refine r_iload_n 0 dL_law_383 rfl rfl ?_
  refine r_iconst dL_law_384 (by decide) ?_
  refine r_iadd dL_law_385 (by omega) ?_
  refine r_sld hb2 dL_law_386 (by omega) ?_
  refine r_callV [vI (sx xs (x + 1)), vI (sx xs (x + 2))] [] dL_law_387 okX7_setLoad ivX7_setLoad seX7_setLoad lm_L_33 rfl rfl sh_0 rfl ⟨Nat.le_of_ble_eq_true rfl, Nat.le_of_ble_eq_true rfl, Nat.le_of_ble_eq_true rfl, Nat.le_of_ble_eq_true rfl⟩ (c_setL hV hC (Q := fun r s => r = (f_setL S (sx xs (x + 1)) (sx xs (x + 2))).1 ∧ InvC s (f_setL S (sx xs (x + 1)) (sx xs (x + 2))).2 ∧ frC σ s) (fun s h f => ⟨rfl, h, f⟩)) ?_
  rintro _ s1 ⟨r1, rfl, rfl, hC1, f1⟩
  have hM1 := InvM_c hM f1
  refine r_aload_n 1 dL_law_390 rfl rfl ?_
  refine r_aload_n 3 dL_law_391 rfl rfl ?_
  refine r_iload_n 0 dL_law_392 rfl rfl ?_
  refine r_iconst dL_law_393 (by decide) ?_
  refine r_iadd dL_law_394 (by omega) ?_
  refine r_sld hb2 dL_law_395 (by omega) ?_
  refine r_aload_n 3 dL_law_396 rfl rfl ?_
  refine r_iload_n 0 dL_law_397 rfl rfl ?_
  refine r_iconst dL_law_398 (by decide) ?_
  refine r_iadd dL_law_399 (by omega) ?_
  refine r_sld hb2 dL_law_400 (by omega) ?_
  refine r_callV [vI (sx xs (x + 1)), vI (sx xs (x + 2))] [vI ((f_setL S (sx xs (x + 1)) (sx xs (x + 2))).1)] dL_law_401 okX8_setLoad ivX8_setLoad seX8_setLoad lm_L_36 rfl rfl sh_56 rfl ⟨Nat.le_of_ble_eq_true rfl, Nat.le_of_ble_eq_true rfl, Nat.le_of_ble_eq_true rfl, Nat.le_of_ble_eq_true rfl⟩ (m_setL hV hM1 (Q := fun r s => r = (f_setL S (sx xs (x + 1)) (sx xs (x + 2))).1 ∧ InvM s (f_setL S (sx xs (x + 1)) (sx xs (x + 2))).2 ∧ frM s1 s) (fun s h f => ⟨rfl, h, f⟩)) ?_
  rintro _ s2 ⟨r2, rfl, rfl, hM2, f2⟩
  have hC2 := InvC_m hC1 f2
  exact r_icmp_eq (tgt := 952) dL_law_404 (by decide) (fun _ => head _ _ (V_setL hV _ _) hC2 hM2) (fun q => absurd rfl q)
theorem lw_c5 (hb2 : G.2.2.1 228 = b) {x : Int} (hx : 0 ≤ x ∧ x + 7 ≤ (L : Int) ∧ (L : Int) ≤ 3584) (head : ∀ (S : ST) (σ : Sto), Val S → InvC σ S → InvM σ S → MWF l G mL (FL b L xs) 952 (lwS x) [] σ) {S : ST} (hV : Val S) {σ : Sto} (hC : InvC σ S) (hM : InvM σ S) : MWF l G mL (FL b L xs) 409 (lwS x) [] σ := by
  refine r_aload_n 2 dL_law_409 rfl rfl ?_
  refine r_aload_n 3 dL_law_410 rfl rfl ?_
  refine r_iload_n 0 dL_law_411 rfl rfl ?_
  refine r_iconst dL_law_412 (by decide) ?_
  refine r_iadd dL_law_413 (by omega) ?_
  refine r_sld hb2 dL_law_414 (by omega) ?_
  refine r_callV [vI (sx xs (x + 1))] [] dL_law_415 okX7_setService ivX7_setService seX7_setService lm_L_37 rfl rfl sh_0 rfl ⟨Nat.le_of_ble_eq_true rfl, Nat.le_of_ble_eq_true rfl, Nat.le_of_ble_eq_true rfl, Nat.le_of_ble_eq_true rfl⟩ (c_setS hV hC (Q := fun r s => r = (f_setS S (sx xs (x + 1))).1 ∧ InvC s (f_setS S (sx xs (x + 1))).2 ∧ frC σ s) (fun s h f => ⟨rfl, h, f⟩)) ?_
  rintro _ s1 ⟨r1, rfl, rfl, hC1, f1⟩
  have hM1 := InvM_c hM f1
  refine r_aload_n 1 dL_law_418 rfl rfl ?_
  refine r_aload_n 3 dL_law_419 rfl rfl ?_
  refine r_iload_n 0 dL_law_420 rfl rfl ?_
  refine r_iconst dL_law_421 (by decide) ?_
  refine r_iadd dL_law_422 (by omega) ?_
  refine r_sld hb2 dL_law_423 (by omega) ?_
  refine r_callV [vI (sx xs (x + 1))] [vI ((f_setS S (sx xs (x + 1))).1)] dL_law_424 okX8_setService ivX8_setService seX8_setService lm_L_41 rfl rfl sh_56 rfl ⟨Nat.le_of_ble_eq_true rfl, Nat.le_of_ble_eq_true rfl, Nat.le_of_ble_eq_true rfl, Nat.le_of_ble_eq_true rfl⟩ (m_setS hV hM1 (Q := fun r s => r = (f_setS S (sx xs (x + 1))).1 ∧ InvM s (f_setS S (sx xs (x + 1))).2 ∧ frM s1 s) (fun s h f => ⟨rfl, h, f⟩)) ?_
  rintro _ s2 ⟨r2, rfl, rfl, hM2, f2⟩
  have hC2 := InvC_m hC1 f2
  exact r_icmp_eq (tgt := 952) dL_law_427 (by decide) (fun _ => head _ _ (V_setS hV _) hC2 hM2) (fun q => absurd rfl q)
theorem lw_c6 (hb2 : G.2.2.1 228 = b) {x : Int} (hx : 0 ≤ x ∧ x + 7 ≤ (L : Int) ∧ (L : Int) ≤ 3584) (head : ∀ (S : ST) (σ : Sto), Val S → InvC σ S → InvM σ S → MWF l G mL (FL b L xs) 952 (lwS x) [] σ) {S : ST} (hV : Val S) {σ : Sto} (hC : InvC σ S) (hM : InvM σ S) : MWF l G mL (FL b L xs) 432 (lwS x) [] σ := by
  refine r_aload_n 2 dL_law_432 rfl rfl ?_
  refine r_aload_n 3 dL_law_433 rfl rfl ?_
  refine r_iload_n 0 dL_law_434 rfl rfl ?_
  refine r_iconst dL_law_435 (by decide) ?_
  refine r_iadd dL_law_436 (by omega) ?_
  refine r_sld hb2 dL_law_437 (by omega) ?_
  refine r_callV [vI (sx xs (x + 1))] [] dL_law_438 okX7_count ivX7_count seX7_count lm_L_42 rfl rfl sh_0 rfl ⟨Nat.le_of_ble_eq_true rfl, Nat.le_of_ble_eq_true rfl, Nat.le_of_ble_eq_true rfl, Nat.le_of_ble_eq_true rfl⟩ (c_count hV hC (Q := fun r s => r = (f_count S (sx xs (x + 1))) ∧ InvC s S ∧ frC σ s) (fun s h f => ⟨rfl, h, f⟩)) ?_
  rintro _ s1 ⟨r1, rfl, rfl, hC1, f1⟩
  have hM1 := InvM_c hM f1
  refine r_aload_n 1 dL_law_441 rfl rfl ?_
  refine r_aload_n 3 dL_law_442 rfl rfl ?_
  refine r_iload_n 0 dL_law_443 rfl rfl ?_
  refine r_iconst dL_law_444 (by decide) ?_
  refine r_iadd dL_law_445 (by omega) ?_
  refine r_sld hb2 dL_law_446 (by omega) ?_
  refine r_callV [vI (sx xs (x + 1))] [vI ((f_count S (sx xs (x + 1))))] dL_law_447 okX8_count ivX8_count seX8_count lm_L_45 rfl rfl sh_56 rfl ⟨Nat.le_of_ble_eq_true rfl, Nat.le_of_ble_eq_true rfl, Nat.le_of_ble_eq_true rfl, Nat.le_of_ble_eq_true rfl⟩ (m_count hV hM1 (Q := fun r s => r = (f_count S (sx xs (x + 1))) ∧ InvM s S ∧ frM s1 s) (fun s h f => ⟨rfl, h, f⟩)) ?_
  rintro _ s2 ⟨r2, rfl, rfl, hM2, f2⟩
  have hC2 := InvC_m hC1 f2
  exact r_icmp_eq (tgt := 952) dL_law_450 (by decide) (fun _ => head _ _ hV hC2 hM2) (fun q => absurd rfl q)
theorem lw_c7 (hb2 : G.2.2.1 228 = b) {x : Int} (hx : 0 ≤ x ∧ x + 7 ≤ (L : Int) ∧ (L : Int) ≤ 3584) (head : ∀ (S : ST) (σ : Sto), Val S → InvC σ S → InvM σ S → MWF l G mL (FL b L xs) 952 (lwS x) [] σ) {S : ST} (hV : Val S) {σ : Sto} (hC : InvC σ S) (hM : InvM σ S) : MWF l G mL (FL b L xs) 455 (lwS x) [] σ := by
  refine r_aload_n 2 dL_law_455 rfl rfl ?_
  refine r_aload_n 3 dL_law_456 rfl rfl ?_
  refine r_iload_n 0 dL_law_457 rfl rfl ?_
  refine r_iconst dL_law_458 (by decide) ?_
  refine r_iadd dL_law_459 (by omega) ?_
  refine r_sld hb2 dL_law_460 (by omega) ?_
  refine r_aload_n 3 dL_law_461 rfl rfl ?_
  refine r_iload_n 0 dL_law_462 rfl rfl ?_
  refine r_iconst dL_law_463 (by decide) ?_
  refine r_iadd dL_law_464 (by omega) ?_
  refine r_sld hb2 dL_law_465 (by omega) ?_
  refine r_callV [vI (sx xs (x + 1)), vI (sx xs (x + 2))] [] dL_law_466 okX7_request ivX7_request seX7_request lm_L_46 rfl rfl sh_0 rfl ⟨Nat.le_of_ble_eq_true rfl, Nat.le_of_ble_eq_true rfl, Nat.le_of_ble_eq_true rfl, Nat.le_of_ble_eq_true rfl⟩ (c_req hV hC (Q := fun r s => r = (f_req S (sx xs (x + 1)) (sx xs (x + 2))) ∧ InvC s S ∧ frC σ s) (fun s h f => ⟨rfl, h, f⟩)) ?_
  rintro _ s1 ⟨r1, rfl, rfl, hC1, f1⟩
  have hM1 := InvM_c hM f1
  refine r_aload_n 1 dL_law_469 rfl rfl ?_
  refine r_aload_n 3 dL_law_470 rfl rfl ?_
  refine r_iload_n 0 dL_law_471 rfl rfl ?_
  refine r_iconst dL_law_472 (by decide) ?_
  refine r_iadd dL_law_473 (by omega) ?_
  refine r_sld hb2 dL_law_474 (by omega) ?_
  refine r_aload_n 3 dL_law_475 rfl rfl ?_
  refine r_iload_n 0 dL_law_476 rfl rfl ?_
  refine r_iconst dL_law_477 (by decide) ?_
  refine r_iadd dL_law_478 (by omega) ?_
  refine r_sld hb2 dL_law_479 (by omega) ?_
  refine r_callV [vI (sx xs (x + 1)), vI (sx xs (x + 2))] [vI ((f_req S (sx xs (x + 1)) (sx xs (x + 2))))] dL_law_480 okX8_request ivX8_request seX8_request lm_L_49 rfl rfl sh_56 rfl ⟨Nat.le_of_ble_eq_true rfl, Nat.le_of_ble_eq_true rfl, Nat.le_of_ble_eq_true rfl, Nat.le_of_ble_eq_true rfl⟩ (m_req hV hM1 (Q := fun r s => r = (f_req S (sx xs (x + 1)) (sx xs (x + 2))) ∧ InvM s S ∧ frM s1 s) (fun s h f => ⟨rfl, h, f⟩)) ?_
  rintro _ s2 ⟨r2, rfl, rfl, hM2, f2⟩
  have hC2 := InvC_m hC1 f2
  exact r_icmp_eq (tgt := 952) dL_law_483 (by decide) (fun _ => head _ _ hV hC2 hM2) (fun q => absurd rfl q)
theorem lw_c8 (hb2 : G.2.2.1 228 = b) {x : Int} (hx : 0 ≤ x ∧ x + 7 ≤ (L : Int) ∧ (L : Int) ≤ 3584) (head : ∀ (S : ST) (σ : Sto), Val S → InvC σ S → InvM σ S → MWF l G mL (FL b L xs) 952 (lwS x) [] σ) {S : ST} (hV : Val S) {σ : Sto} (hC : InvC σ S) (hM : InvM σ S) : MWF l G mL (FL b L xs) 488 (lwS x) [] σ := by
  refine r_aload_n 2 dL_law_488 rfl rfl ?_
  refine r_aload_n 3 dL_law_489 rfl rfl ?_
  refine r_iload_n 0 dL_law_490 rfl rfl ?_
  refine r_iconst dL_law_491 (by decide) ?_
  refine r_iadd dL_law_492 (by omega) ?_
  refine r_sld hb2 dL_law_493 (by omega) ?_
  refine r_aload_n 3 dL_law_494 rfl rfl ?_
  refine r_iload_n 0 dL_law_495 rfl rfl ?_
  refine r_iconst dL_law_496 (by decide) ?_
  refine r_iadd dL_law_497 (by omega) ?_
  refine r_sld hb2 dL_law_498 (by omega) ?_
  refine r_callV [vI (sx xs (x + 1)), vI (sx xs (x + 2))] [] dL_law_499 okX7_vehicle ivX7_vehicle seX7_vehicle lm_L_50 rfl rfl sh_0 rfl ⟨Nat.le_of_ble_eq_true rfl, Nat.le_of_ble_eq_true rfl, Nat.le_of_ble_eq_true rfl, Nat.le_of_ble_eq_true rfl⟩ (c_veh hV hC (Q := fun r s => r = (f_veh S (sx xs (x + 1)) (sx xs (x + 2))) ∧ InvC s S ∧ frC σ s) (fun s h f => ⟨rfl, h, f⟩)) ?_
  rintro _ s1 ⟨r1, rfl, rfl, hC1, f1⟩
  have hM1 := InvM_c hM f1
  refine r_aload_n 1 dL_law_502 rfl rfl ?_
  refine r_aload_n 3 dL_law_503 rfl rfl ?_
  refine r_iload_n 0 dL_law_504 rfl rfl ?_
  refine r_iconst dL_law_505 (by decide) ?_
  refine r_iadd dL_law_506 (by omega) ?_
  refine r_sld hb2 dL_law_507 (by omega) ?_
  refine r_aload_n 3 dL_law_508 rfl rfl ?_
  refine r_iload_n 0 dL_law_509 rfl rfl ?_
  refine r_iconst dL_law_510 (by decide) ?_
  refine r_iadd dL_law_511 (by omega) ?_
  refine r_sld hb2 dL_law_512 (by omega) ?_
  refine r_callV [vI (sx xs (x + 1)), vI (sx xs (x + 2))] [vI ((f_veh S (sx xs (x + 1)) (sx xs (x + 2))))] dL_law_513 okX8_vehicle ivX8_vehicle seX8_vehicle lm_L_53 rfl rfl sh_56 rfl ⟨Nat.le_of_ble_eq_true rfl, Nat.le_of_ble_eq_true rfl, Nat.le_of_ble_eq_true rfl, Nat.le_of_ble_eq_true rfl⟩ (m_veh hV hM1 (Q := fun r s => r = (f_veh S (sx xs (x + 1)) (sx xs (x + 2))) ∧ InvM s S ∧ frM s1 s) (fun s h f => ⟨rfl, h, f⟩)) ?_
  rintro _ s2 ⟨r2, rfl, rfl, hM2, f2⟩
  have hC2 := InvC_m hC1 f2
  exact r_icmp_eq (tgt := 952) dL_law_516 (by decide) (fun _ => head _ _ hV hC2 hM2) (fun q => absurd rfl q)
theorem lw_c9 (hb2 : G.2.2.1 228 = b) {x : Int} (hx : 0 ≤ x ∧ x + 7 ≤ (L : Int) ∧ (L : Int) ≤ 3584) (head : ∀ (S : ST) (σ : Sto), Val S → InvC σ S → InvM σ S → MWF l G mL (FL b L xs) 952 (lwS x) [] σ) {S : ST} (hV : Val S) {σ : Sto} (hC : InvC σ S) (hM : InvM σ S) : MWF l G mL (FL b L xs) 521 (lwS x) [] σ := by
  refine r_aload_n 2 dL_law_521 rfl rfl ?_
  refine r_aload_n 3 dL_law_522 rfl rfl ?_
  refine r_iload_n 0 dL_law_523 rfl rfl ?_
  refine r_iconst dL_law_524 (by decide) ?_
  refine r_iadd dL_law_525 (by omega) ?_
  refine r_sld hb2 dL_law_526 (by omega) ?_
  refine r_aload_n 3 dL_law_527 rfl rfl ?_
  refine r_iload_n 0 dL_law_528 rfl rfl ?_
  refine r_iconst dL_law_529 (by decide) ?_
  refine r_iadd dL_law_530 (by omega) ?_
  refine r_sld hb2 dL_law_531 (by omega) ?_
  refine r_aload_n 3 dL_law_532 rfl rfl ?_
  refine r_iload_n 0 dL_law_533 rfl rfl ?_
  refine r_iconst dL_law_534 (by decide) ?_
  refine r_iadd dL_law_535 (by omega) ?_
  refine r_sld hb2 dL_law_536 (by omega) ?_
  refine r_callV [vI (sx xs (x + 1)), vI (sx xs (x + 2)), vI (sx xs (x + 3))] [] dL_law_537 okX7_stop ivX7_stop seX7_stop lm_L_54 rfl rfl sh_0 rfl ⟨Nat.le_of_ble_eq_true rfl, Nat.le_of_ble_eq_true rfl, Nat.le_of_ble_eq_true rfl, Nat.le_of_ble_eq_true rfl⟩ (c_stop hV hC (Q := fun r s => r = (f_stop S (sx xs (x + 1)) (sx xs (x + 2)) (sx xs (x + 3))) ∧ InvC s S ∧ frC σ s) (fun s h f => ⟨rfl, h, f⟩)) ?_
  rintro _ s1 ⟨r1, rfl, rfl, hC1, f1⟩
  have hM1 := InvM_c hM f1
  refine r_aload_n 1 dL_law_540 rfl rfl ?_
  refine r_aload_n 3 dL_law_541 rfl rfl ?_
  refine r_iload_n 0 dL_law_542 rfl rfl ?_
  refine r_iconst dL_law_543 (by decide) ?_
  refine r_iadd dL_law_544 (by omega) ?_
  refine r_sld hb2 dL_law_545 (by omega) ?_
  refine r_aload_n 3 dL_law_546 rfl rfl ?_
  refine r_iload_n 0 dL_law_547 rfl rfl ?_
  refine r_iconst dL_law_548 (by decide) ?_
  refine r_iadd dL_law_549 (by omega) ?_
  refine r_sld hb2 dL_law_550 (by omega) ?_
  refine r_aload_n 3 dL_law_551 rfl rfl ?_
  refine r_iload_n 0 dL_law_552 rfl rfl ?_
  refine r_iconst dL_law_553 (by decide) ?_
  refine r_iadd dL_law_554 (by omega) ?_
  refine r_sld hb2 dL_law_555 (by omega) ?_
  refine r_callV [vI (sx xs (x + 1)), vI (sx xs (x + 2)), vI (sx xs (x + 3))] [vI ((f_stop S (sx xs (x + 1)) (sx xs (x + 2)) (sx xs (x + 3))))] dL_law_556 okX8_stop ivX8_stop seX8_stop lm_L_58 rfl rfl sh_56 rfl ⟨Nat.le_of_ble_eq_true rfl, Nat.le_of_ble_eq_true rfl, Nat.le_of_ble_eq_true rfl, Nat.le_of_ble_eq_true rfl⟩ (m_stop hV hM1 (Q := fun r s => r = (f_stop S (sx xs (x + 1)) (sx xs (x + 2)) (sx xs (x + 3))) ∧ InvM s S ∧ frM s1 s) (fun s h f => ⟨rfl, h, f⟩)) ?_
  rintro _ s2 ⟨r2, rfl, rfl, hM2, f2⟩
  have hC2 := InvC_m hC1 f2
  exact r_icmp_eq (tgt := 952) dL_law_559 (by decide) (fun _ => head _ _ hV hC2 hM2) (fun q => absurd rfl q)
theorem lw_c10 (hb2 : G.2.2.1 228 = b) {x : Int} (hx : 0 ≤ x ∧ x + 7 ≤ (L : Int) ∧ (L : Int) ≤ 3584) (head : ∀ (S : ST) (σ : Sto), Val S → InvC σ S → InvM σ S → MWF l G mL (FL b L xs) 952 (lwS x) [] σ) {S : ST} (hV : Val S) {σ : Sto} (hC : InvC σ S) (hM : InvM σ S) : MWF l G mL (FL b L xs) 564 (lwS x) [] σ := by
  refine r_aload_n 2 dL_law_564 rfl rfl ?_
  refine r_aload_n 3 dL_law_565 rfl rfl ?_
  refine r_iload_n 0 dL_law_566 rfl rfl ?_
  refine r_iconst dL_law_567 (by decide) ?_
  refine r_iadd dL_law_568 (by omega) ?_
  refine r_sld hb2 dL_law_569 (by omega) ?_
  refine r_aload_n 3 dL_law_570 rfl rfl ?_
  refine r_iload_n 0 dL_law_571 rfl rfl ?_
  refine r_iconst dL_law_572 (by decide) ?_
  refine r_iadd dL_law_573 (by omega) ?_
  refine r_sld hb2 dL_law_574 (by omega) ?_
  have t1 : ∀ y : Int, y = bz (sx xs (x + 2)) → MWF l G mL (FL b L xs) 583 (lwS x) [vI y, vI (sx xs (x + 1)), vR 0] σ := by
    intro y hy
    subst hy
    refine r_callV [vI (sx xs (x + 1)), vI (bz (sx xs (x + 2)))] [] dL_law_583 okX7_rideTime ivX7_rideTime seX7_rideTime lm_L_59 rfl rfl sh_0 rfl ⟨Nat.le_of_ble_eq_true rfl, Nat.le_of_ble_eq_true rfl, Nat.le_of_ble_eq_true rfl, Nat.le_of_ble_eq_true rfl⟩ (c_ride hV hC (Q := fun r s => r = (f_ride S (sx xs (x + 1)) (bz (sx xs (x + 2)))) ∧ InvC s S ∧ frC σ s) (fun s h f => ⟨rfl, h, f⟩)) ?_
    rintro _ s1 ⟨r1, rfl, rfl, hC1, f1⟩
    have hM1 := InvM_c hM f1
    refine r_aload_n 1 dL_law_586 rfl rfl ?_
    refine r_aload_n 3 dL_law_587 rfl rfl ?_
    refine r_iload_n 0 dL_law_588 rfl rfl ?_
    refine r_iconst dL_law_589 (by decide) ?_
    refine r_iadd dL_law_590 (by omega) ?_
    refine r_sld hb2 dL_law_591 (by omega) ?_
    refine r_aload_n 3 dL_law_592 rfl rfl ?_
    refine r_iload_n 0 dL_law_593 rfl rfl ?_
    refine r_iconst dL_law_594 (by decide) ?_
    refine r_iadd dL_law_595 (by omega) ?_
    refine r_sld hb2 dL_law_596 (by omega) ?_
    have t2 : ∀ y : Int, y = bz (sx xs (x + 2)) → MWF l G mL (FL b L xs) 605 (lwS x) [vI y, vI (sx xs (x + 1)), vR 56, vI ((f_ride S (sx xs (x + 1)) (bz (sx xs (x + 2)))))] s1 := by
      intro y hy
      subst hy
      refine r_callV [vI (sx xs (x + 1)), vI (bz (sx xs (x + 2)))] [vI ((f_ride S (sx xs (x + 1)) (bz (sx xs (x + 2)))))] dL_law_605 okX8_rideTime ivX8_rideTime seX8_rideTime lm_L_63 rfl rfl sh_56 rfl ⟨Nat.le_of_ble_eq_true rfl, Nat.le_of_ble_eq_true rfl, Nat.le_of_ble_eq_true rfl, Nat.le_of_ble_eq_true rfl⟩ (m_ride hV hM1 (Q := fun r s => r = (f_ride S (sx xs (x + 1)) (bz (sx xs (x + 2)))) ∧ InvM s S ∧ frM s1 s) (fun s h f => ⟨rfl, h, f⟩)) ?_
      rintro _ s2 ⟨r2, rfl, rfl, hM2, f2⟩
      have hC2 := InvC_m hC1 f2
      exact r_icmp_eq (tgt := 952) dL_law_608 (by decide) (fun _ => head _ _ hV hC2 hM2) (fun q => absurd rfl q)
    refine r_if_eq (tgt := 604) dL_law_597 (by decide) (fun c => ?_) (fun c => ?_)
    · refine r_iconst dL_law_604 (by decide) ?_
      exact t2 0 (by unfold bz; rw [if_pos c])
    · refine r_iconst dL_law_600 (by decide) ?_
      refine r_goto (tgt := 605) dL_law_601 (by decide) ?_
      exact t2 1 (by unfold bz; rw [if_neg c])
  refine r_if_eq (tgt := 582) dL_law_575 (by decide) (fun c => ?_) (fun c => ?_)
  · refine r_iconst dL_law_582 (by decide) ?_
    exact t1 0 (by unfold bz; rw [if_pos c])
  · refine r_iconst dL_law_578 (by decide) ?_
    refine r_goto (tgt := 583) dL_law_579 (by decide) ?_
    exact t1 1 (by unfold bz; rw [if_neg c])
theorem lw_c11 (hb2 : G.2.2.1 228 = b) {x : Int} (hx : 0 ≤ x ∧ x + 7 ≤ (L : Int) ∧ (L : Int) ≤ 3584) (head : ∀ (S : ST) (σ : Sto), Val S → InvC σ S → InvM σ S → MWF l G mL (FL b L xs) 952 (lwS x) [] σ) {S : ST} (hV : Val S) {σ : Sto} (hC : InvC σ S) (hM : InvM σ S) : MWF l G mL (FL b L xs) 613 (lwS x) [] σ := by
  refine r_aload_n 2 dL_law_613 rfl rfl ?_
  refine r_aload_n 3 dL_law_614 rfl rfl ?_
  refine r_iload_n 0 dL_law_615 rfl rfl ?_
  refine r_iconst dL_law_616 (by decide) ?_
  refine r_iadd dL_law_617 (by omega) ?_
  refine r_sld hb2 dL_law_618 (by omega) ?_
  refine r_aload_n 3 dL_law_619 rfl rfl ?_
  refine r_iload_n 0 dL_law_620 rfl rfl ?_
  refine r_iconst dL_law_621 (by decide) ?_
  refine r_iadd dL_law_622 (by omega) ?_
  refine r_sld hb2 dL_law_623 (by omega) ?_
  have t1 : ∀ y : Int, y = bz (sx xs (x + 2)) → MWF l G mL (FL b L xs) 632 (lwS x) [vI y, vI (sx xs (x + 1)), vR 0] σ := by
    intro y hy
    subst hy
    refine r_callV [vI (sx xs (x + 1)), vI (bz (sx xs (x + 2)))] [] dL_law_632 okX7_depotTime ivX7_depotTime seX7_depotTime lm_L_64 rfl rfl sh_0 rfl ⟨Nat.le_of_ble_eq_true rfl, Nat.le_of_ble_eq_true rfl, Nat.le_of_ble_eq_true rfl, Nat.le_of_ble_eq_true rfl⟩ (c_depot hV hC (Q := fun r s => r = (f_depot S (sx xs (x + 1)) (bz (sx xs (x + 2)))) ∧ InvC s S ∧ frC σ s) (fun s h f => ⟨rfl, h, f⟩)) ?_
    rintro _ s1 ⟨r1, rfl, rfl, hC1, f1⟩
    have hM1 := InvM_c hM f1
    refine r_aload_n 1 dL_law_635 rfl rfl ?_
    refine r_aload_n 3 dL_law_636 rfl rfl ?_
    refine r_iload_n 0 dL_law_637 rfl rfl ?_
    refine r_iconst dL_law_638 (by decide) ?_
    refine r_iadd dL_law_639 (by omega) ?_
    refine r_sld hb2 dL_law_640 (by omega) ?_
    refine r_aload_n 3 dL_law_641 rfl rfl ?_
    refine r_iload_n 0 dL_law_642 rfl rfl ?_
    refine r_iconst dL_law_643 (by decide) ?_
    refine r_iadd dL_law_644 (by omega) ?_
    refine r_sld hb2 dL_law_645 (by omega) ?_
    have t2 : ∀ y : Int, y = bz (sx xs (x + 2)) → MWF l G mL (FL b L xs) 654 (lwS x) [vI y, vI (sx xs (x + 1)), vR 56, vI ((f_depot S (sx xs (x + 1)) (bz (sx xs (x + 2)))))] s1 := by
      intro y hy
      subst hy
      refine r_callV [vI (sx xs (x + 1)), vI (bz (sx xs (x + 2)))] [vI ((f_depot S (sx xs (x + 1)) (bz (sx xs (x + 2)))))] dL_law_654 okX8_depotTime ivX8_depotTime seX8_depotTime lm_L_67 rfl rfl sh_56 rfl ⟨Nat.le_of_ble_eq_true rfl, Nat.le_of_ble_eq_true rfl, Nat.le_of_ble_eq_true rfl, Nat.le_of_ble_eq_true rfl⟩ (m_depot hV hM1 (Q := fun r s => r = (f_depot S (sx xs (x + 1)) (bz (sx xs (x + 2)))) ∧ InvM s S ∧ frM s1 s) (fun s h f => ⟨rfl, h, f⟩)) ?_
      rintro _ s2 ⟨r2, rfl, rfl, hM2, f2⟩
      have hC2 := InvC_m hC1 f2
      exact r_icmp_eq (tgt := 952) dL_law_657 (by decide) (fun _ => head _ _ hV hC2 hM2) (fun q => absurd rfl q)
    refine r_if_eq (tgt := 653) dL_law_646 (by decide) (fun c => ?_) (fun c => ?_)
    · refine r_iconst dL_law_653 (by decide) ?_
      exact t2 0 (by unfold bz; rw [if_pos c])
    · refine r_iconst dL_law_649 (by decide) ?_
      refine r_goto (tgt := 654) dL_law_650 (by decide) ?_
      exact t2 1 (by unfold bz; rw [if_neg c])
  refine r_if_eq (tgt := 631) dL_law_624 (by decide) (fun c => ?_) (fun c => ?_)
  · refine r_iconst dL_law_631 (by decide) ?_
    exact t1 0 (by unfold bz; rw [if_pos c])
  · refine r_iconst dL_law_627 (by decide) ?_
    refine r_goto (tgt := 632) dL_law_628 (by decide) ?_
    exact t1 1 (by unfold bz; rw [if_neg c])
theorem lw_c12 (hb2 : G.2.2.1 228 = b) {x : Int} (hx : 0 ≤ x ∧ x + 7 ≤ (L : Int) ∧ (L : Int) ≤ 3584) (head : ∀ (S : ST) (σ : Sto), Val S → InvC σ S → InvM σ S → MWF l G mL (FL b L xs) 952 (lwS x) [] σ) {S : ST} (hV : Val S) {σ : Sto} (hC : InvC σ S) (hM : InvM σ S) : MWF l G mL (FL b L xs) 662 (lwS x) [] σ := by
  refine r_aload_n 2 dL_law_662 rfl rfl ?_
  refine r_aload_n 3 dL_law_663 rfl rfl ?_
  refine r_iload_n 0 dL_law_664 rfl rfl ?_
  refine r_iconst dL_law_665 (by decide) ?_
  refine r_iadd dL_law_666 (by omega) ?_
  refine r_sld hb2 dL_law_667 (by omega) ?_
  refine r_aload_n 3 dL_law_668 rfl rfl ?_
  refine r_iload_n 0 dL_law_669 rfl rfl ?_
  refine r_iconst dL_law_670 (by decide) ?_
  refine r_iadd dL_law_671 (by omega) ?_
  refine r_sld hb2 dL_law_672 (by omega) ?_
  refine r_aload_n 3 dL_law_673 rfl rfl ?_
  refine r_iload_n 0 dL_law_674 rfl rfl ?_
  refine r_iconst dL_law_675 (by decide) ?_
  refine r_iadd dL_law_676 (by omega) ?_
  refine r_sld hb2 dL_law_677 (by omega) ?_
  refine r_aload_n 3 dL_law_678 rfl rfl ?_
  refine r_iload_n 0 dL_law_679 rfl rfl ?_
  refine r_iconst dL_law_680 (by decide) ?_
  refine r_iadd dL_law_681 (by omega) ?_
  refine r_sld hb2 dL_law_682 (by omega) ?_
  refine r_callV [vI (sx xs (x + 1)), vI (sx xs (x + 2)), vI (sx xs (x + 3)), vI (sx xs (x + 4))] [] dL_law_683 okX7_cost ivX7_cost seX7_cost lm_L_68 rfl rfl sh_0 rfl ⟨Nat.le_of_ble_eq_true rfl, Nat.le_of_ble_eq_true rfl, Nat.le_of_ble_eq_true rfl, Nat.le_of_ble_eq_true rfl⟩ (c_cost hV hC (Q := fun r s => r = (f_cost S (sx xs (x + 1)) (sx xs (x + 2)) (sx xs (x + 3)) (sx xs (x + 4))) ∧ InvC s S ∧ frC σ s) (fun s h f => ⟨rfl, h, f⟩)) ?_
  rintro _ s1 ⟨r1, rfl, rfl, hC1, f1⟩
  have hM1 := InvM_c hM f1
  refine r_aload_n 1 dL_law_686 rfl rfl ?_
  refine r_aload_n 3 dL_law_687 rfl rfl ?_
  refine r_iload_n 0 dL_law_688 rfl rfl ?_
  refine r_iconst dL_law_689 (by decide) ?_
  refine r_iadd dL_law_690 (by omega) ?_
  refine r_sld hb2 dL_law_691 (by omega) ?_
  refine r_aload_n 3 dL_law_692 rfl rfl ?_
  refine r_iload_n 0 dL_law_693 rfl rfl ?_
  refine r_iconst dL_law_694 (by decide) ?_
  refine r_iadd dL_law_695 (by omega) ?_
  refine r_sld hb2 dL_law_696 (by omega) ?_
  refine r_aload_n 3 dL_law_697 rfl rfl ?_
  refine r_iload_n 0 dL_law_698 rfl rfl ?_
  refine r_iconst dL_law_699 (by decide) ?_
  refine r_iadd dL_law_700 (by omega) ?_
  refine r_sld hb2 dL_law_701 (by omega) ?_
  refine r_aload_n 3 dL_law_702 rfl rfl ?_
  refine r_iload_n 0 dL_law_703 rfl rfl ?_
  refine r_iconst dL_law_704 (by decide) ?_
  refine r_iadd dL_law_705 (by omega) ?_
  refine r_sld hb2 dL_law_706 (by omega) ?_
  refine r_callV [vI (sx xs (x + 1)), vI (sx xs (x + 2)), vI (sx xs (x + 3)), vI (sx xs (x + 4))] [vI ((f_cost S (sx xs (x + 1)) (sx xs (x + 2)) (sx xs (x + 3)) (sx xs (x + 4))))] dL_law_707 okX8_cost ivX8_cost seX8_cost lm_L_72 rfl rfl sh_56 rfl ⟨Nat.le_of_ble_eq_true rfl, Nat.le_of_ble_eq_true rfl, Nat.le_of_ble_eq_true rfl, Nat.le_of_ble_eq_true rfl⟩ (m_cost hV hM1 (Q := fun r s => r = (f_cost S (sx xs (x + 1)) (sx xs (x + 2)) (sx xs (x + 3)) (sx xs (x + 4))) ∧ InvM s S ∧ frM s1 s) (fun s h f => ⟨rfl, h, f⟩)) ?_
  rintro _ s2 ⟨r2, rfl, rfl, hM2, f2⟩
  have hC2 := InvC_m hC1 f2
  exact r_icmp_eq (tgt := 952) dL_law_710 (by decide) (fun _ => head _ _ hV hC2 hM2) (fun q => absurd rfl q)
theorem lw_c13 (hb2 : G.2.2.1 228 = b) {x : Int} (hx : 0 ≤ x ∧ x + 7 ≤ (L : Int) ∧ (L : Int) ≤ 3584) (head : ∀ (S : ST) (σ : Sto), Val S → InvC σ S → InvM σ S → MWF l G mL (FL b L xs) 952 (lwS x) [] σ) {S : ST} (hV : Val S) {σ : Sto} (hC : InvC σ S) (hM : InvM σ S) : MWF l G mL (FL b L xs) 715 (lwS x) [] σ := by
  refine r_aload_n 2 dL_law_715 rfl rfl ?_
  refine r_aload_n 3 dL_law_716 rfl rfl ?_
  refine r_iload_n 0 dL_law_717 rfl rfl ?_
  refine r_iconst dL_law_718 (by decide) ?_
  refine r_iadd dL_law_719 (by omega) ?_
  refine r_sld hb2 dL_law_720 (by omega) ?_
  refine r_aload_n 3 dL_law_721 rfl rfl ?_
  refine r_iload_n 0 dL_law_722 rfl rfl ?_
  refine r_iconst dL_law_723 (by decide) ?_
  refine r_iadd dL_law_724 (by omega) ?_
  refine r_sld hb2 dL_law_725 (by omega) ?_
  refine r_aload_n 3 dL_law_726 rfl rfl ?_
  refine r_iload_n 0 dL_law_727 rfl rfl ?_
  refine r_iconst dL_law_728 (by decide) ?_
  refine r_iadd dL_law_729 (by omega) ?_
  refine r_sld hb2 dL_law_730 (by omega) ?_
  refine r_aload_n 3 dL_law_731 rfl rfl ?_
  refine r_iload_n 0 dL_law_732 rfl rfl ?_
  refine r_iconst dL_law_733 (by decide) ?_
  refine r_iadd dL_law_734 (by omega) ?_
  refine r_sld hb2 dL_law_735 (by omega) ?_
  refine r_callV [vI (sx xs (x + 1)), vI (sx xs (x + 2)), vI (sx xs (x + 3)), vI (sx xs (x + 4))] [] dL_law_736 okX7_insert ivX7_insert seX7_insert lm_L_73 rfl rfl sh_0 rfl ⟨Nat.le_of_ble_eq_true rfl, Nat.le_of_ble_eq_true rfl, Nat.le_of_ble_eq_true rfl, Nat.le_of_ble_eq_true rfl⟩ (c_ins hV hC (Q := fun r s => r = (f_ins S (sx xs (x + 1)) (sx xs (x + 2)) (sx xs (x + 3)) (sx xs (x + 4))).1 ∧ InvC s (f_ins S (sx xs (x + 1)) (sx xs (x + 2)) (sx xs (x + 3)) (sx xs (x + 4))).2 ∧ frC σ s) (fun s h f => ⟨rfl, h, f⟩)) ?_
  rintro _ s1 ⟨r1, rfl, rfl, hC1, f1⟩
  have hM1 := InvM_c hM f1
  refine r_aload_n 1 dL_law_739 rfl rfl ?_
  refine r_aload_n 3 dL_law_740 rfl rfl ?_
  refine r_iload_n 0 dL_law_741 rfl rfl ?_
  refine r_iconst dL_law_742 (by decide) ?_
  refine r_iadd dL_law_743 (by omega) ?_
  refine r_sld hb2 dL_law_744 (by omega) ?_
  refine r_aload_n 3 dL_law_745 rfl rfl ?_
  refine r_iload_n 0 dL_law_746 rfl rfl ?_
  refine r_iconst dL_law_747 (by decide) ?_
  refine r_iadd dL_law_748 (by omega) ?_
  refine r_sld hb2 dL_law_749 (by omega) ?_
  refine r_aload_n 3 dL_law_750 rfl rfl ?_
  refine r_iload_n 0 dL_law_751 rfl rfl ?_
  refine r_iconst dL_law_752 (by decide) ?_
  refine r_iadd dL_law_753 (by omega) ?_
  refine r_sld hb2 dL_law_754 (by omega) ?_
  refine r_aload_n 3 dL_law_755 rfl rfl ?_
  refine r_iload_n 0 dL_law_756 rfl rfl ?_
  refine r_iconst dL_law_757 (by decide) ?_
  refine r_iadd dL_law_758 (by omega) ?_
  refine r_sld hb2 dL_law_759 (by omega) ?_
  refine r_callV [vI (sx xs (x + 1)), vI (sx xs (x + 2)), vI (sx xs (x + 3)), vI (sx xs (x + 4))] [vI ((f_ins S (sx xs (x + 1)) (sx xs (x + 2)) (sx xs (x + 3)) (sx xs (x + 4))).1)] dL_law_760 okX8_insert ivX8_insert seX8_insert lm_L_76 rfl rfl sh_56 rfl ⟨Nat.le_of_ble_eq_true rfl, Nat.le_of_ble_eq_true rfl, Nat.le_of_ble_eq_true rfl, Nat.le_of_ble_eq_true rfl⟩ (m_ins hV hM1 (Q := fun r s => r = (f_ins S (sx xs (x + 1)) (sx xs (x + 2)) (sx xs (x + 3)) (sx xs (x + 4))).1 ∧ InvM s (f_ins S (sx xs (x + 1)) (sx xs (x + 2)) (sx xs (x + 3)) (sx xs (x + 4))).2 ∧ frM s1 s) (fun s h f => ⟨rfl, h, f⟩)) ?_
  rintro _ s2 ⟨r2, rfl, rfl, hM2, f2⟩
  have hC2 := InvC_m hC1 f2
  exact r_icmp_eq (tgt := 952) dL_law_763 (by decide) (fun _ => head _ _ (V_ins hV _ _ _ _) hC2 hM2) (fun q => absurd rfl q)
theorem lw_c14 (hb2 : G.2.2.1 228 = b) {x : Int} (hx : 0 ≤ x ∧ x + 7 ≤ (L : Int) ∧ (L : Int) ≤ 3584) (head : ∀ (S : ST) (σ : Sto), Val S → InvC σ S → InvM σ S → MWF l G mL (FL b L xs) 952 (lwS x) [] σ) {S : ST} (hV : Val S) {σ : Sto} (hC : InvC σ S) (hM : InvM σ S) : MWF l G mL (FL b L xs) 768 (lwS x) [] σ := by
  refine r_aload_n 2 dL_law_768 rfl rfl ?_
  refine r_aload_n 3 dL_law_769 rfl rfl ?_
  refine r_iload_n 0 dL_law_770 rfl rfl ?_
  refine r_iconst dL_law_771 (by decide) ?_
  refine r_iadd dL_law_772 (by omega) ?_
  refine r_sld hb2 dL_law_773 (by omega) ?_
  refine r_aload_n 3 dL_law_774 rfl rfl ?_
  refine r_iload_n 0 dL_law_775 rfl rfl ?_
  refine r_iconst dL_law_776 (by decide) ?_
  refine r_iadd dL_law_777 (by omega) ?_
  refine r_sld hb2 dL_law_778 (by omega) ?_
  refine r_callV [vI (sx xs (x + 1)), vI (sx xs (x + 2))] [] dL_law_779 okX7_best ivX7_best seX7_best lm_L_77 rfl rfl sh_0 rfl ⟨Nat.le_of_ble_eq_true rfl, Nat.le_of_ble_eq_true rfl, Nat.le_of_ble_eq_true rfl, Nat.le_of_ble_eq_true rfl⟩ (c_best hV hC (Q := fun r s => r = (f_best S (sx xs (x + 1)) (sx xs (x + 2))) ∧ InvC s S ∧ frC σ s) (fun s h f => ⟨rfl, h, f⟩)) ?_
  rintro _ s1 ⟨r1, rfl, rfl, hC1, f1⟩
  have hM1 := InvM_c hM f1
  refine r_aload_n 1 dL_law_782 rfl rfl ?_
  refine r_aload_n 3 dL_law_783 rfl rfl ?_
  refine r_iload_n 0 dL_law_784 rfl rfl ?_
  refine r_iconst dL_law_785 (by decide) ?_
  refine r_iadd dL_law_786 (by omega) ?_
  refine r_sld hb2 dL_law_787 (by omega) ?_
  refine r_aload_n 3 dL_law_788 rfl rfl ?_
  refine r_iload_n 0 dL_law_789 rfl rfl ?_
  refine r_iconst dL_law_790 (by decide) ?_
  refine r_iadd dL_law_791 (by omega) ?_
  refine r_sld hb2 dL_law_792 (by omega) ?_
  refine r_callV [vI (sx xs (x + 1)), vI (sx xs (x + 2))] [vI ((f_best S (sx xs (x + 1)) (sx xs (x + 2))))] dL_law_793 okX8_best ivX8_best seX8_best lm_L_80 rfl rfl sh_56 rfl ⟨Nat.le_of_ble_eq_true rfl, Nat.le_of_ble_eq_true rfl, Nat.le_of_ble_eq_true rfl, Nat.le_of_ble_eq_true rfl⟩ (m_best hV hM1 (Q := fun r s => r = (f_best S (sx xs (x + 1)) (sx xs (x + 2))) ∧ InvM s S ∧ frM s1 s) (fun s h f => ⟨rfl, h, f⟩)) ?_
  rintro _ s2 ⟨r2, rfl, rfl, hM2, f2⟩
  have hC2 := InvC_m hC1 f2
  exact r_icmp_eq (tgt := 952) dL_law_796 (by decide) (fun _ => head _ _ hV hC2 hM2) (fun q => absurd rfl q)
theorem lw_c15 (hb2 : G.2.2.1 228 = b) {x : Int} (hx : 0 ≤ x ∧ x + 7 ≤ (L : Int) ∧ (L : Int) ≤ 3584) (head : ∀ (S : ST) (σ : Sto), Val S → InvC σ S → InvM σ S → MWF l G mL (FL b L xs) 952 (lwS x) [] σ) {S : ST} (hV : Val S) {σ : Sto} (hC : InvC σ S) (hM : InvM σ S) : MWF l G mL (FL b L xs) 801 (lwS x) [] σ := by
  refine r_aload_n 2 dL_law_801 rfl rfl ?_
  refine r_aload_n 3 dL_law_802 rfl rfl ?_
  refine r_iload_n 0 dL_law_803 rfl rfl ?_
  refine r_iconst dL_law_804 (by decide) ?_
  refine r_iadd dL_law_805 (by omega) ?_
  refine r_sld hb2 dL_law_806 (by omega) ?_
  refine r_aload_n 3 dL_law_807 rfl rfl ?_
  refine r_iload_n 0 dL_law_808 rfl rfl ?_
  refine r_iconst dL_law_809 (by decide) ?_
  refine r_iadd dL_law_810 (by omega) ?_
  refine r_sld hb2 dL_law_811 (by omega) ?_
  refine r_callV [vI (sx xs (x + 1)), vI (sx xs (x + 2))] [] dL_law_812 okX7_assignTo ivX7_assignTo seX7_assignTo lm_L_81 rfl rfl sh_0 rfl ⟨Nat.le_of_ble_eq_true rfl, Nat.le_of_ble_eq_true rfl, Nat.le_of_ble_eq_true rfl, Nat.le_of_ble_eq_true rfl⟩ (c_asT hV hC (Q := fun r s => r = (f_asT S (sx xs (x + 1)) (sx xs (x + 2))).1 ∧ InvC s (f_asT S (sx xs (x + 1)) (sx xs (x + 2))).2 ∧ frC σ s) (fun s h f => ⟨rfl, h, f⟩)) ?_
  rintro _ s1 ⟨r1, rfl, rfl, hC1, f1⟩
  have hM1 := InvM_c hM f1
  refine r_aload_n 1 dL_law_815 rfl rfl ?_
  refine r_aload_n 3 dL_law_816 rfl rfl ?_
  refine r_iload_n 0 dL_law_817 rfl rfl ?_
  refine r_iconst dL_law_818 (by decide) ?_
  refine r_iadd dL_law_819 (by omega) ?_
  refine r_sld hb2 dL_law_820 (by omega) ?_
  refine r_aload_n 3 dL_law_821 rfl rfl ?_
  refine r_iload_n 0 dL_law_822 rfl rfl ?_
  refine r_iconst dL_law_823 (by decide) ?_
  refine r_iadd dL_law_824 (by omega) ?_
  refine r_sld hb2 dL_law_825 (by omega) ?_
  refine r_callV [vI (sx xs (x + 1)), vI (sx xs (x + 2))] [vI ((f_asT S (sx xs (x + 1)) (sx xs (x + 2))).1)] dL_law_826 okX8_assignTo ivX8_assignTo seX8_assignTo lm_L_84 rfl rfl sh_56 rfl ⟨Nat.le_of_ble_eq_true rfl, Nat.le_of_ble_eq_true rfl, Nat.le_of_ble_eq_true rfl, Nat.le_of_ble_eq_true rfl⟩ (m_asT hV hM1 (Q := fun r s => r = (f_asT S (sx xs (x + 1)) (sx xs (x + 2))).1 ∧ InvM s (f_asT S (sx xs (x + 1)) (sx xs (x + 2))).2 ∧ frM s1 s) (fun s h f => ⟨rfl, h, f⟩)) ?_
  rintro _ s2 ⟨r2, rfl, rfl, hM2, f2⟩
  have hC2 := InvC_m hC1 f2
  exact r_icmp_eq (tgt := 952) dL_law_829 (by decide) (fun _ => head _ _ (V_asT hV _ _) hC2 hM2) (fun q => absurd rfl q)
theorem lw_c16 (hb2 : G.2.2.1 228 = b) {x : Int} (hx : 0 ≤ x ∧ x + 7 ≤ (L : Int) ∧ (L : Int) ≤ 3584) (head : ∀ (S : ST) (σ : Sto), Val S → InvC σ S → InvM σ S → MWF l G mL (FL b L xs) 952 (lwS x) [] σ) {S : ST} (hV : Val S) {σ : Sto} (hC : InvC σ S) (hM : InvM σ S) : MWF l G mL (FL b L xs) 834 (lwS x) [] σ := by
  refine r_aload_n 2 dL_law_834 rfl rfl ?_
  refine r_aload_n 3 dL_law_835 rfl rfl ?_
  refine r_iload_n 0 dL_law_836 rfl rfl ?_
  refine r_iconst dL_law_837 (by decide) ?_
  refine r_iadd dL_law_838 (by omega) ?_
  refine r_sld hb2 dL_law_839 (by omega) ?_
  refine r_callV [vI (sx xs (x + 1))] [] dL_law_840 okX7_assign ivX7_assign seX7_assign lm_L_85 rfl rfl sh_0 rfl ⟨Nat.le_of_ble_eq_true rfl, Nat.le_of_ble_eq_true rfl, Nat.le_of_ble_eq_true rfl, Nat.le_of_ble_eq_true rfl⟩ (c_asg hV hC (Q := fun r s => r = (f_asg S (sx xs (x + 1))).1 ∧ InvC s (f_asg S (sx xs (x + 1))).2 ∧ frC σ s) (fun s h f => ⟨rfl, h, f⟩)) ?_
  rintro _ s1 ⟨r1, rfl, rfl, hC1, f1⟩
  have hM1 := InvM_c hM f1
  refine r_aload_n 1 dL_law_843 rfl rfl ?_
  refine r_aload_n 3 dL_law_844 rfl rfl ?_
  refine r_iload_n 0 dL_law_845 rfl rfl ?_
  refine r_iconst dL_law_846 (by decide) ?_
  refine r_iadd dL_law_847 (by omega) ?_
  refine r_sld hb2 dL_law_848 (by omega) ?_
  refine r_callV [vI (sx xs (x + 1))] [vI ((f_asg S (sx xs (x + 1))).1)] dL_law_849 okX8_assign ivX8_assign seX8_assign lm_L_88 rfl rfl sh_56 rfl ⟨Nat.le_of_ble_eq_true rfl, Nat.le_of_ble_eq_true rfl, Nat.le_of_ble_eq_true rfl, Nat.le_of_ble_eq_true rfl⟩ (m_asg hV hM1 (Q := fun r s => r = (f_asg S (sx xs (x + 1))).1 ∧ InvM s (f_asg S (sx xs (x + 1))).2 ∧ frM s1 s) (fun s h f => ⟨rfl, h, f⟩)) ?_
  rintro _ s2 ⟨r2, rfl, rfl, hM2, f2⟩
  have hC2 := InvC_m hC1 f2
  exact r_icmp_eq (tgt := 952) dL_law_852 (by decide) (fun _ => head _ _ (V_asg hV _) hC2 hM2) (fun q => absurd rfl q)
theorem lw_c17 (hb2 : G.2.2.1 228 = b) {x : Int} (hx : 0 ≤ x ∧ x + 7 ≤ (L : Int) ∧ (L : Int) ≤ 3584) (head : ∀ (S : ST) (σ : Sto), Val S → InvC σ S → InvM σ S → MWF l G mL (FL b L xs) 952 (lwS x) [] σ) {S : ST} (hV : Val S) {σ : Sto} (hC : InvC σ S) (hM : InvM σ S) : MWF l G mL (FL b L xs) 857 (lwS x) [] σ := by
  refine r_aload_n 2 dL_law_857 rfl rfl ?_
  refine r_aload_n 3 dL_law_858 rfl rfl ?_
  refine r_iload_n 0 dL_law_859 rfl rfl ?_
  refine r_iconst dL_law_860 (by decide) ?_
  refine r_iadd dL_law_861 (by omega) ?_
  refine r_sld hb2 dL_law_862 (by omega) ?_
  refine r_callV [vI (sx xs (x + 1))] [] dL_law_863 okX7_remove ivX7_remove seX7_remove lm_L_89 rfl rfl sh_0 rfl ⟨Nat.le_of_ble_eq_true rfl, Nat.le_of_ble_eq_true rfl, Nat.le_of_ble_eq_true rfl, Nat.le_of_ble_eq_true rfl⟩ (c_rem hV hC (Q := fun r s => r = (f_rem S (sx xs (x + 1))).1 ∧ InvC s (f_rem S (sx xs (x + 1))).2 ∧ frC σ s) (fun s h f => ⟨rfl, h, f⟩)) ?_
  rintro _ s1 ⟨r1, rfl, rfl, hC1, f1⟩
  have hM1 := InvM_c hM f1
  refine r_aload_n 1 dL_law_866 rfl rfl ?_
  refine r_aload_n 3 dL_law_867 rfl rfl ?_
  refine r_iload_n 0 dL_law_868 rfl rfl ?_
  refine r_iconst dL_law_869 (by decide) ?_
  refine r_iadd dL_law_870 (by omega) ?_
  refine r_sld hb2 dL_law_871 (by omega) ?_
  refine r_callV [vI (sx xs (x + 1))] [vI ((f_rem S (sx xs (x + 1))).1)] dL_law_872 okX8_remove ivX8_remove seX8_remove lm_L_92 rfl rfl sh_56 rfl ⟨Nat.le_of_ble_eq_true rfl, Nat.le_of_ble_eq_true rfl, Nat.le_of_ble_eq_true rfl, Nat.le_of_ble_eq_true rfl⟩ (m_rem hV hM1 (Q := fun r s => r = (f_rem S (sx xs (x + 1))).1 ∧ InvM s (f_rem S (sx xs (x + 1))).2 ∧ frM s1 s) (fun s h f => ⟨rfl, h, f⟩)) ?_
  rintro _ s2 ⟨r2, rfl, rfl, hM2, f2⟩
  have hC2 := InvC_m hC1 f2
  exact r_icmp_eq (tgt := 952) dL_law_875 (by decide) (fun _ => head _ _ (V_rem hV _) hC2 hM2) (fun q => absurd rfl q)
theorem lw_c18 (hb2 : G.2.2.1 228 = b) {x : Int} (hx : 0 ≤ x ∧ x + 7 ≤ (L : Int) ∧ (L : Int) ≤ 3584) (head : ∀ (S : ST) (σ : Sto), Val S → InvC σ S → InvM σ S → MWF l G mL (FL b L xs) 952 (lwS x) [] σ) {S : ST} (hV : Val S) {σ : Sto} (hC : InvC σ S) (hM : InvM σ S) : MWF l G mL (FL b L xs) 880 (lwS x) [] σ := by
  refine r_aload_n 2 dL_law_880 rfl rfl ?_
  refine r_aload_n 3 dL_law_881 rfl rfl ?_
  refine r_iload_n 0 dL_law_882 rfl rfl ?_
  refine r_iconst dL_law_883 (by decide) ?_
  refine r_iadd dL_law_884 (by omega) ?_
  refine r_sld hb2 dL_law_885 (by omega) ?_
  refine r_callV [vI (sx xs (x + 1))] [] dL_law_886 okX7_chainCost ivX7_chainCost seX7_chainCost lm_L_93 rfl rfl sh_0 rfl ⟨Nat.le_of_ble_eq_true rfl, Nat.le_of_ble_eq_true rfl, Nat.le_of_ble_eq_true rfl, Nat.le_of_ble_eq_true rfl⟩ (c_cc hV hC (Q := fun r s => r = (f_cc S (sx xs (x + 1))) ∧ InvC s S ∧ frC σ s) (fun s h f => ⟨rfl, h, f⟩)) ?_
  rintro _ s1 ⟨r1, rfl, rfl, hC1, f1⟩
  have hM1 := InvM_c hM f1
  refine r_aload_n 1 dL_law_889 rfl rfl ?_
  refine r_aload_n 3 dL_law_890 rfl rfl ?_
  refine r_iload_n 0 dL_law_891 rfl rfl ?_
  refine r_iconst dL_law_892 (by decide) ?_
  refine r_iadd dL_law_893 (by omega) ?_
  refine r_sld hb2 dL_law_894 (by omega) ?_
  refine r_callV [vI (sx xs (x + 1))] [vI ((f_cc S (sx xs (x + 1))))] dL_law_895 okX8_chainCost ivX8_chainCost seX8_chainCost lm_L_96 rfl rfl sh_56 rfl ⟨Nat.le_of_ble_eq_true rfl, Nat.le_of_ble_eq_true rfl, Nat.le_of_ble_eq_true rfl, Nat.le_of_ble_eq_true rfl⟩ (m_cc hV hM1 (Q := fun r s => r = (f_cc S (sx xs (x + 1))) ∧ InvM s S ∧ frM s1 s) (fun s h f => ⟨rfl, h, f⟩)) ?_
  rintro _ s2 ⟨r2, rfl, rfl, hM2, f2⟩
  have hC2 := InvC_m hC1 f2
  exact r_icmp_eq (tgt := 952) dL_law_898 (by decide) (fun _ => head _ _ hV hC2 hM2) (fun q => absurd rfl q)
theorem lw_c19 (hb2 : G.2.2.1 228 = b) {x : Int} (hx : 0 ≤ x ∧ x + 7 ≤ (L : Int) ∧ (L : Int) ≤ 3584) (head : ∀ (S : ST) (σ : Sto), Val S → InvC σ S → InvM σ S → MWF l G mL (FL b L xs) 952 (lwS x) [] σ) {S : ST} (hV : Val S) {σ : Sto} (hC : InvC σ S) (hM : InvM σ S) : MWF l G mL (FL b L xs) 903 (lwS x) [] σ := by
  refine r_aload_n 2 dL_law_903 rfl rfl ?_
  refine r_aload_n 3 dL_law_904 rfl rfl ?_
  refine r_iload_n 0 dL_law_905 rfl rfl ?_
  refine r_iconst dL_law_906 (by decide) ?_
  refine r_iadd dL_law_907 (by omega) ?_
  refine r_sld hb2 dL_law_908 (by omega) ?_
  refine r_callV [vI (sx xs (x + 1))] [] dL_law_909 okX7_chain ivX7_chain seX7_chain lm_L_97 rfl rfl sh_0 rfl ⟨Nat.le_of_ble_eq_true rfl, Nat.le_of_ble_eq_true rfl, Nat.le_of_ble_eq_true rfl, Nat.le_of_ble_eq_true rfl⟩ (c_ch hV hC (Q := fun r s => r = (f_ch S (sx xs (x + 1))).1 ∧ InvC s (f_ch S (sx xs (x + 1))).2 ∧ frC σ s) (fun s h f => ⟨rfl, h, f⟩)) ?_
  rintro _ s1 ⟨r1, rfl, rfl, hC1, f1⟩
  have hM1 := InvM_c hM f1
  refine r_aload_n 1 dL_law_912 rfl rfl ?_
  refine r_aload_n 3 dL_law_913 rfl rfl ?_
  refine r_iload_n 0 dL_law_914 rfl rfl ?_
  refine r_iconst dL_law_915 (by decide) ?_
  refine r_iadd dL_law_916 (by omega) ?_
  refine r_sld hb2 dL_law_917 (by omega) ?_
  refine r_callV [vI (sx xs (x + 1))] [vI ((f_ch S (sx xs (x + 1))).1)] dL_law_918 okX8_chain ivX8_chain seX8_chain lm_L_100 rfl rfl sh_56 rfl ⟨Nat.le_of_ble_eq_true rfl, Nat.le_of_ble_eq_true rfl, Nat.le_of_ble_eq_true rfl, Nat.le_of_ble_eq_true rfl⟩ (m_ch hV hM1 (Q := fun r s => r = (f_ch S (sx xs (x + 1))).1 ∧ InvM s (f_ch S (sx xs (x + 1))).2 ∧ frM s1 s) (fun s h f => ⟨rfl, h, f⟩)) ?_
  rintro _ s2 ⟨r2, rfl, rfl, hM2, f2⟩
  have hC2 := InvC_m hC1 f2
  exact r_icmp_eq (tgt := 952) dL_law_921 (by decide) (fun _ => head _ _ (V_ch hV _) hC2 hM2) (fun q => absurd rfl q)
theorem lw_c20 (hb2 : G.2.2.1 228 = b) {x : Int} (hx : 0 ≤ x ∧ x + 7 ≤ (L : Int) ∧ (L : Int) ≤ 3584) (head : ∀ (S : ST) (σ : Sto), Val S → InvC σ S → InvM σ S → MWF l G mL (FL b L xs) 952 (lwS x) [] σ) {S : ST} (hV : Val S) {σ : Sto} (hC : InvC σ S) (hM : InvM σ S) : MWF l G mL (FL b L xs) 926 (lwS x) [] σ := by
  refine r_aload_n 2 dL_law_926 rfl rfl ?_
  refine r_callV [] [] dL_law_927 okX7_improve ivX7_improve seX7_improve lm_L_101 rfl rfl sh_0 rfl ⟨Nat.le_of_ble_eq_true rfl, Nat.le_of_ble_eq_true rfl, Nat.le_of_ble_eq_true rfl, Nat.le_of_ble_eq_true rfl⟩ (c_im hV hC (Q := fun r s => r = (f_im S).1 ∧ InvC s (f_im S).2 ∧ frC σ s) (fun s h f => ⟨rfl, h, f⟩)) ?_
  rintro _ s1 ⟨r1, rfl, rfl, hC1, f1⟩
  have hM1 := InvM_c hM f1
  refine r_aload_n 1 dL_law_930 rfl rfl ?_
  refine r_callV [] [vI ((f_im S).1)] dL_law_931 okX8_improve ivX8_improve seX8_improve lm_L_105 rfl rfl sh_56 rfl ⟨Nat.le_of_ble_eq_true rfl, Nat.le_of_ble_eq_true rfl, Nat.le_of_ble_eq_true rfl, Nat.le_of_ble_eq_true rfl⟩ (m_im hV hM1 (Q := fun r s => r = (f_im S).1 ∧ InvM s (f_im S).2 ∧ frM s1 s) (fun s h f => ⟨rfl, h, f⟩)) ?_
  rintro _ s2 ⟨r2, rfl, rfl, hM2, f2⟩
  have hC2 := InvC_m hC1 f2
  exact r_icmp_eq (tgt := 952) dL_law_934 (by decide) (fun _ => head _ _ (V_im hV) hC2 hM2) (fun q => absurd rfl q)
theorem lw_c21 (hb2 : G.2.2.1 228 = b) {x : Int} (hx : 0 ≤ x ∧ x + 7 ≤ (L : Int) ∧ (L : Int) ≤ 3584) (head : ∀ (S : ST) (σ : Sto), Val S → InvC σ S → InvM σ S → MWF l G mL (FL b L xs) 952 (lwS x) [] σ) {S : ST} (hV : Val S) {σ : Sto} (hC : InvC σ S) (hM : InvM σ S) : MWF l G mL (FL b L xs) 939 (lwS x) [] σ := by
  refine r_aload_n 2 dL_law_939 rfl rfl ?_
  refine r_callV [] [] dL_law_940 okX7_undo ivX7_undo seX7_undo lm_L_106 rfl rfl sh_0 rfl ⟨Nat.le_of_ble_eq_true rfl, Nat.le_of_ble_eq_true rfl, Nat.le_of_ble_eq_true rfl, Nat.le_of_ble_eq_true rfl⟩ (c_un hV hC (Q := fun r s => r = (f_un S).1 ∧ InvC s (f_un S).2 ∧ frC σ s) (fun s h f => ⟨rfl, h, f⟩)) ?_
  rintro _ s1 ⟨r1, rfl, rfl, hC1, f1⟩
  have hM1 := InvM_c hM f1
  refine r_aload_n 1 dL_law_943 rfl rfl ?_
  refine r_callV [] [vI ((f_un S).1)] dL_law_944 okX8_undo ivX8_undo seX8_undo lm_L_109 rfl rfl sh_56 rfl ⟨Nat.le_of_ble_eq_true rfl, Nat.le_of_ble_eq_true rfl, Nat.le_of_ble_eq_true rfl, Nat.le_of_ble_eq_true rfl⟩ (m_un hV hM1 (Q := fun r s => r = (f_un S).1 ∧ InvM s (f_un S).2 ∧ frM s1 s) (fun s h f => ⟨rfl, h, f⟩)) ?_
  rintro _ s2 ⟨r2, rfl, rfl, hM2, f2⟩
  have hC2 := InvC_m hC1 f2
  exact r_icmp_eq (tgt := 952) dL_law_947 (by decide) (fun _ => head _ _ (V_un hV) hC2 hM2) (fun q => absurd rfl q)
end LAWCASES
