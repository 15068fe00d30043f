def R_law : String := "SharedRidesLaw"
def lw_P (b : Addr) (xs : List Int32) (args : Array Value) (s : State) : Prop := args = #[.ref b] ∧ s.IntsAt b xs ∧ xs.length ≤ 260 ∧ (Jvm.Cond.and given_1 narrow_1).before args s = true
def lw_Q (_ : Array Value) (s : State) (o : Outcome) (t : State) : Prop := o = .returned (some (.int 1)) ∧ Framed s o t [] 600000 7302250
def lw_Z (below : List Frame) (a : Array Value) (s : State) : State → Prop := fun t => ∃ o, t.status = .running ∧ Ended t below o ∧ lw_Q a s o t
theorem lw_ret {p : Program} {l : Launch} {e : Env} {s : State} {m : MethodId} {below : List Frame} {meth : Method} {c : Code} {b : Nat} (hx : p.tables.exec = Jvm.exec) (hb : c.code = code) (hr : meth.sig.returnType = ret) (hlocks : meth.locks = false) {pc : Nat} {H : Heap} {ls : Array Slot} (hdg : decode code pc = .ok (.ireturn, 1)) : W p l e room_1 s m #[Value.ref b] below meth c H [] 600000 7302250 (lw_Z below #[Value.ref b] s) (F0 m pc ls [.int 1]) := by
  intro T hT X
  obtain ⟨fs, hret, hrun, hended, hW, hframe⟩ := X.leave (v := some (.int 1)) (hlocks := hlocks) (fun h => by rw [hr] at h; cases h)
  have hmeth' : T.vm.method? m = some meth := X.method'
  refine ⟨T.setFrames fs, ?_, .returned (some (.int 1)), hrun, hended, rfl, ⟨_, rfl⟩, hW, hframe⟩
  jvm_step X.here [X.here.top, hx, hb, hdg, hmeth', hr, ret, narrow_b1]
  (try refine ⟨rfl, ?_⟩); (try refine ⟨rfl, ?_⟩)
  first | (intro acts; rw [hret _ acts rfl rfl rfl]) | rw [hret _ _ rfl rfl rfl]
  exact Steps.refl _
def lw_At (p : Program) (s : State) (m : MethodId) (meth : Method) (c : Code) (b L : Nat) (xs : Nat → Int32) : Prop :=
  p.tables.exec = Jvm.exec ∧ c.code = code ∧ meth.sig.returnType = ret ∧ c.maxLocals = 18 ∧ s.vm.findClass R_law = some m.cls ∧ (∀ w ∈ lw_tbl, w.before #[Value.ref b] s = true) ∧ va_X b L xs s s.heap ∧ b < s.heap.size ∧ meth.locks = false ∧ (Jvm.Cond.and given_1 narrow_1).before #[Value.ref b] s = true
def sx (xs : Nat → Int32) (z : Int) : Int := (xs z.toNat).toInt
def celF (xs : Nat → Int32) (L : Nat) (k : Int) : Int := if k < L then sx xs k else 4090013 * k + 283
theorem ok_sx (xs : Nat → Int32) (z : Int) : okV (vI (sx xs z)) := ok_i32 _
def FC (b L : Nat) (xs : Nat → Int32) (G : GT) (M : MI) (Q : Option MV → Sto → Prop) : FT := fun p e R s m args below meth c A H0 cells slots Qf => Fin G M Q p e R s m args below meth c A H0 cells slots Qf ∧ va_X b L xs s s.heap ∧ b < s.heap.size ∧ ¬ AC G b
def PcC (b L : Nat) (xs : Nat → Int32) (G : GT) (as : List MV) (σ : Sto) : Array Value → State → Prop := fun a U => PcO G as σ a U ∧ va_X b L xs U U.heap ∧ b < U.heap.size ∧ ¬ AC G b
def FL (b L : Nat) (xs : Nat → Int32) (κ : Nat) : FT := fun _ _ R s _ args below meth _ A H0 cells slots Qf => R = room_1 ∧ meth.sig.returnType = ret ∧ meth.locks = false ∧ A = (fun q : Nat => s.heap.size ≤ q) ∧ H0 = s.heap ∧ args = #[Value.ref b] ∧ va_X b L xs s s.heap ∧ b < s.heap.size ∧ Qf = lw_Z below #[Value.ref b] s ∧ cells ≤ 300 + κ ∧ slots ≤ 5000 + 12 * κ
def mL : MI := (yL_law, cL_law, 18, ret, 11, 442)
section LAWROWS
variable {l : Launch} {G : GT} {b L : Nat} {xs : Nat → Int32} {κ : Nat} {pc : Nat} {ls : List (Nat × MV)} {st : List MV} {σ : Sto} {M : MI} {Q : Option MV → Sto → Prop}
theorem r_sldC (hb2 : G.2.2.1 228 = b) {x : Int} (hd : decode M.2.1 pc = .ok (.iaload, 1)) (h : 0 ≤ x ∧ x < L) (kk : MWF l G M (FC b L xs G M Q) (pc + 1) ls (vI (sx xs x) :: st) σ) : MWF l G M (FC b L xs G M Q) pc ls (vI x :: vR 228 :: st) σ := by
  intro hσ hl hs p e R s m args below meth c A H0 cells slots Qf hF hC H locs lsA hP hS hls
  obtain ⟨hx, hb, hml, hown, hts, hK, hD, hfr, hlo, hce, hsl⟩ := id hC
  obtain ⟨⟨e1, e2, e3, e4, e5, e6, e7, e8⟩, f1, f2, f3⟩ := id hF
  have h1 : okV (vI x) := okL_hd hs
  have k2 := kk hσ hl (okL_cons (ok_sx xs x) (okL_tl (okL_tl hs))) p e R s m args below meth c A H0 cells slots Qf hF hC H locs lsA hP hS hls
  have ev : Value.int (xs (Int32.ofInt x).toNatClampNeg) = cv G.2.2.1 (vI (sx xs x)) := by
    show Value.int _ = Value.int (Int32.ofInt (xs x.toNat).toInt)
    rw [oI_N h1, Int32.ofInt_toInt]
  show W p l e R s m args below meth c H locs cells slots Qf (F0 m pc lsA (.int (Int32.ofInt x) :: .ref (G.2.2.1 228) :: st.map (cv G.2.2.1)))
  rw [hb2]
  refine va_sld hx hb (xs := xs) (L := L) (by rw [e5]; exact f1) (by rw [e5]; exact f2) (by rw [e4]; exact f3) hS (oI_vp h1 h.1 h.2) hd ?_
  rw [ev]
  exact k2
theorem r_slenC (hb2 : G.2.2.1 228 = b) (hL : L ≤ 260) (hd : decode M.2.1 pc = .ok (.arraylength, 1)) (kk : MWF l G M (FC b L xs G M Q) (pc + 1) ls (vI L :: st) σ) : MWF l G M (FC b L xs G M Q) pc ls (vR 228 :: st) σ := by
  intro hσ hl hs p e R s m args below meth c A H0 cells slots Qf hF hC H locs lsA hP hS hls
  obtain ⟨hx, hb, hml, hown, hts, hK, hD, hfr, hlo, hce, hsl⟩ := id hC
  obtain ⟨⟨e1, e2, e3, e4, e5, e6, e7, e8⟩, f1, f2, f3⟩ := id hF
  have k2 := kk hσ hl (okL_I (by omega) (okL_tl hs)) p e R s m args below meth c A H0 cells slots Qf hF hC H locs lsA hP hS hls
  show W p l e R s m args below meth c H locs cells slots Qf (F0 m pc lsA (.ref (G.2.2.1 228) :: st.map (cv G.2.2.1)))
  rw [hb2]
  refine va_slen hx hb (xs := xs) (L := L) (by rw [e5]; exact f1) (by rw [e5]; exact f2) (by rw [e4]; exact f3) hS hd ?_
  exact k2
theorem r_iretC {x : Int} (hd : decode M.2.1 pc = .ok (.ireturn, 1)) (hty : M.2.2.2.1 = some .int) (h : Q (some (vI x)) σ) : MWF l G M (FC b L xs G M Q) pc ls [vI x] σ := by
  intro hσ hl hs p e R s m args below meth c A H0 cells slots Qf hF hC H locs lsA hP hS hls
  exact r_iret hd hty h hσ hl hs p e R s m args below meth c A H0 cells slots Qf hF.1 hC H locs lsA hP hS hls
theorem cell_run (hb2 : G.2.2.1 228 = b) (hL : L ≤ 260) {k : Int} (h : 0 ≤ k ∧ k ≤ 300) (hQ : Q (some (vI (celF xs L k))) σ) : MWF l G mL_cell (FC b L xs G mL_cell Q) 0 (lsO 0 [vR 228, vI k]) [] σ := by
  show MWF l G mL_cell (FC b L xs G mL_cell Q) 0 [(0, vR 228), (1, vI k)] [] σ
  refine r_iload_n 1 dL_cell_0 rfl rfl ?_
  refine r_aload_n 0 dL_cell_1 rfl rfl ?_
  refine r_slenC hb2 hL dL_cell_2 ?_
  refine r_icmp_ge dL_cell_3 (tgt := 12) rfl (fun q => ?_) (fun q => ?_)
  · refine r_ldc (n := 4090013) dL_cell_12 lc_L_7 (by decide) ?_
    refine r_iload_n 1 dL_cell_14 rfl rfl ?_
    refine r_imul dL_cell_15 (by omega) ?_
    refine r_sipush (n := 283) dL_cell_16 (by decide) (by decide) ?_
    refine r_iadd dL_cell_19 (by omega) ?_
    refine r_iretC dL_cell_20 rfl ?_
    have e : celF xs L k = 4090013 * k + 283 := by unfold celF; rw [if_neg (by omega)]
    rw [← e]; exact hQ
  · refine r_aload_n 0 dL_cell_6 rfl rfl ?_
    refine r_iload_n 1 dL_cell_7 rfl rfl ?_
    refine r_sldC hb2 dL_cell_8 (by omega) ?_
    refine r_goto dL_cell_9 (tgt := 20) rfl ?_
    refine r_iretC dL_cell_20 rfl ?_
    have e : celF xs L k = sx xs k := by unfold celF; rw [if_pos (by omega)]
    rw [← e]; exact hQ
theorem PcC_blind {as : List MV} : FrameBlind (PcC b L xs G as σ) := fun a U g mk q => ⟨PcO_blind a U g mk q.1, va_X.moved (u := U) (U := U.calling g mk a) (Vm.Alike.refl U.vm) q.2.1, q.2.2⟩
theorem metC_of {n : Nat} {as : List MV} (hM : MOK M n) (h : MWF l G M (FC b L xs G M Q) 0 (lsO 0 as) [] σ) (hσ : okS σ) (ha : okL as) (hlen : as.length ≤ M.2.2.1) (hD : va_D (AC G) (wsC G σ0)) (hj : noJ as = true) : Met l M.1 (wsM M) (RM M) (PcC b L xs G as σ) (QcO G Q) 0 0 (AC G) := by
  refine Met.ofW (cc := M.2.1) (maxL := M.2.2.1) (ret := M.2.2.2.1) hM.1 rfl ?_
  intro p e s m av below meth c s₁ B hml hv
  obtain ⟨⟨rfl, hP, hK⟩, hX⟩ := hv
  have hts : ∀ w ∈ tbG, w.before _ s = true := fun w hw => atoms_spec (ws := wsM M) B.pre w (List.mem_cons_of_mem _ hw)
  have hown : s.vm.findClass M.1.cls = some m.cls := findClass_of_methodNamed B.named
  rw [lg_entry_eq]
  have hl := lv_entry (as.map (cv G.2.2.1)) (n := M.2.2.1) (by rw [lg_len _ _ hj]; exact hlen)
  rw [lsO_args _ _ _ hj] at hl
  exact h hσ (by rw [lsO_ok]; exact ha) okL_nil p e (RM M) s m _ below meth c (AC G) s.heap 0 0 _ ⟨⟨rfl, B.returns, B.notSynchronized, rfl, rfl, rfl, rfl, rfl⟩, hX⟩ ⟨B.exec, B.bytes, hml, hown, hts, hK, hD, Nat.le_refl _, Nat.le_refl _, Nat.le_refl _, Nat.le_refl _⟩ s.heap [] _ hP va_S.rf hl
theorem r_cell (hb2 : G.2.2.1 228 = b) (hL : L ≤ 260) {idx : Nat} {k : Int} (hd : decode mL.2.1 pc = .ok (.invokestatic idx, 3)) (hlk : Cond.methodLink mL.1.cls idx mL_cell.1 ∈ tbG) (h : 0 ≤ k ∧ k ≤ 300) (kk : MWF l G mL (FL b L xs κ) (pc + 3) ls (vI (celF xs L k) :: st) σ) (hst : rsz st ≤ 8 := by exact Nat.le_of_ble_eq_true rfl) : MWF l G mL (FL b L xs κ) pc ls (vI k :: vR 228 :: st) σ := by
  intro hσ hl hs p e R s m args below meth c A H0 cells slots Qf hF hC H locs lsA hP hS hls
  obtain ⟨hx, hb, hml, hown, hts, hK, hD, hfr, hlo, hce, hsl⟩ := id hC
  obtain ⟨e1, e2, e3, e4, e5, e6, e7, e8, e9, e10, e11⟩ := id hF
  have hA : ∀ q, AC G q → s.heap.size ≤ q := fun q hq => by
    have := wsC_A hD q hq
    rw [e4] at this
    exact this
  have hbA : ¬ AC G b := fun q => absurd (hA b q) (Nat.not_le.mpr e8)
  have hok : okL [vR 228, vI k] := okL_R (okL_cons (okL_hd hs) okL_nil)
  have hm := metC_of (l := l) (b := b) (L := L) (xs := xs) (G := G) (M := mL_cell) (σ := σ) (Q := fun r σ' => r = some (vI (celF xs L k)) ∧ σ' = σ) okL_cell (as := [vR 228, vI k]) (cell_run hb2 hL h ⟨rfl, rfl⟩) hσ hok (Nat.le_of_ble_eq_true rfl) (wsC_self hD) rfl
  have hg := wsM_good okL_cell
  have hHb : H[b]? = s.heap[b]? := by
    have := hS.2.1 b (by rw [e5]; exact e8) (by rw [e4]; exact Nat.not_le.mpr e8)
    rw [this, e5]
  have hbH : b < H.size := by
    have := hS.1
    rw [e5] at this
    omega
  have cw : CallB R s args mL.1.cls idx mL_cell.1 mL_cell.2.1 mL_cell.2.2.1 mL_cell.2.2.2.1 (wsM mL_cell) (RM mL_cell) 0 0 2 ∧ (Cond.static mL_cell.1).before args s = true :=
    ⟨⟨rfl, rfl, by rw [e1]; exact Nat.le_of_ble_eq_true rfl, by rw [e1]; exact Nat.le_of_ble_eq_true rfl, pay_in hts hg, List.mem_cons_self, hts _ okL_cell.2.2.2.1, hts _ okL_cell.2.2.2.2, okL_cell.2.1, fun sig h => by
      have h2 := okL_cell.2.2.1
      rw [h] at h2
      exact (Option.some.inj h2).symm, hts _ hlk⟩, hts _ ssL_cell⟩
  refine run_on (va_runS (As := [vR 228, vI k].map (cv G.2.2.1)) (rest := st.map (cv G.2.2.1)) ⟨hx, hb, hml, hown, hts⟩ hm cw ⟨PcC_blind, fun U hU hW => ⟨⟨rfl, by rw [hU]; exact hP, va_K.moved hW.alike hK⟩, ?_, by rw [hU]; exact hbH, hbA⟩⟩ rfl rfl hls.1 rfl (lv_room (by rw [cat_sum]; exact hst)) hd ⟨hce, hsl⟩) hS (wsC_A hD) (fun r σ' H1 locs1 hq hv hσ' hP1 hS1 => ?_)
  · rw [hU]
    exact va_X.moved hW.alike (va_X.kept e7 hHb)
  · obtain ⟨rfl, rfl⟩ := hq
    rw [back_map]
    exact kk hσ' hl (back_ok hv (okL_tl (okL_tl hs))) p e R s m args below meth c A H0 cells slots Qf hF hC H1 locs1 lsA hP1 hS1 hls
theorem r_callX {M' : MI} {n idx N : Nat} (as rest : List MV) {Q' : Int → Sto → Prop} (hd : decode mL.2.1 pc = .ok (.invokestatic idx, 3)) (hM' : MOK M' n) (hsw : Cond.static M'.1 ∈ tbG) (hlk : Cond.methodLink mL.1.cls idx M'.1 ∈ tbG) (hn : as.length = n) (hst : as.reverse ++ rest = st)
    (hroom : as.length ≤ M'.2.2.1 ∧ M'.2.2.2.2.1 + 1 ≤ 11 ∧ 8 + (M'.2.2.1 + 11) + M'.2.2.2.2.2 ≤ 442 ∧ rsz rest ≤ 8) (hx0 : G.2.2.2.2 = 0) (hκ : κ ≤ 100) (hN : N ≤ 12) (hc : CLX l G M' N as σ Q')
    (kk : ∀ r σ', (∃ x, r = some (vI x) ∧ Q' x σ') → MWF l G mL (FL b L xs (κ + 1)) (pc + 3) ls (r.toList ++ rest) σ') (hj : noJ as = true := by rfl) : MWF l G mL (FL b L xs κ) pc ls st σ := by
  subst hst
  intro hσ hl hs p e R s m args below meth c A H0 cells slots Qf hF hC H locs lsA hP hS hls
  obtain ⟨hx, hb, hml, hown, hts, hK, hD, hfr, hlo, hce, hsl⟩ := id hC
  obtain ⟨e1, e2, e3, e4, e5, e6, e7, e8, e9, e10, e11⟩ := id hF
  have hcells : cells + 1 ≤ R.cells := by rw [e1]; show cells + 1 ≤ 600000; omega
  have hslots : slots + N ≤ R.slots := by rw [e1]; show slots + N ≤ 7302250; omega
  have hok : okL as := fun v hv => hs v (List.mem_append_left _ (List.mem_reverse.mpr hv))
  have hokr : okL rest := fun v hv => hs v (List.mem_append_right _ hv)
  have hm := metX_of hM' (hc H.size) hσ hok hroom.1 (wsC_self hD) hj
  have hg := wsM_good hM'
  have cw : CallB R s args mL.1.cls idx M'.1 M'.2.1 M'.2.2.1 M'.2.2.2.1 (wsM M') (RX M' N) 1 N n ∧ (Cond.static M'.1).before args s = true :=
    ⟨⟨rfl, rfl, by rw [e1]; exact hroom.2.1, by rw [e1]; exact hroom.2.2.1, pay_in hts hg, List.mem_cons_self, hts _ hM'.2.2.2.1, hts _ hM'.2.2.2.2, hM'.2.1, fun sig h => by
      have h2 := hM'.2.2.1
      rw [h] at h2
      exact (Option.some.inj h2).symm, hts _ hlk⟩, hts _ hsw⟩
  have hr := va_runS (e := e) (below := below) (meth := meth) (As := as.map (cv G.2.2.1)) (rest := rest.map (cv G.2.2.1)) (locs := locs) ⟨hx, hb, hml, hown, hts⟩ hm cw ⟨PcX_blind, fun U hU hW => ⟨⟨rfl, by rw [hU]; exact hP, va_K.moved hW.alike hK⟩, by rw [hU]⟩⟩ rfl (by rw [List.length_map]; exact hn) hls.1 (by show List.map (cv G.2.2.1) (as.reverse ++ rest) = _; rw [List.map_append, List.map_reverse]) (lv_room (by rw [cat_sum]; exact hroom.2.2.2)) hd ⟨hcells, hslots⟩
  have hA := wsC_A hD
  intro T hT X
  obtain ⟨v, st₀, t, T', L', h0, X', hL', f1, f2, ⟨⟨r, σ', hv, hq, hv2, hσ', hP'⟩, hz, hk⟩, step⟩ := hr T hT X
  cases hv
  rw [h0] at hz hk
  have hS2 : va_S A H0 T'.heap (locs ++ L') := ⟨Nat.le_trans hS.1 (by rw [f1]; exact hz), fun q h1 h2 => by rw [f1, hk q (Nat.lt_of_lt_of_le h1 hS.1) (fun z => h2 (hA q z))]; exact hS.2.1 q h1 h2, fun q hq => by
      rcases List.mem_append.mp hq with h | h
      · exact hS.2.2 q h
      · rcases hL' q h with z | z
        · exact hA _ z
        · rw [e4]
          have h3 := hS.1
          rw [e5] at h3
          exact Nat.le_trans h3 z⟩
  have hF2 : FL b L xs (κ + 1) p e R s m args below meth c A H0 (cells + 1) (slots + N) Qf := ⟨e1, e2, e3, e4, e5, e6, e7, e8, e9, by omega, by omega⟩
  have k2 := kk r σ' hq hσ' hl (back_ok hv2 hokr) p e R s m args below meth c A H0 (cells + 1) (slots + N) Qf hF2 ⟨hx, hb, hml, hown, hts, hK, hD, hfr, hlo, hcells, hslots⟩ T'.heap (locs ++ L') lsA (by rw [f1]; exact hP') hS2 hls
  rw [← back_map] at k2
  obtain ⟨t2, a1, b1⟩ := k2 T' rfl X'
  exact ⟨t2, step t2 a1, b1⟩
theorem r_lret (hd : decode cL_law pc = .ok (.ireturn, 1)) : MWF l G mL (FL b L xs κ) pc ls [vI 1] σ := by
  intro hσ hl hs p e R s m args below meth c A H0 cells slots Qf hF hC H locs lsA hP hS hls
  obtain ⟨hx, hb, hml, hown, hts, hK, hD, hfr, hlo, hce, hsl⟩ := id hC
  obtain ⟨rfl, e2, e3, rfl, rfl, rfl, e7, e8, rfl, e10, e11⟩ := id hF
  refine va_forget (fun q hq => hS.2.2 q hq) ?_
  refine W.widen (k := 600000) (n := 7302250) (by simpa [room_1] using hce) (by simpa [room_1] using hsl) ?_
  exact lw_ret hx hb e2 e3 hd
end LAWROWS

