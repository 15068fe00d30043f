def KC (ci : Nat) (C : String) (T : u_T) (N : Nat) : Prop := vwCl[ci]? = some (C, T, N) ∧ (∀ w ∈ u_ws C T N, w ∈ tbG) ∧ (∃ ty0 : Nat → FieldType, ∀ k, k < N → parseFieldDescriptor (T k).2.2.1 = some (ty0 k)) ∧ (∀ a, a < N → ∀ b, b < N → a ≠ b → (T a).2.1 ≠ (T b).2.1)
section MROWS2
variable {l : Launch} {G : GT} {M : MI} {F : FT} {pc : Nat} {ls : List (Nat × MV)} {st : List MV} {σ : Sto}
theorem r_getI {idx ci j k N : Nat} {C : String} {T : u_T} {fs : List (Option Nat)} (hd : decode M.2.1 pc = .ok (.getfield idx, 3)) (hsh : shp k = .inr (.inr (ci, fs))) (hfs : fs[j]? = some none) (hc : KC ci C T N) (hj : j < N) (hlk : Cond.fieldLink M.1.cls idx (T j).1 (T j).2.1 (T j).2.2.1 ∈ tbG) (kk : MWF l G M F (pc + 3) ls (vI (σ k j) :: st) σ) : MWF l G M F pc ls (vR k :: st) σ := by
  intro hσ hl hs p e R s m args below meth c A H0 cells slots Qf hF hC H locs lsA hP hS hls
  obtain ⟨hx, hb, hml, hown, hts, hK, hD, hfr, hlo, hce, hsl⟩ := id hC
  have hk := shp_lt_o hsh
  refine va_get (D := (G.1, G.2.1)) (ci := ci) (v := .int (Int32.ofInt (σ k j))) (C := C) (T := T) (N := N) hx hb hts hc.2.1 hown hK hP (pos k) (fs := cF G.2.2.1 (σ k) 0 fs) (by rw [wsC_get G σ hk, hsh]; rfl) hc.1 j hj (hts _ hlk) (fun _ h => h) (by rw [cF_get, hfs, Nat.zero_add]; rfl) hd ?_
  exact kk hσ hl (okL_I (hσ k j) (okL_tl hs)) p e R s m args below meth c A H0 cells slots Qf hF hC H locs lsA hP hS hls
theorem r_getR {idx ci j k N r : Nat} {C : String} {T : u_T} {fs : List (Option Nat)} (hd : decode M.2.1 pc = .ok (.getfield idx, 3)) (hsh : shp k = .inr (.inr (ci, fs))) (hfs : fs[j]? = some (some r)) (hc : KC ci C T N) (hj : j < N) (hlk : Cond.fieldLink M.1.cls idx (T j).1 (T j).2.1 (T j).2.2.1 ∈ tbG) (kk : MWF l G M F (pc + 3) ls (vR r :: st) σ) : MWF l G M F pc ls (vR k :: st) σ := by
  intro hσ hl hs p e R s m args below meth c A H0 cells slots Qf hF hC H locs lsA hP hS hls
  obtain ⟨hx, hb, hml, hown, hts, hK, hD, hfr, hlo, hce, hsl⟩ := id hC
  have hk := shp_lt_o hsh
  refine va_get (D := (G.1, G.2.1)) (ci := ci) (v := .ref (G.2.2.1 r)) (C := C) (T := T) (N := N) hx hb hts hc.2.1 hown hK hP (pos k) (fs := cF G.2.2.1 (σ k) 0 fs) (by rw [wsC_get G σ hk, hsh]; rfl) hc.1 j hj (hts _ hlk) (fun _ h => h) (by rw [cF_get, hfs]; rfl) hd ?_
  exact kk hσ hl (okL_R (okL_tl hs)) p e R s m args below meth c A H0 cells slots Qf hF hC H locs lsA hP hS hls
theorem set_o {k ci j : Nat} {x : Int} {fs : List (Option Nat)} (hsh : shp k = .inr (.inr (ci, fs))) (hfs : fs[j]? = some none) : (wsC G σ).set (pos k) (G.2.2.1 k, .inr (ci, (cF G.2.2.1 (σ k) 0 fs).set j (.int (Int32.ofInt x)))) = wsC G (stS σ k j x) := by
  rw [← wsC_set G σ (stS σ k j x) (shp_lt_o hsh) (fun k' h => by funext i; simp [stS, h]), hsh]
  show _ = (wsC G σ).set (pos k) (_, .inr (ci, cF G.2.2.1 (stS σ k j x k) 0 fs))
  rw [← cF_set G.2.2.1 (σ k) (stS σ k j x k) fs j hfs (fun i hi => by simp [stS, hi]), show stS σ k j x k j = x by simp [stS]]
theorem r_put {idx ci j k N : Nat} {x : Int} {ty : FieldType} {C : String} {T : u_T} {fs : List (Option Nat)} (hd : decode M.2.1 pc = .ok (.putfield idx, 3)) (hsh : shp k = .inr (.inr (ci, fs))) (hfs : fs[j]? = some none) (hc : KC ci C T N) (hj : j < N) (hlk : Cond.fieldLink M.1.cls idx (T j).1 (T j).2.1 (T j).2.2.1 ∈ tbG) (hfin : (T j).2.2.2 = false) (hty : parseFieldDescriptor (T j).2.2.1 = some ty) (hn : narrow ty (.int (Int32.ofInt x)) = .int (Int32.ofInt x)) (hfit : fits ty (.int (Int32.ofInt x)) = true)
    (kk : MWF l G M F (pc + 3) ls st (stS σ k j x)) : MWF l G M F pc ls (vI x :: vR k :: st) σ := by
  intro hσ hl hs p e R s m args below meth c A H0 cells slots Qf hF hC H locs lsA hP hS hls
  obtain ⟨hx, hb, hml, hown, hts, hK, hD, hfr, hlo, hce, hsl⟩ := id hC
  have hk := shp_lt_o hsh
  obtain ⟨ty0, hty0⟩ := hc.2.2.1
  refine va_put (D := (G.1, G.2.1)) (ci := ci) (v := .int (Int32.ofInt x)) (ty := ty) (C := C) (T := T) (N := N) hx hb hts hc.2.1 ty0 hty0 hc.2.2.2 hown hK hP (wsC_D σ hD) hS (pos k) (fs := cF G.2.2.1 (σ k) 0 fs) (by rw [wsC_get G σ hk, hsh]; rfl) hc.1 j hj (hts _ hlk) (fun _ h => h) hfin hty hn hfit (by rw [cF_len]; exact (List.getElem?_eq_some_iff.mp hfs).1) hd (fun H1 locs1 hP1 hD1 hS1 => ?_)
  rw [set_o hsh hfs] at hP1
  exact kk (okS_st hσ (okL_hd hs)) hl (okL_tl (okL_tl hs)) p e R s m args below meth c A H0 cells slots Qf hF hC H1 locs1 lsA hP1 hS1 hls
theorem r_putI {idx ci j k N : Nat} {x : Int} {C : String} {T : u_T} {fs : List (Option Nat)} (hd : decode M.2.1 pc = .ok (.putfield idx, 3)) (hsh : shp k = .inr (.inr (ci, fs))) (hfs : fs[j]? = some none) (hc : KC ci C T N) (hj : j < N) (hlk : Cond.fieldLink M.1.cls idx (T j).1 (T j).2.1 (T j).2.2.1 ∈ tbG) (hfin : (T j).2.2.2 = false) (hty : parseFieldDescriptor (T j).2.2.1 = some .int)
    (kk : MWF l G M F (pc + 3) ls st (stS σ k j x)) : MWF l G M F pc ls (vI x :: vR k :: st) σ := r_put hd hsh hfs hc hj hlk hfin hty rfl rfl kk
theorem r_putZ {idx ci j k N : Nat} {x : Int} {C : String} {T : u_T} {fs : List (Option Nat)} (hd : decode M.2.1 pc = .ok (.putfield idx, 3)) (hsh : shp k = .inr (.inr (ci, fs))) (hfs : fs[j]? = some none) (hc : KC ci C T N) (hj : j < N) (hlk : Cond.fieldLink M.1.cls idx (T j).1 (T j).2.1 (T j).2.2.1 ∈ tbG) (hfin : (T j).2.2.2 = false) (hty : parseFieldDescriptor (T j).2.2.1 = some .boolean) (h01 : x = 0 ∨ x = 1)
    (kk : MWF l G M F (pc + 3) ls st (stS σ k j x)) : MWF l G M F pc ls (vI x :: vR k :: st) σ := by
  refine r_put hd hsh hfs hc hj hlk hfin hty ?_ ?_ kk
  · rcases h01 with rfl | rfl <;> decide
  · rcases h01 with rfl | rfl <;> decide
theorem r_iald {k n : Nat} {i : Int} (hd : decode M.2.1 pc = .ok (.iaload, 1)) (hsh : shp k = .inl n) (h0 : 0 ≤ i) (hn : i < n) (kk : MWF l G M F (pc + 1) ls (vI (σ k i.toNat) :: st) σ) : MWF l G M F pc ls (vI i :: vR k :: st) σ := by
  intro hσ hl hs p e R s m args below meth c A H0 cells slots Qf hF hC H locs lsA hP hS hls
  obtain ⟨hx, hb, hml, hown, hts, hK, hD, hfr, hlo, hce, hsl⟩ := id hC
  refine va_iald (D := (G.1, G.2.1)) (n := n) (f := fun j => Int32.ofInt (σ k j)) (cA := G.2.2.2.1 0) hx hb hK hP (pos k) 0 (by rw [wsC_get G σ (shp_lt_a hsh), hsh]; rfl) rfl (oI_vp (okL_hd hs) h0 hn) hd ?_
  refine W.eq (g2 := F0 m (pc + 1) lsA (.int (Int32.ofInt (σ k i.toNat)) :: st.map (cv G.2.2.1))) (by rw [oI_N (okL_hd hs)]) ?_
  exact kk hσ hl (okL_I (hσ k i.toNat) (okL_tl (okL_tl hs))) p e R s m args below meth c A H0 cells slots Qf hF hC H locs lsA hP hS hls
theorem set_a {k n j : Nat} {x : Int} (hsh : shp k = .inl n) : (wsC G σ).set (pos k) (G.2.2.1 k, .inl (G.2.2.2.1 0, n, .inl (upd (fun i => Int32.ofInt (σ k i)) j (Int32.ofInt x)))) = wsC G (stS σ k j x) := by
  rw [← wsC_set G σ (stS σ k j x) (shp_lt_a hsh) (fun k' h => by funext i; simp [stS, h]), hsh]
  show _ = (wsC G σ).set (pos k) (_, .inl (G.2.2.2.1 0, n, .inl (fun i => Int32.ofInt (stS σ k j x k i))))
  have e : upd (fun i => Int32.ofInt (σ k i)) j (Int32.ofInt x) = (fun i => Int32.ofInt (stS σ k j x k i)) := by
    funext i
    by_cases h : i = j
    · subst h; simp [upd, stS]
    · simp [upd, stS, h]
  rw [e]
theorem r_iast {k n : Nat} {i x : Int} (hd : decode M.2.1 pc = .ok (.iastore, 1)) (hsh : shp k = .inl n) (h0 : 0 ≤ i) (hn : i < n) (kk : MWF l G M F (pc + 1) ls st (stS σ k i.toNat x)) : MWF l G M F pc ls (vI x :: vI i :: vR k :: st) σ := by
  intro hσ hl hs p e R s m args below meth c A H0 cells slots Qf hF hC H locs lsA hP hS hls
  obtain ⟨hx, hb, hml, hown, hts, hK, hD, hfr, hlo, hce, hsl⟩ := id hC
  have hi : okV (vI i) := okL_hd (okL_tl hs)
  refine va_iast (D := (G.1, G.2.1)) (n := n) (f := fun j => Int32.ofInt (σ k j)) (cA := G.2.2.2.1 0) hx hb hK hP (wsC_D σ hD) hS (pos k) 0 (by rw [wsC_get G σ (shp_lt_a hsh), hsh]; rfl) rfl (oI_vp hi h0 hn) hd (fun H1 locs1 hP1 hD1 hS1 => ?_)
  rw [oI_N hi, set_a hsh] at hP1
  exact kk (okS_st hσ (okL_hd hs)) hl (okL_tl (okL_tl (okL_tl hs))) p e R s m args below meth c A H0 cells slots Qf hF hC H1 locs1 lsA hP1 hS1 hls
theorem r_aald {k t r : Nat} {i : Int} {l' : List Nat} {ty : FieldType} (hd : decode M.2.1 pc = .ok (.aaload, 1)) (hsh : shp k = .inr (.inl (t, l'))) (ht : ∀ cA : Nat → ClassId, [(cA 0, FieldType.int), (cA 1, .object "SharedRides$Route"), (cA 2, .object "SharedRides$Plan"), (cA 3, .array .int)][t]? = some (cA t, ty)) (hty : ty.isReference = true) (h0 : 0 ≤ i) (hr : l'[i.toNat]? = some r) (kk : MWF l G M F (pc + 1) ls (vR r :: st) σ) : MWF l G M F pc ls (vI i :: vR k :: st) σ := by
  intro hσ hl hs p e R s m args below meth c A H0 cells slots Qf hF hC H locs lsA hP hS hls
  obtain ⟨hx, hb, hml, hown, hts, hK, hD, hfr, hlo, hce, hsl⟩ := id hC
  have hlt : i.toNat < l'.length := (List.getElem?_eq_some_iff.mp hr).1
  have hne : l' ≠ [] := fun q => by rw [q] at hlt; exact absurd hlt (Nat.not_lt_zero _)
  have hcell := hP (pos k) _ (show (wsC G σ)[pos k]? = some (G.2.2.1 k, .inl (G.2.2.2.1 t, l'.length, .inr (.inr (.inr (.inr (fun j => (l'[j]?).map G.2.2.1)))))) by rw [wsC_get G σ (shp_lt_r hsh hne), hsh]; rfl)
  have hlt2 : (Int32.ofInt i).toNatClampNeg < l'.length := by rw [oI_N (okL_hd hs)]; exact hlt
  refine W.aald (v := .ref (G.2.2.1 r)) (ty := ty) hx hb hcell ((hK.2 t _ (ht G.2.2.2.1)).1 l'.length (fun j => va_rf ((l'[j]?).map G.2.2.1))) hty (fun q => by cases q) (by show ¬ (Int32.ofInt i < 0 ∨ (arrV _ _ _).slots.size ≤ _); rw [arrV_size]; exact oI_vp (n := l'.length) (okL_hd hs) h0 (by omega)) (by show (arrV _ _ _).slots[_]? = _; rw [arrV_read _ _ hlt2, oI_N (okL_hd hs)]; show some (va_rf ((l'[i.toNat]?).map G.2.2.1)) = _; rw [hr]; rfl) rfl rfl hd ?_
  exact kk hσ hl (okL_R (okL_tl (okL_tl hs))) p e R s m args below meth c A H0 cells slots Qf hF hC H locs lsA hP hS hls
theorem MWF.sub {ls' : List (Nat × MV)} (ks : List Nat) (h : ks.filterMap (fun k => ls[k]?) = ls') (kk : MWF l G M F pc ls' st σ) : MWF l G M F pc ls st σ := by
  subst h
  intro hσ hl hs p e R s m args below meth c A H0 cells slots Qf hF hC H locs lsA hP hS hls
  refine kk hσ (fun v hv => ?_) hs p e R s m args below meth c A H0 cells slots Qf hF hC H locs lsA hP hS (lv_sub hls ks ?_)
  · obtain ⟨q, hq, rfl⟩ := List.mem_map.mp hv
    obtain ⟨j, -, hj⟩ := List.mem_filterMap.mp hq
    exact hl _ (List.mem_map.mpr ⟨q, List.mem_of_getElem? hj, rfl⟩)
  · unfold lv_pick
    rw [List.map_filterMap]
    congr 1
    funext k
    rw [List.getElem?_map]
def RM (M : MI) : Room := { frames := M.2.2.2.2.1, cells := 0, slots := 0, locals := M.2.2.2.2.2 }
def QcO (G : GT) (Q : Option MV → Sto → Prop) : Array Value → State → Outcome → State → Prop := fun _ st o t => (∃ (r : Option MV) (σ' : Sto), o = .returned (r.map (cv G.2.2.1)) ∧ Q r σ' ∧ (∀ v, r = some v → okV v) ∧ okS σ' ∧ va_P (G.1, G.2.1) vwCl (wsC G σ') t.heap) ∧ va_F (AC G) st t
def Fin (G : GT) (M : MI) (Q : Option MV → Sto → Prop) : FT := fun _ _ R s _ args below meth _ A H0 cells slots Qf => R = RM M ∧ meth.sig.returnType = M.2.2.2.1 ∧ meth.locks = false ∧ A = AC G ∧ H0 = s.heap ∧ cells = 0 ∧ slots = 0 ∧ Qf = MQ below (QcO G Q) args s 0 0 (AC G)
abbrev MW (l : Launch) (G : GT) (M : MI) (pc : Nat) (ls : List (Nat × MV)) (st : List MV) (σ : Sto) (Q : Option MV → Sto → Prop) : Prop := MWF l G M (Fin G M Q) pc ls st σ
def lsO : Nat → List MV → List (Nat × MV)
  | _, [] => []
  | i, v :: t => (i, v) :: lsO (i + 1) t
def CL (l : Launch) (G : GT) (M : MI) (args : List MV) (σ : Sto) (Q : Option MV → Sto → Prop) : Prop := MW l G M 0 (lsO 0 args) [] σ Q
theorem MQ_mono {Q Q' : Option MV → Sto → Prop} (h : ∀ r σ, Q r σ → Q' r σ) {below : List Frame} {a : Array Value} {s t : State} (k : MQ below (QcO G Q) a s 0 0 (AC G) t) : MQ below (QcO G Q') a s 0 0 (AC G) t := by
  obtain ⟨o, h1, h2, ⟨⟨r, σ', e1, e2, e3⟩, e4⟩, h3⟩ := k
  exact ⟨o, h1, h2, ⟨⟨r, σ', e1, h r σ' e2, e3⟩, e4⟩, h3⟩
theorem MW.mono {Q Q' : Option MV → Sto → Prop} (h : ∀ r σ, Q r σ → Q' r σ) (kk : MW l G M pc ls st σ Q) : MW l G M pc ls st σ Q' := by
  intro hσ hl hs p e R s m args below meth c A H0 cells slots Qf hF hC H locs lsA hP hS hls T hT X
  obtain ⟨rfl, hr, hlk, rfl, rfl, rfl, rfl, rfl⟩ := hF
  obtain ⟨t, a, b⟩ := kk hσ hl hs p e _ s m args below meth c _ _ 0 0 _ ⟨rfl, hr, hlk, rfl, rfl, rfl, rfl, rfl⟩ hC H locs lsA hP hS hls T hT X
  exact ⟨t, a, MQ_mono h b⟩
theorem CL.mono {args : List MV} {Q Q' : Option MV → Sto → Prop} (h : ∀ r σ, Q r σ → Q' r σ) (kk : CL l G M args σ Q) : CL l G M args σ Q' := MW.mono h kk
theorem r_iret0 {x : Int} {ty : FieldType} {Q : Option MV → Sto → Prop} (hd : decode M.2.1 pc = .ok (.ireturn, 1)) (hty : M.2.2.2.1 = some ty) (hn : narrow ty (.int (Int32.ofInt x)) = .int (Int32.ofInt x)) (h : Q (some (vI x)) σ) : MW l G M pc ls [vI x] σ Q := by
  intro hσ hl hs p e R s m args below meth c A H0 cells slots Qf hF hC H locs lsA hP hS hls
  obtain ⟨hx, hb, hml, hown, hts, hK, hD, hfr, hlo, hce, hsl⟩ := id hC
  obtain ⟨rfl, hr, hlk, rfl, rfl, rfl, rfl, rfl⟩ := hF
  exact W.zret hx hb (hr.trans hty) hn (fun t ht hW => ⟨⟨some (vI x), σ, rfl, h, fun v hv => by cases hv; exact okL_hd hs, hσ, by rw [ht]; exact hP⟩, hS.F ht⟩) (fun q hq => hS.2.2 q hq) hd hlk
theorem r_iret {x : Int} {Q : Option MV → Sto → Prop} (hd : decode M.2.1 pc = .ok (.ireturn, 1)) (hty : M.2.2.2.1 = some .int) (h : Q (some (vI x)) σ) : MW l G M pc ls [vI x] σ Q := r_iret0 hd hty rfl h
theorem r_zret {x : Int} {Q : Option MV → Sto → Prop} (hd : decode M.2.1 pc = .ok (.ireturn, 1)) (hty : M.2.2.2.1 = some .boolean) (h01 : x = 0 ∨ x = 1) (h : Q (some (vI x)) σ) : MW l G M pc ls [vI x] σ Q := r_iret0 hd hty (by rcases h01 with rfl | rfl <;> decide) h
theorem r_jret {z : Int64} {Q : Option MV → Sto → Prop} (hd : decode M.2.1 pc = .ok (.lreturn, 1)) (hty : M.2.2.2.1 = some .long) (h : Q (some (vJ z)) σ) : MW l G M pc ls [vJ z] σ Q := by
  intro hσ hl hs p e R s m args below meth c A H0 cells slots Qf hF hC H locs lsA hP hS hls
  obtain ⟨hx, hb, hml, hown, hts, hK, hD, hfr, hlo, hce, hsl⟩ := id hC
  obtain ⟨rfl, hr, hlk, rfl, rfl, rfl, rfl, rfl⟩ := hF
  exact W.lret hx hb (hr.trans hty) (fun t ht hW => ⟨⟨some (vJ z), σ, rfl, h, fun v hv => by cases hv; trivial, hσ, by rw [ht]; exact hP⟩, hS.F ht⟩) (fun q hq => hS.2.2 q hq) hd hlk
theorem r_vret {Q : Option MV → Sto → Prop} (hd : decode M.2.1 pc = .ok (.return_, 1)) (hty : M.2.2.2.1 = none) (h : Q none σ) : MW l G M pc ls [] σ Q := by
  intro hσ hl hs p e R s m args below meth c A H0 cells slots Qf hF hC H locs lsA hP hS hls
  obtain ⟨hx, hb, hml, hown, hts, hK, hD, hfr, hlo, hce, hsl⟩ := id hC
  obtain ⟨rfl, hr, hlk, rfl, rfl, rfl, rfl, rfl⟩ := hF
  exact W.vret hx hb (hr.trans hty) (fun t ht hW => ⟨⟨none, σ, rfl, h, fun v hv => (by cases hv), hσ, by rw [ht]; exact hP⟩, hS.F ht⟩) (fun q hq => hS.2.2 q hq) hd hlk
theorem r_aret {k : Nat} {C : String} {Q : Option MV → Sto → Prop} (hd : decode M.2.1 pc = .ok (.areturn, 1)) (hty : M.2.2.2.1 = some (.object C)) (h : Q (some (vR k)) σ) : MW l G M pc ls [vR k] σ Q := by
  intro hσ hl hs p e R s m args below meth c A H0 cells slots Qf hF hC H locs lsA hP hS hls
  obtain ⟨hx, hb, hml, hown, hts, hK, hD, hfr, hlo, hce, hsl⟩ := id hC
  obtain ⟨rfl, hr, hlk, rfl, rfl, rfl, rfl, rfl⟩ := hF
  exact W.aret hx hb (hr.trans hty) (Or.inl ⟨C, rfl⟩) (Or.inr ⟨_, rfl⟩) (fun t ht hW => ⟨⟨some (vR k), σ, rfl, h, fun v hv => by cases hv; trivial, hσ, by rw [ht]; exact hP⟩, hS.F ht⟩) (fun q hq => hS.2.2 q hq) hd hlk
theorem noJ_hd {v : MV} {l : List MV} (h : noJ (v :: l) = true) : isJ v = false := by
  unfold noJ at h
  rw [List.all_cons] at h
  cases e : isJ v with
  | false => rfl
  | true => rw [e] at h; cases h
theorem noJ_tl {v : MV} {l : List MV} (h : noJ (v :: l) = true) : noJ l = true := by
  unfold noJ at h ⊢
  rw [List.all_cons] at h
  exact (Bool.and_eq_true_iff.mp h).2
theorem lg_len (ad : Nat → Nat) : ∀ as : List MV, noJ as = true → (lg_sl (as.map (cv ad))).length = as.length
  | [], _ => rfl
  | v :: t, hj => by
    have h := lg_len ad t (noJ_tl hj)
    unfold lg_sl at h ⊢
    rw [List.map_cons, List.flatMap_cons, List.length_append, h, cv_cat _ _ (noJ_hd hj)]
    simp
    omega
theorem lsO_args (ad : Nat → Nat) : ∀ (as : List MV) (i : Nat), noJ as = true → lv_args i (as.map (cv ad)) = (lsO i as).map (cvp ad)
  | [], _, _ => rfl
  | v :: t, i, hj => by
    rw [List.map_cons, lv_args, cv_cat _ _ (noJ_hd hj), if_neg (by decide), lsO_args ad t (i + 1) (noJ_tl hj)]
    rfl
theorem lsO_ok : ∀ (as : List MV) (i : Nat), (lsO i as).map (·.2) = as
  | [], _ => rfl
  | v :: t, i => by
    show v :: ((lsO (i + 1) t).map (·.2)) = v :: t
    rw [lsO_ok t (i + 1)]
def MOK (M : MI) (n : Nat) : Prop := plainName M.1.cls = true ∧ (M.1.cls ≠ "java/lang/invoke/MethodHandle" ∧ M.1.cls ≠ "java/lang/invoke/VarHandle") ∧ (parseMethodDescriptor M.1.desc).map (fun d => d.parameters.length) = some n ∧ Cond.code M.1 M.2.1 M.2.2.1 M.2.2.2.1 ∈ tbG ∧ Cond.initialized M.1.cls ∈ tbG
def wsM (M : MI) : List Cond := Cond.code M.1 M.2.1 M.2.2.1 M.2.2.2.1 :: tbG
theorem wsM_good {n : Nat} (h : MOK M n) : GoodIn tbG (wsM M) := fun w hw => by
  rcases List.mem_cons.mp hw with rfl | hw
  · exact ⟨h.2.2.2.1, good_of_word (List.mem_filter.mp h.2.2.2.1).2⟩
  · exact ⟨hw, good_of_word (List.mem_filter.mp hw).2⟩
def PcO (G : GT) (as : List MV) (σ : Sto) : Array Value → State → Prop := va_Pc (as.map (cv G.2.2.1)) (fun U => va_P (G.1, G.2.1) vwCl (wsC G σ) U.heap ∧ va_K (G.1, G.2.1) vwCl (tyC G) U)
theorem PcO_blind {as : List MV} : FrameBlind (PcO G as σ) := fun a U g mk q => by
  obtain ⟨q0, qP, qK⟩ := q
  exact ⟨q0, qP, va_K.moved (u := U) (U := U.calling g mk a) (Vm.Alike.refl U.vm) qK⟩
theorem met_of {n : Nat} {as : List MV} {Q : Option MV → Sto → Prop} (hM : MOK M n) (h : CL l G M as σ Q) (hσ : okS σ) (ha : okL as) (hlen : as.length ≤ M.2.2.1) (hD : va_D (AC G) (wsC G σ0)) (hj : noJ as = true) : Met l M.1 (wsM M) (RM M) (PcO G as σ) (QcO G Q) 0 0 (AC G) := by
  refine Met.ofW (cc := M.2.1) (maxL := M.2.2.1) (ret := M.2.2.2.1) hM.1 rfl ?_
  intro p e s m av below meth c s₁ B hml hv
  obtain ⟨rfl, hP, hK⟩ := hv
  have hts : ∀ w ∈ tbG, w.before _ s = true := fun w hw => atoms_spec (ws := wsM M) B.pre w (List.mem_cons_of_mem _ hw)
  have hown : s.vm.findClass M.1.cls = some m.cls := findClass_of_methodNamed B.named
  rw [lg_entry_eq]
  have hl := lv_entry (as.map (cv G.2.2.1)) (n := M.2.2.1) (by rw [lg_len _ _ hj]; exact hlen)
  rw [lsO_args _ _ _ hj] at hl
  exact h hσ (by rw [lsO_ok]; exact ha) okL_nil p e (RM M) s m _ below meth c (AC G) s.heap 0 0 _ ⟨rfl, B.returns, B.notSynchronized, rfl, rfl, rfl, rfl, rfl⟩ ⟨B.exec, B.bytes, hml, hown, hts, hK, hD, Nat.le_refl _, Nat.le_refl _, Nat.le_refl _, Nat.le_refl _⟩ s.heap [] _ hP va_S.rf hl
theorem run_on {p : Program} {e : Env} {R : Room} {s : State} {m : MethodId} {args : Array Value} {below : List Frame} {meth : Method} {c : Code} {H : Heap} {locs : List Loc} {cells slots : Nat} {Qf : State → Prop} {lsA : Array Slot} {A : Nat → Prop} {H0 : Heap} {av : Array Value} {st0 rest : List Value} {Q' : Option MV → Sto → Prop}
    (hr : va_Run p l e R s m args below meth c H locs cells slots 0 0 (F0 m pc lsA st0) rest (QcO G Q' av) (AC G)) (hS : va_S A H0 H locs) (hA : ∀ q, AC G q → A q)
    (kk : ∀ (r : Option MV) (σ' : Sto) (H1 : Heap) (locs1 : List Loc), Q' r σ' → (∀ v, r = some v → okV v) → okS σ' → va_P (G.1, G.2.1) vwCl (wsC G σ') H1 → va_S A H0 H1 locs1 → W p l e R s m args below meth c H1 locs1 cells slots Qf (F0 m (pc + 3) lsA ((r.map (cv G.2.2.1)).toList ++ rest))) : W p l e R s m args below meth c H locs cells slots Qf (F0 m pc lsA st0) := by
  intro T hT X
  obtain ⟨v, st₀, t, T', L, h0, X', hL, e1, e2, ⟨⟨r, σ', hv, hq, hv2, hσ', hP'⟩, hz, hk⟩, st⟩ := hr T hT X
  cases hv
  rw [h0] at hz hk
  obtain ⟨t2, a1, b1⟩ := kk r σ' T'.heap (locs ++ L) hq hv2 hσ' (by rw [e1]; exact hP')
    ⟨Nat.le_trans hS.1 (by rw [e1]; exact hz), fun q h1 h2 => by rw [e1, hk q (Nat.lt_of_lt_of_le h1 hS.1) (fun z => h2 (hA q z))]; exact hS.2.1 q h1 h2, fun q hq => by
      rcases List.mem_append.mp hq with h | h
      · exact hS.2.2 q h
      · exact hA _ (hL q h)⟩ T' rfl X'
  exact ⟨t2, st t2 a1, b1⟩
theorem cat_sum (ad : Nat → Nat) : ∀ rest : List MV, ((rest.map (cv ad)).map fun v => v.category).sum = rsz rest
  | [] => rfl
  | v :: t => by
    rw [List.map_cons, List.map_cons, List.sum_cons, cat_sum ad t, cv_catx, rsz]
theorem back_ok {r : Option MV} {rest : List MV} (h1 : ∀ v, r = some v → okV v) (h2 : okL rest) : okL (r.toList ++ rest) := by
  cases r with
  | none => exact h2
  | some v => exact okL_cons (h1 v rfl) h2
theorem back_map (ad : Nat → Nat) (r : Option MV) (rest : List MV) : (r.map (cv ad)).toList ++ rest.map (cv ad) = (r.toList ++ rest).map (cv ad) := by
  cases r <;> rfl
theorem r_callV {M' : MI} {n idx k ci N : Nat} {T : u_T} {fs : List (Option Nat)} (as rest : List MV) {Q' : Option MV → Sto → Prop} (hd : decode M.2.1 pc = .ok (.invokevirtual idx, 3)) (hM' : MOK M' n) (hiv : Cond.instanceMethod M'.1 ∈ tbG) (hse : Cond.selects M'.1.cls M'.1 M'.1 ∈ tbG) (hlk : Cond.methodLink M.1.cls idx M'.1 ∈ tbG) (hn : as.length = n) (hst : as.reverse ++ vR k :: rest = st)
    (hsh : shp k = .inr (.inr (ci, fs))) (hcl : vwCl[ci]? = some (M'.1.cls, T, N)) (hroom : as.length + 1 ≤ M'.2.2.1 ∧ M'.2.2.2.2.1 + 1 ≤ M.2.2.2.2.1 ∧ 8 + (M'.2.2.1 + 11) + M'.2.2.2.2.2 ≤ M.2.2.2.2.2 ∧ rsz rest ≤ 8) (hc : CL l G M' (vR k :: as) σ Q')
    (kk : ∀ r σ', Q' r σ' → MWF l G M F (pc + 3) ls (r.toList ++ rest) σ') (hj : noJ as = true := by rfl) : MWF l G M F pc ls st σ := by
  subst hst
  intro hσ hl hs p e R s m args below meth c A H0 cells slots Qf hF hC H locs lsA hP hS hls
  obtain ⟨hx, hb, hml, hown, hts, hK, hD, hfr, hlo, hce, hsl⟩ := id hC
  have hok : okL (vR k :: as) := okL_R (fun v hv => hs v (List.mem_append_left _ (List.mem_reverse.mpr hv)))
  have hokr : okL rest := fun v hv => hs v (List.mem_append_right _ (List.mem_cons_of_mem _ hv))
  have hm := met_of hM' hc hσ hok (by rw [List.length_cons]; exact hroom.1) (wsC_self hD) (by unfold noJ at hj ⊢; rw [List.all_cons, hj]; rfl)
  have hg := wsM_good hM'
  have cw : CallW R s args M.1.cls M'.1.cls idx M'.1 M'.2.1 M'.2.2.1 M'.2.2.2.1 (wsM M') (RM M') 0 0 n :=
    ⟨⟨rfl, rfl, Nat.le_trans hroom.2.1 hfr, Nat.le_trans hroom.2.2.1 hlo, pay_in hts hg, List.mem_cons_self, hts _ hM'.2.2.2.1, hts _ hM'.2.2.2.2, hM'.2.1, fun sig h => by
      have h2 := hM'.2.2.1
      rw [h] at h2
      exact (Option.some.inj h2).symm, hts _ hlk⟩, hts _ hiv, hts _ hse⟩
  have hrv := va_recv (q0 := pos k) hK hP hcl (show (wsC G σ)[pos k]? = some (G.2.2.1 k, .inr (ci, cF G.2.2.1 (σ k) 0 fs)) by rw [wsC_get G σ (shp_lt_o hsh), hsh]; rfl)
  refine run_on (va_runV (As := as.map (cv G.2.2.1)) (rest := rest.map (cv G.2.2.1)) (b := G.2.2.1 k) ⟨hx, hb, hml, hown, hts⟩ hm cw ⟨PcO_blind, hrv, fun U hU hW => ⟨rfl, by rw [hU]; exact hP, va_K.moved hW.alike hK⟩⟩ rfl (by rw [List.length_map]; exact hn) hls.1 (by show List.map (cv G.2.2.1) (as.reverse ++ vR k :: rest) = _; rw [List.map_append, List.map_reverse]; rfl) (lv_room (by rw [cat_sum]; exact hroom.2.2.2)) hd ⟨hce, hsl⟩) hS (wsC_A hD) (fun r σ' H1 locs1 hq hv hσ' hP1 hS1 => ?_)
  rw [back_map]
  exact kk r σ' hq hσ' hl (back_ok hv hokr) p e R s m args below meth c A H0 cells slots Qf hF hC H1 locs1 lsA hP1 hS1 hls
theorem r_callS {M' : MI} {n idx : Nat} (as rest : List MV) {Q' : Option MV → Sto → Prop} (hd : decode M.2.1 pc = .ok (.invokestatic idx, 3)) (hM' : MOK M' n) (hsw : Cond.static M'.1 ∈ tbG) (hlk : Cond.methodLink M.1.cls idx M'.1 ∈ tbG) (hn : as.length = n) (hst : as.reverse ++ rest = st)
    (hroom : as.length ≤ M'.2.2.1 ∧ M'.2.2.2.2.1 + 1 ≤ M.2.2.2.2.1 ∧ 8 + (M'.2.2.1 + 11) + M'.2.2.2.2.2 ≤ M.2.2.2.2.2 ∧ rsz rest ≤ 8) (hc : CL l G M' as σ Q')
    (kk : ∀ r σ', Q' r σ' → MWF l G M F (pc + 3) ls (r.toList ++ rest) σ') (hj : noJ as = true := by rfl) : MWF l G M F pc ls st σ := by
  subst hst
  intro hσ hl hs p e R s m args below meth c A H0 cells slots Qf hF hC H locs lsA hP hS hls
  obtain ⟨hx, hb, hml, hown, hts, hK, hD, hfr, hlo, hce, hsl⟩ := id hC
  have hok : okL as := fun v hv => hs v (List.mem_append_left _ (List.mem_reverse.mpr hv))
  have hokr : okL rest := fun v hv => hs v (List.mem_append_right _ hv)
  have hm := met_of hM' hc hσ hok hroom.1 (wsC_self hD) hj
  have hg := wsM_good hM'
  have cw : CallB R s args M.1.cls idx M'.1 M'.2.1 M'.2.2.1 M'.2.2.2.1 (wsM M') (RM M') 0 0 n ∧ (Cond.static M'.1).before args s = true :=
    ⟨⟨rfl, rfl, Nat.le_trans hroom.2.1 hfr, Nat.le_trans hroom.2.2.1 hlo, pay_in hts hg, List.mem_cons_self, hts _ hM'.2.2.2.1, hts _ hM'.2.2.2.2, hM'.2.1, fun sig h => by
      have h2 := hM'.2.2.1
      rw [h] at h2
      exact (Option.some.inj h2).symm, hts _ hlk⟩, hts _ hsw⟩
  refine run_on (va_runS (As := as.map (cv G.2.2.1)) (rest := rest.map (cv G.2.2.1)) ⟨hx, hb, hml, hown, hts⟩ hm cw ⟨PcO_blind, fun U hU hW => ⟨rfl, by rw [hU]; exact hP, va_K.moved hW.alike hK⟩⟩ rfl (by rw [List.length_map]; exact hn) hls.1 (by show List.map (cv G.2.2.1) (as.reverse ++ rest) = _; rw [List.map_append, List.map_reverse]) (lv_room (by rw [cat_sum]; exact hroom.2.2.2)) hd ⟨hce, hsl⟩) hS (wsC_A hD) (fun r σ' H1 locs1 hq hv hσ' hP1 hS1 => ?_)
  rw [back_map]
  exact kk r σ' hq hσ' hl (back_ok hv hokr) p e R s m args below meth c A H0 cells slots Qf hF hC H1 locs1 lsA hP1 hS1 hls
def CLi (l : Launch) (G : GT) (M : MI) (args : List MV) (σ : Sto) (Q : Int → Sto → Prop) : Prop := CL l G M args σ (fun r σ' => ∃ x, r = some (vI x) ∧ Q x σ')
def CLv (l : Launch) (G : GT) (M : MI) (args : List MV) (σ : Sto) (Q : Sto → Prop) : Prop := CL l G M args σ (fun r σ' => r = none ∧ Q σ')
def CLr (l : Launch) (G : GT) (M : MI) (args : List MV) (σ : Sto) (Q : Nat → Sto → Prop) : Prop := CL l G M args σ (fun r σ' => ∃ x, r = some (vR x) ∧ Q x σ')
def CLj (l : Launch) (G : GT) (M : MI) (args : List MV) (σ : Sto) (Q : Int64 → Sto → Prop) : Prop := CL l G M args σ (fun r σ' => ∃ x, r = some (vJ x) ∧ Q x σ')
theorem CLi.mono {args : List MV} {Q Q' : Int → Sto → Prop} (kk : CLi l G M args σ Q) (h : ∀ r σ, Q r σ → Q' r σ) : CLi l G M args σ Q' := CL.mono (fun _ _ ⟨x, e, q⟩ => ⟨x, e, h _ _ q⟩) kk
theorem CLv.mono {args : List MV} {Q Q' : Sto → Prop} (kk : CLv l G M args σ Q) (h : ∀ σ, Q σ → Q' σ) : CLv l G M args σ Q' := CL.mono (fun _ _ ⟨e, q⟩ => ⟨e, h _ q⟩) kk
theorem CLr.mono {args : List MV} {Q Q' : Nat → Sto → Prop} (kk : CLr l G M args σ Q) (h : ∀ r σ, Q r σ → Q' r σ) : CLr l G M args σ Q' := CL.mono (fun _ _ ⟨x, e, q⟩ => ⟨x, e, h _ _ q⟩) kk
theorem r_tableIn {dflt lo hi off : Int} {offs : Array Int} {len tgt : Nat} {x : Int} (hd : decode M.2.1 pc = .ok (.tableswitch dflt lo hi offs, len)) (h1 : lo ≤ x) (h2 : x ≤ hi) (ho : offs[(x - lo).toNat]? = some off) (ht : (pc : Int) + off = (tgt : Int)) (kk : MWF l G M F tgt ls st σ) : MWF l G M F pc ls (vI x :: st) σ :=
  MWF.go (fun _ h => okL_tl h) (fun hs hx hb _ _ _ k => lv_tableIn hx hb hd (by rw [oI_T (okL_hd hs)]; omega) (by rw [oI_T (okL_hd hs)]; omega) (by rw [oI_T (okL_hd hs)]; exact ho) ht k) kk
theorem r_tableOut {dflt lo hi : Int} {offs : Array Int} {len tgt : Nat} {x : Int} (hd : decode M.2.1 pc = .ok (.tableswitch dflt lo hi offs, len)) (h : x < lo ∨ hi < x) (ht : (pc : Int) + dflt = (tgt : Int)) (kk : MWF l G M F tgt ls st σ) : MWF l G M F pc ls (vI x :: st) σ :=
  MWF.go (fun _ h => okL_tl h) (fun hs hx hb _ _ _ k => lv_tableOut hx hb hd (by rw [oI_T (okL_hd hs)]; exact h) ht k) kk
theorem nn_of {z : Int} (h : okV (vI z)) (h0 : 0 ≤ z) : ¬ Int32.ofInt z < 0 := by rw [oI_0, oI_lt h ok_0]; omega
theorem r_copy {idx ks kd ns nd : Nat} {n : Int} (hd : decode M.2.1 pc = .ok (.invokestatic idx, 3)) (hlk : Cond.methodLink M.1.cls idx arraycopyName ∈ tbG) (hw : Cond.native arraycopyName ∈ tbG ∧ Cond.static arraycopyName ∈ tbG ∧ Cond.initialized "java/lang/System" ∈ tbG) (hss : shp ks = .inl ns) (hsd : shp kd = .inl nd) (h0 : 0 ≤ n) (h1 : n ≤ ns) (h2 : n ≤ nd) (hroom : 1 ≤ M.2.2.2.2.1 ∧ rsz st + 18 ≤ M.2.2.2.2.2)
    (kk : MWF l G M F (pc + 3) ls st (cpS σ ks kd n.toNat)) : MWF l G M F pc ls (vI n :: vI 0 :: vR kd :: vI 0 :: vR ks :: st) σ := by
  intro hσ hl hs p e R s m args below meth c A H0 cells slots Qf hF hC H locs lsA hP hS hls
  obtain ⟨hx, hb, hml, hown, hts, hK, hD, hfr, hlo, hce, hsl⟩ := id hC
  have hz : (Int32.ofInt 0).toNatClampNeg = 0 := by decide
  have hn : okV (vI n) := okL_hd hs
  refine va_copyi (D := (G.1, G.2.1)) (ty := .int) (f := fun j => Int32.ofInt (σ ks j)) (g := fun j => Int32.ofInt (σ kd j)) hx hb (hml.trans hls.1.symm) hown (hts _ hlk) (hts _ hw.1) (hts _ hw.2.1) (hts _ hw.2.2) hK hP (wsC_D σ hD) hS (pos ks) (pos kd) 0 0 (c0 := G.2.2.2.1 0) (c1 := G.2.2.2.1 0) (n0 := ns) (n1 := nd) (by rw [wsC_get G σ (shp_lt_a hss), hss]; rfl) (by rw [wsC_get G σ (shp_lt_a hsd), hsd]; rfl) rfl rfl rfl (by decide) (by decide) (nn_of hn h0) (by rw [hz, oI_N hn]; omega) (by rw [hz, oI_N hn]; omega) (fun _ _ => rfl) (Nat.le_trans hroom.1 hfr) (by rw [cat_sum]; exact Nat.le_trans (by exact hroom.2) hlo) hd (fun H1 locs1 hP1 hD1 hS1 => ?_)
  rw [hz, oI_N hn] at hP1
  have eS : (wsC G σ).set (pos kd) (G.2.2.1 kd, .inl (G.2.2.2.1 0, nd, .inl (va_cpy (fun j => Int32.ofInt (σ ks j)) (fun j => Int32.ofInt (σ kd j)) 0 0 n.toNat))) = wsC G (cpS σ ks kd n.toNat) := by
    rw [← wsC_set G σ (cpS σ ks kd n.toNat) (shp_lt_a hsd) (fun k' h => by funext i; simp [cpS, h]), hsd]
    show _ = (wsC G σ).set (pos kd) (_, .inl (G.2.2.2.1 0, nd, .inl (fun i => Int32.ofInt (cpS σ ks kd n.toNat kd i))))
    have e : va_cpy (fun j => Int32.ofInt (σ ks j)) (fun j => Int32.ofInt (σ kd j)) 0 0 n.toNat = (fun i => Int32.ofInt (cpS σ ks kd n.toNat kd i)) := by
      funext i
      by_cases h : i < n.toNat
      · rw [pk_cpy_in (Nat.zero_le _) (by omega)]; simp [cpS, h]
      · rw [pk_cpy_out (Or.inr (by omega))]; simp [cpS, h]
    rw [e]
  rw [eS] at hP1
  exact kk (okS_cp hσ) hl (okL_tl (okL_tl (okL_tl (okL_tl (okL_tl hs))))) p e R s m args below meth c A H0 cells slots Qf hF hC H1 locs1 lsA hP1 hS1 hls
theorem r_abs {idx : Nat} {x : Int} (hd : decode M.2.1 pc = .ok (.invokestatic idx, 3)) (hlk : Cond.methodLink M.1.cls idx Lib.Math.abs.name ∈ tbG) (hw : Cond.static Lib.Math.abs.name ∈ tbG ∧ Cond.initialized "java/lang/Math" ∈ tbG ∧ Cond.code Lib.Math.abs.name Lib.Math.abs.code 1 (some .int) ∈ tbG) (hroom : 1 ≤ M.2.2.2.2.1 ∧ rsz st + 13 ≤ M.2.2.2.2.2) (hr : -2147483648 ≤ 0 - x ∧ 0 - x ≤ 2147483647)
    (kk : MWF l G M F (pc + 3) ls (vI (if 0 ≤ x then x else 0 - x) :: st) σ) : MWF l G M F pc ls (vI x :: st) σ := by
  intro hσ hl hs p e R s m args below meth c A H0 cells slots Qf hF hC H locs lsA hP hS hls
  obtain ⟨hx, hb, hml, hown, hts, hK, hD, hfr, hlo, hce, hsl⟩ := id hC
  have h1 : okV (vI x) := okL_hd hs
  refine va_mabs hx hb (hml.trans hls.1.symm) hown (hts _ hlk) (hts _ hw.1) (hts _ hw.2.1) (hts _ hw.2.2) (Nat.le_trans hroom.1 hfr) (by rw [cat_sum]; exact Nat.le_trans hroom.2 hlo) hce hsl hd ?_
  have eA : (if 0 ≤ Int32.ofInt x then Int32.ofInt x else 0 - Int32.ofInt x) = Int32.ofInt (if 0 ≤ x then x else 0 - x) := by
    have hc : (0 ≤ Int32.ofInt x) ↔ 0 ≤ x := by rw [oI_0, oI_le ok_0 h1]
    by_cases h : 0 ≤ x
    · rw [if_pos h, if_pos (hc.mpr h)]
    · rw [if_neg h, if_neg (fun q => h (hc.mp q)), Int32.ofInt_sub]; rfl
  rw [eA]
  refine kk hσ hl (okL_I ?_ (okL_tl hs)) p e R s m args below meth c A H0 cells slots Qf hF hC H locs lsA hP hS hls
  split
  · exact h1
  · exact hr
end MROWS2
