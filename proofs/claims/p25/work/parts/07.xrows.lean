abbrev MWj (l : Launch) (G : GT) (M : MI) (pc : Nat) (ls : List (Nat × MV)) (st : List MV) (σ : Sto) (Q : Int64 → Sto → Prop) : Prop := MW l G M pc ls st σ (fun r σ' => ∃ x, r = some (vJ x) ∧ Q x σ')
def lcI (x y : Int64) : Int := (lg_cmp x y).toInt
theorem lcI_0 {x y : Int64} : lcI x y = 0 ↔ x = y := by
  unfold lcI lg_cmp
  by_cases h : x > y
  · rw [if_pos h]
    refine ⟨fun q => absurd q (by decide), fun q => ?_⟩
    subst q
    exact absurd h (Int64.lt_irrefl)
  · rw [if_neg h]
    by_cases h2 : x = y
    · rw [if_pos h2]; exact ⟨fun _ => h2, fun _ => by decide⟩
    · rw [if_neg h2]; exact ⟨fun q => absurd q (by decide), fun q => absurd q h2⟩
def shR (x : Sh) : List Nat := match x with
  | .inl _ => []
  | .inr (.inl (_, l)) => l
  | .inr (.inr (_, fs)) => fs.filterMap (fun o => o)
theorem cF_ad {ad ad' : Nat → Nat} {f : Nat → Int} : ∀ (fs : List (Option Nat)) (j : Nat), (∀ r, r ∈ fs.filterMap (fun o => o) → ad' r = ad r) → cF ad' f j fs = cF ad f j fs
  | [], _, _ => rfl
  | none :: t, j, h => by
    rw [cF, cF, cF_ad t (j + 1) (fun r hr => h r (by simpa using hr))]
  | some r :: t, j, h => by
    rw [cF, cF, cF_ad t (j + 1) (fun r hr => h r (by simp at hr ⊢; exact Or.inr hr)), h r (by simp)]
theorem cE_ad {ad ad' : Nat → Nat} {cA : Nat → ClassId} {f : Nat → Int} (x : Sh) (h : ∀ r, r ∈ shR x → ad' r = ad r) : cE ad' cA f x = cE ad cA f x := by
  rcases x with n | ⟨t, l⟩ | ⟨ci, fs⟩
  · rfl
  · show Sum.inl _ = Sum.inl _
    have e : (fun j : Nat => (l[j]?).map ad') = (fun j : Nat => (l[j]?).map ad) := by
      funext j
      cases q : l[j]? with
      | none => rfl
      | some r =>
        show some (ad' r) = some (ad r)
        rw [h r (List.mem_of_getElem? q)]
    rw [e]
  · show Sum.inr _ = Sum.inr _
    rw [cF_ad fs 0 h]
theorem shR_b : ∀ y ∈ shL, ∀ r ∈ shR y, r < 57 ∨ 74 ≤ r := by decide +kernel
theorem shR_x {k r : Nat} (h : r ∈ shR (shp k)) : r < 57 ∨ 74 ≤ r := by
  unfold shp at h
  rw [List.getD_eq_getElem?_getD] at h
  cases e : shL[k]? with
  | none => rw [e] at h; exact absurd h List.not_mem_nil
  | some y => rw [e] at h; exact shR_b y (List.mem_of_getElem? e) r h
def gX (G : GT) (x q : Nat) : GT := (G.1, G.2.1, (fun k => if k = x then q else G.2.2.1 k), G.2.2.2.1, x)
def zS (σ : Sto) (x : Nat) : Sto := fun k i => if k = x then 0 else σ k i
def xR (x : Nat) : Prop := 57 ≤ x ∧ x < 74
def gR (G0 G : GT) : Prop := G0.2.2.2.2 = 0 ∧ ∃ x q, xR x ∧ G = gX G0 x q
theorem gR_X {G : GT} (h : G.2.2.2.2 = 0) {x q : Nat} (hx : 57 ≤ x ∧ x < 74) : gR G (gX G x q) := ⟨h, x, q, hx, rfl⟩
theorem cL_0 : cellsL 0 = bL := by unfold cellsL xL; rw [if_neg (by decide), List.append_nil]
theorem cL_1 {x : Nat} (h : 57 ≤ x ∧ x < 74) : cellsL x = bL ++ [x] := by unfold cellsL xL; rw [if_pos h]
theorem bL_bas {k : Nat} (h : k ∈ bL) : bas k := by
  obtain ⟨j, hj⟩ := List.getElem?_of_mem h
  exact (bL_inv hj).1
theorem cE_gX {G : GT} {x q k : Nat} {f g : Nat → Int} (hx : 57 ≤ x ∧ x < 74) (hk : bas k) (hf : f = g) : ((gX G x q).2.2.1 k, cE (gX G x q).2.2.1 (gX G x q).2.2.2.1 f (shq k)) = (G.2.2.1 k, cE G.2.2.1 G.2.2.2.1 g (shq k)) := by
  subst hf
  have e1 : (gX G x q).2.2.1 k = G.2.2.1 k := by
    show (if k = x then q else G.2.2.1 k) = G.2.2.1 k
    rw [if_neg (by unfold bas at hk; omega)]
  rw [e1, shq_b hk]
  show (_, cE (gX G x q).2.2.1 G.2.2.2.1 f (shp k)) = _
  rw [cE_ad (ad := G.2.2.1) (shp k) (fun r hr => ?_)]
  show (if r = x then q else G.2.2.1 r) = G.2.2.1 r
  rw [if_neg (by have := shR_x hr; omega)]
theorem wsC_gX {G : GT} (hx0 : G.2.2.2.2 = 0) {x q : Nat} (hx : 57 ≤ x ∧ x < 74) {σ σ' : Sto} (h : ∀ k, bas k → σ' k = σ k) : wsC (gX G x q) σ' = wsC G σ ++ [(q, cE G.2.2.1 G.2.2.2.1 (σ' x) (shq x))] := by
  unfold wsC
  show (cellsL x).map _ = (cellsL G.2.2.2.2).map _ ++ _
  rw [hx0, cL_0, cL_1 hx, List.map_append]
  congr 1
  · exact List.map_congr_left fun k hk => cE_gX hx (bL_bas hk) (h k (bL_bas hk))
  · show [((gX G x q).2.2.1 x, cE (gX G x q).2.2.1 G.2.2.2.1 (σ' x) (shq x))] = _
    have e1 : (gX G x q).2.2.1 x = q := by
      show (if x = x then q else G.2.2.1 x) = q
      rw [if_pos rfl]
    rw [e1]
    have e2 : cE (gX G x q).2.2.1 G.2.2.2.1 (σ' x) (shq x) = cE G.2.2.1 G.2.2.2.1 (σ' x) (shq x) := by
      refine cE_ad _ (fun r hr => ?_)
      show (if r = x then q else G.2.2.1 r) = G.2.2.1 r
      unfold shq at hr
      split at hr
      · exact absurd hr List.not_mem_nil
      · split at hr
        · exact absurd hr List.not_mem_nil
        · rw [if_neg (by have := shR_x hr; omega)]
    rw [e2]
theorem wsC_P0 {G0 G : GT} (h : gR G0 G) {σ : Sto} {H : Heap} (hP : va_P (G.1, G.2.1) vwCl (wsC G σ) H) : va_P (G0.1, G0.2.1) vwCl (wsC G0 σ) H := by
  obtain ⟨h0, x, q, hx, rfl⟩ := h
  rw [wsC_gX h0 hx (σ := σ) (fun _ _ => rfl)] at hP
  intro k y hk
  refine hP k y ?_
  rw [List.getElem?_append_left (List.getElem?_eq_some_iff.mp hk).1]
  exact hk
theorem AC_gX {G : GT} (hx0 : G.2.2.2.2 = 0) {x q : Nat} (hx : 57 ≤ x ∧ x < 74) {a : Nat} (h : AC G a) : AC (gX G x q) a := by
  obtain ⟨k, hk, rfl⟩ := h
  rw [hx0, cL_0] at hk
  refine ⟨k, ?_, ?_⟩
  · show k ∈ cellsL x
    rw [cL_1 hx]
    exact List.mem_append_left _ hk
  · show G.2.2.1 k = if k = x then q else G.2.2.1 k
    rw [if_neg (by have := bL_bas hk; unfold bas at this; omega)]
def RX (M : MI) (N : Nat) : Room := { frames := M.2.2.2.2.1, cells := 1, slots := N, locals := M.2.2.2.2.2 }
def AX (G : GT) (sz : Nat) : Nat → Prop := fun q => AC G q ∨ sz ≤ q
def FinX (G0 : GT) (M : MI) (N sz : Nat) (Q : Option MV → Sto → Prop) (c n : Nat) : FT := fun _ _ R s _ args below meth _ A H0 cells slots Qf => R = RX M N ∧ meth.sig.returnType = M.2.2.2.1 ∧ meth.locks = false ∧ A = AX G0 sz ∧ s.heap.size = sz ∧ H0 = s.heap ∧ cells = c ∧ slots = n ∧ Qf = MQ below (QcO G0 Q) args s 1 N (AX G0 sz)
abbrev MXi (l : Launch) (G0 G : GT) (M : MI) (N sz c n pc : Nat) (ls : List (Nat × MV)) (st : List MV) (σ : Sto) (Q : Int → Sto → Prop) : Prop := MWF l G M (FinX G0 M N sz (fun r σ' => ∃ x, r = some (vI x) ∧ Q x σ') c n) pc ls st σ
def nX (x : Nat) (l : List MV) : Bool := l.all (fun v => match v with
  | .inl _ => true
  | .inr (.inl k) => !(k == x)
  | .inr (.inr _) => true)
theorem cv_gX {G : GT} {x q : Nat} : ∀ {l : List MV}, nX x l = true → l.map (cv (gX G x q).2.2.1) = l.map (cv G.2.2.1)
  | [], _ => rfl
  | v :: t, h => by
    unfold nX at h
    rw [List.all_cons, Bool.and_eq_true_iff] at h
    rw [List.map_cons, List.map_cons, cv_gX (l := t) h.2]
    congr 1
    rcases v with z | k | z
    · rfl
    · show Value.ref (if k = x then q else G.2.2.1 k) = Value.ref (G.2.2.1 k)
      have h1 := h.1
      rw [if_neg (fun e => by subst e; simp at h1)]
    · rfl
theorem cvp_gX {G : GT} {x q : Nat} {l : List (Nat × MV)} (h : nX x (l.map (·.2)) = true) : l.map (cvp (gX G x q).2.2.1) = l.map (cvp G.2.2.1) := by
  apply List.ext_getElem?
  intro i
  have h2 := congrArg (fun z => z[i]?) (cv_gX (G := G) (q := q) h)
  simp only [List.getElem?_map] at h2 ⊢
  cases e : l[i]? with
  | none => rfl
  | some y =>
    rw [e] at h2
    have h3 := Option.some.inj h2
    show some (y.1, cv (gX G x q).2.2.1 y.2) = some (y.1, cv G.2.2.1 y.2)
    rw [h3]
theorem w_arr : Cond.arrayClass .int ∈ tbG := List.mem_filter.mpr ⟨by decide +kernel, by decide +kernel⟩
section XROWS
variable {l : Launch} {G : GT} {M : MI} {F : FT} {pc : Nat} {ls : List (Nat × MV)} {st : List MV} {σ : Sto}
theorem CLj.mono {args : List MV} {Q Q' : Int64 → Sto → Prop} (kk : CLj l G M args σ Q) (h : ∀ r σ, Q r σ → Q' r σ) : CLj l G M args σ Q' := CL.mono (fun _ _ ⟨x, e, q⟩ => ⟨x, e, h _ _ q⟩) kk
theorem r_lcmp {x y : Int64} (hd : decode M.2.1 pc = .ok (.lcmp, 1)) (kk : MWF l G M F (pc + 1) ls (vI (lcI x y) :: st) σ) : MWF l G M F pc ls (vJ y :: vJ x :: st) σ :=
  MWF.go (fun _ h => okL_cons (ok_i32 _) (okL_tl (okL_tl h))) (fun _ hx hb _ _ _ k => W.lcmp hx hb hd (by
    have ev : Value.int (lg_cmp x y) = cv G.2.2.1 (vI (lcI x y)) := by
      show Value.int _ = Value.int (Int32.ofInt (lg_cmp x y).toInt)
      rw [Int32.ofInt_toInt]
    rw [ev]; exact k)) kk
theorem r_newX {x N sz : Nat} {z : Int} {Q : Option MV → Sto → Prop} (hx0 : G.2.2.2.2 = 0) (hd : decode M.2.1 pc = .ok (.newarray .int, 2)) (hz : z = (N : Int)) (hx : (57 ≤ x ∧ x < 74) ∧ N ≤ 1000) (hsh : shq x = .inl N) (hl1 : nX x (ls.map (·.2)) = true) (hs1 : nX x st = true)
    (kk : ∀ q, MWF l (gX G x q) M (FinX G M N sz Q 1 N) (pc + 2) ls (vR x :: st) (zS σ x)) : MWF l G M (FinX G M N sz Q 0 0) pc ls (vI z :: st) σ := by
  subst hz
  intro hσ hl hs p e R s m args below meth c A H0 cells slots Qf hF hC H locs lsA hP hS hls
  obtain ⟨hxx, hb, hml, hown, hts, hK, hD, hfr, hlo, hce, hsl⟩ := id hC
  obtain ⟨rfl, hr, hlk, rfl, hsz, rfl, rfl, rfl, rfl⟩ := hF
  have oz : okV (vI (N : Int)) := okL_hd hs
  refine va_newa (atype := .int) (ty := .int) (a0 := (N, .inl (fun _ => Int32.ofInt 0))) hxx hb (hts _ w_arr) rfl hK hP (wsC_D σ hD) hS (fun q hq => Or.inr (by omega)) (fun cA => by rw [vp_cell_i]; rfl) (nn_of oz (by omega)) (N' := N) (by rw [oI_N oz]; omega) (by show N * 4 ≤ 536870912; omega) (by show 0 + 1 ≤ 1; omega) (by show 0 + N ≤ N; omega) hd (fun q cA H1 hK1 hP1 hD1 hS1 => ?_)
  have ec : cA = G.2.2.2.1 0 := by
    have h1 := (hK1.2 (tyC G).length (cA, .int) (by rw [List.getElem?_append_right (Nat.le_refl _), Nat.sub_self]; rfl)).2
    have h2 := (hK.2 0 (G.2.2.2.1 0, .int) rfl).2
    exact Option.some.inj (h1.symm.trans h2)
  subst ec
  have ew : ∀ σ2 : Sto, (∀ k, bas k → σ2 k = σ k) → σ2 x = (fun _ => 0) → wsC (gX G x q) σ2 = wsC G σ ++ [(q, .inl (G.2.2.2.1 0, N, .inl (fun _ => Int32.ofInt 0)))] := fun σ2 h1 h2 => by
    rw [wsC_gX hx0 hx.1 h1, hsh, h2]
    rfl
  have ez : wsC (gX G x q) (zS σ x) = wsC G σ ++ [(q, .inl (G.2.2.2.1 0, N, .inl (fun _ => Int32.ofInt 0)))] := ew _ (fun k hk => by
    funext i
    show (if k = x then 0 else σ k i) = σ k i
    rw [if_neg (by unfold bas at hk; omega)]) (by funext i; show (if x = x then (0 : Int) else _) = 0; rw [if_pos rfl])
  have k2 := kk q (fun k i => by
    show -2147483648 ≤ (if k = x then (0 : Int) else σ k i) ∧ (if k = x then (0 : Int) else σ k i) ≤ 2147483647
    split
    · omega
    · exact hσ k i) hl (okL_R (okL_tl hs)) p e (RX M N) s m args below meth c (AX G sz) s.heap (0 + 1) (0 + N) _ ⟨rfl, hr, hlk, rfl, hsz, rfl, rfl, Nat.zero_add N, rfl⟩
    ⟨hxx, hb, hml, hown, hts, hK, wsC_D σ0 (by rw [ez]; exact hD1), hfr, hlo, Nat.le_refl _, by show 0 + N ≤ N; omega⟩ H1 locs lsA (by rw [ez]; exact hP1) hS1 (by rw [cvp_gX hl1]; exact hls)
  have e2 : (vR x :: st).map (cv (gX G x q).2.2.1) = .ref q :: st.map (cv G.2.2.1) := by
    rw [List.map_cons, cv_gX hs1]
    congr 1
    show Value.ref (if x = x then q else G.2.2.1 x) = Value.ref q
    rw [if_pos rfl]
  rw [e2] at k2
  exact k2
theorem r_xald {x n : Nat} {i : Int} (hx : G.2.2.2.2 = x) (hd : decode M.2.1 pc = .ok (.iaload, 1)) (hn : shq x = .inl n) (h0 : 0 ≤ i) (hi : i < n) (kk : MWF l G M F (pc + 1) ls (vI (σ x i.toNat) :: st) σ) (hr : 57 ≤ x ∧ x < 74 := by decide) : MWF l G M F pc ls (vI i :: vR x :: st) σ := by
  intro hσ hl hs p e R s m args below meth c A H0 cells slots Qf hF hC H locs lsA hP hS hls
  obtain ⟨hxx, hb, hml, hown, hts, hK, hD, hfr, hlo, hce, hsl⟩ := id hC
  refine va_iald (D := (G.1, G.2.1)) (n := n) (f := fun j => Int32.ofInt (σ x j)) (cA := G.2.2.2.1 0) hxx hb hK hP 211 0 (by rw [wsC_at G σ (k := x) (by rw [hx]; exact cL_x hr), hn]; rfl) rfl (oI_vp (okL_hd hs) h0 hi) hd ?_
  refine W.eq (g2 := F0 m (pc + 1) lsA (.int (Int32.ofInt (σ x i.toNat)) :: st.map (cv G.2.2.1))) (by rw [oI_N (okL_hd hs)]) ?_
  exact kk hσ hl (okL_I (hσ x i.toNat) (okL_tl (okL_tl hs))) p e R s m args below meth c A H0 cells slots Qf hF hC H locs lsA hP hS hls
theorem set_x {x n j : Nat} {z : Int} (hx : G.2.2.2.2 = x) (hr : 57 ≤ x ∧ x < 74) (hn : shq x = .inl n) : (wsC G σ).set 211 (G.2.2.1 x, .inl (G.2.2.2.1 0, n, .inl (upd (fun i => Int32.ofInt (σ x i)) j (Int32.ofInt z)))) = wsC G (stS σ x j z) := by
  rw [← wsC_setx G σ (stS σ x j z) (k := x) (j := 211) (by rw [hx]; exact cL_x hr) (fun k' h => by funext i; simp [stS, h]), hn]
  show _ = (wsC G σ).set 211 (_, .inl (G.2.2.2.1 0, n, .inl (fun i => Int32.ofInt (stS σ x j z x i))))
  have e : upd (fun i => Int32.ofInt (σ x i)) j (Int32.ofInt z) = (fun i => Int32.ofInt (stS σ x j z x i)) := by
    funext i
    by_cases h : i = j
    · subst h; simp [upd, stS]
    · simp [upd, stS, h]
  rw [e]
theorem r_xast {x n : Nat} {i z : Int} (hx : G.2.2.2.2 = x) (hd : decode M.2.1 pc = .ok (.iastore, 1)) (hn : shq x = .inl n) (h0 : 0 ≤ i) (hi : i < n) (kk : MWF l G M F (pc + 1) ls st (stS σ x i.toNat z)) (hr : 57 ≤ x ∧ x < 74 := by decide) : MWF l G M F pc ls (vI z :: vI i :: vR x :: st) σ := by
  intro hσ hl hs p e R s m args below meth c A H0 cells slots Qf hF hC H locs lsA hP hS hls
  obtain ⟨hxx, hb, hml, hown, hts, hK, hD, hfr, hlo, hce, hsl⟩ := id hC
  have hok : okV (vI i) := okL_hd (okL_tl hs)
  refine va_iast (D := (G.1, G.2.1)) (n := n) (f := fun j => Int32.ofInt (σ x j)) (cA := G.2.2.2.1 0) hxx hb hK hP (wsC_D σ hD) hS 211 0 (by rw [wsC_at G σ (k := x) (by rw [hx]; exact cL_x hr), hn]; rfl) rfl (oI_vp hok h0 hi) hd (fun H1 locs1 hP1 hD1 hS1 => ?_)
  rw [oI_N hok, set_x hx hr hn] at hP1
  exact kk (okS_st hσ (okL_hd hs)) hl (okL_tl (okL_tl (okL_tl hs))) p e R s m args below meth c A H0 cells slots Qf hF hC H1 locs1 lsA hP1 hS1 hls
theorem r_zretX {G0 : GT} {N sz : Nat} {x : Int} {Q : Option MV → Sto → Prop} (hg : gR G0 G) (hd : decode M.2.1 pc = .ok (.ireturn, 1)) (hty : M.2.2.2.1 = some .boolean) (h01 : x = 0 ∨ x = 1) (h : Q (some (vI x)) σ) : MWF l G M (FinX G0 M N sz Q 1 N) pc ls [vI x] σ := by
  intro hσ hl hs p e R s m args below meth c A H0 cells slots Qf hF hC H locs lsA hP hS hls
  obtain ⟨hx, hb, hml, hown, hts, hK, hD, hfr, hlo, hce, hsl⟩ := id hC
  obtain ⟨rfl, hr, hlk, rfl, hsz, rfl, rfl, rfl, rfl⟩ := hF
  exact W.zret hx hb (hr.trans hty) (by rcases h01 with rfl | rfl <;> decide) (fun t ht hW => ⟨⟨some (vI x), σ, rfl, h, fun v hv => by cases hv; exact okL_hd hs, hσ, by rw [ht]; exact wsC_P0 hg hP⟩, by
    obtain ⟨f1, f2⟩ := hS.F (s := s) ht
    exact ⟨f1, fun q h1 h2 => f2 q h1 (fun z => by rcases z with z | z; exact h2 z; omega)⟩⟩) (fun q hq => hS.2.2 q hq) hd hlk
def CLX (l : Launch) (G : GT) (M : MI) (N : Nat) (args : List MV) (σ : Sto) (Q : Int → Sto → Prop) : Prop := ∀ sz, MXi l G G M N sz 0 0 0 (lsO 0 args) [] σ Q
theorem FinX_mono {G0 : GT} {N sz a b : Nat} {Q Q' : Option MV → Sto → Prop} (h : ∀ r σ, Q r σ → Q' r σ) (kk : MWF l G M (FinX G0 M N sz Q a b) pc ls st σ) : MWF l G M (FinX G0 M N sz Q' a b) pc ls st σ := by
  intro hσ hl hs p e R s m args below meth c A H0 cells slots Qf hF hC H locs lsA hP hS hls T hT X
  obtain ⟨rfl, hr, hlk, rfl, hsz, rfl, rfl, rfl, rfl⟩ := hF
  obtain ⟨t, y, o, h1, h2, ⟨⟨r, σ', e1, e2, e3⟩, e4⟩, h3⟩ := kk hσ hl hs p e _ s m args below meth c _ _ cells slots _ ⟨rfl, hr, hlk, rfl, hsz, rfl, rfl, rfl, rfl⟩ hC H locs lsA hP hS hls T hT X
  exact ⟨t, y, o, h1, h2, ⟨⟨r, σ', e1, h r σ' e2, e3⟩, e4⟩, h3⟩
def PcX (G : GT) (as : List MV) (σ : Sto) (sz : Nat) : Array Value → State → Prop := fun a U => PcO G as σ a U ∧ U.heap.size = sz
theorem PcX_blind {as : List MV} {sz : Nat} : FrameBlind (PcX G as σ sz) := fun a U g mk q => ⟨PcO_blind a U g mk q.1, q.2⟩
theorem metX_of {n N sz : Nat} {as : List MV} {Q : Option MV → Sto → Prop} (hM : MOK M n) (h : MWF l G M (FinX G M N sz Q 0 0) 0 (lsO 0 as) [] σ) (hσ : okS σ) (ha : okL as) (hlen : as.length ≤ M.2.2.1) (hD : va_D (AC G) (wsC G σ0)) (hj : noJ as = true) : Met l M.1 (wsM M) (RX M N) (PcX G as σ sz) (QcO G Q) 1 N (AX G sz) := by
  refine Met.ofW (cc := M.2.1) (maxL := M.2.2.1) (ret := M.2.2.2.1) hM.1 rfl ?_
  intro p e s m av below meth c s₁ B hml hv
  obtain ⟨⟨rfl, hP, hK⟩, hz⟩ := hv
  have hts : ∀ w ∈ tbG, w.before _ s = true := fun w hw => atoms_spec (ws := wsM M) B.pre w (List.mem_cons_of_mem _ hw)
  have hown : s.vm.findClass M.1.cls = some m.cls := findClass_of_methodNamed B.named
  rw [lg_entry_eq]
  have hl := lv_entry (as.map (cv G.2.2.1)) (n := M.2.2.1) (by rw [lg_len _ _ hj]; exact hlen)
  rw [lsO_args _ _ _ hj] at hl
  exact h hσ (by rw [lsO_ok]; exact ha) okL_nil p e (RX M N) s m _ below meth c (AX G sz) s.heap 0 0 _ ⟨rfl, B.returns, B.notSynchronized, rfl, hz, rfl, rfl, rfl, rfl⟩ ⟨B.exec, B.bytes, hml, hown, hts, hK, hD.weaken (fun _ _ _ h => Or.inl h), Nat.le_refl _, Nat.le_refl _, Nat.zero_le _, Nat.zero_le _⟩ s.heap [] _ hP va_S.rf hl
end XROWS

