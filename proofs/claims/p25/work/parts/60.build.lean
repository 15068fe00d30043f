abbrev BS : Type := Nat ⊕ ((Nat × List (Option Nat)) ⊕ (Nat × List (Option (Option Nat))))
abbrev BE : Type := (Nat → Int) × BS
def bV (ad : Nat → Nat) (f : Nat → Int) (j : Nat) (o : Option (Option Nat)) : Value := match o with
  | none => .int (Int32.ofInt (f j))
  | some none => .null
  | some (some r) => .ref (ad r)
def bF (ad : Nat → Nat) (f : Nat → Int) : Nat → List (Option (Option Nat)) → List Value
  | _, [] => []
  | j, o :: t => bV ad f j o :: bF ad f (j + 1) t
def bE (ad : Nat → Nat) (cA : Nat → ClassId) (x : BE) : va_E := match x.2 with
  | .inl n => .inl (cA 0, n, .inl (fun j => Int32.ofInt (x.1 j)))
  | .inr (.inl (t, l)) => .inl (cA t, l.length, .inr (.inr (.inr (.inr (fun j => ((l[j]?).bind id).map ad)))))
  | .inr (.inr (ci, fs)) => .inr (ci, bF ad x.1 0 fs)
def bR (x : BS) (r : Nat) : Prop := match x with
  | .inl _ => False
  | .inr (.inl (_, l)) => some r ∈ l
  | .inr (.inr (_, fs)) => some (some r) ∈ fs
theorem bF_len (ad : Nat → Nat) (f : Nat → Int) : ∀ (fs : List (Option (Option Nat))) (j : Nat), (bF ad f j fs).length = fs.length
  | [], _ => rfl
  | o :: t, j => by rw [bF, List.length_cons, List.length_cons, bF_len ad f t (j + 1)]
theorem bF_get (ad : Nat → Nat) (f : Nat → Int) : ∀ (fs : List (Option (Option Nat))) (j0 j : Nat), (bF ad f j0 fs)[j]? = (fs[j]?).map (bV ad f (j0 + j))
  | [], j0, j => by simp [bF]
  | o :: t, j0, 0 => by simp [bF]
  | o :: t, j0, j + 1 => by
    rw [bF, List.getElem?_cons_succ, List.getElem?_cons_succ, bF_get ad f t (j0 + 1) j, show j0 + 1 + j = j0 + (j + 1) by omega]
theorem bF_c {ad ad' : Nat → Nat} {f : Nat → Int} : ∀ (fs : List (Option (Option Nat))) (j : Nat), (∀ r, some (some r) ∈ fs → ad' r = ad r) → bF ad' f j fs = bF ad f j fs
  | [], _, _ => rfl
  | o :: t, j, h => by
    rw [bF, bF, bF_c t (j + 1) (fun r hr => h r (List.mem_cons_of_mem _ hr))]
    congr 1
    match o with
    | none => rfl
    | some none => rfl
    | some (some r) => show Value.ref (ad' r) = Value.ref (ad r); rw [h r List.mem_cons_self]
theorem bE_c {ad ad' : Nat → Nat} {cA : Nat → ClassId} {x : BE} (h : ∀ r, bR x.2 r → ad' r = ad r) : bE ad' cA x = bE ad cA x := by
  obtain ⟨f, s⟩ := x
  rcases s with n | ⟨t, l⟩ | ⟨ci, fs⟩
  · rfl
  · have : (fun j : Nat => ((l[j]?).bind id).map ad') = (fun j : Nat => ((l[j]?).bind id).map ad) := by
      funext j
      cases e : l[j]? with
      | none => rfl
      | some o =>
        cases o with
        | none => rfl
        | some r =>
          have hr : ad' r = ad r := h r (List.mem_of_getElem? e)
          show some (ad' r) = some (ad r)
          rw [hr]
    exact congrArg (fun z => (Sum.inl (cA t, l.length, .inr (.inr (.inr (.inr z)))) : va_E)) this
  · exact congrArg (fun z => (Sum.inr (ci, z) : va_E)) (bF_c fs 0 h)
def uB {α : Type} (E : Nat → α) (k : Nat) (x : α) : Nat → α := fun j => if j = k then x else E j
theorem uB_eq {α : Type} {E : Nat → α} {k : Nat} {x : α} : uB E k x k = x := if_pos rfl
theorem uB_ne {α : Type} {E : Nat → α} {k j : Nat} {x : α} (h : j ≠ k) : uB E k x j = E j := if_neg h
def wsB (ad : Nat → Nat) (cA : Nat → ClassId) (cs : List Nat) (E : Nat → BE) : va_W := cs.map (fun k => (ad k, bE ad cA (E k)))
def okB (cs : List Nat) (E : Nat → BE) : Prop := ∀ k, k ∈ cs → ∀ r, bR (E k).2 r → r ∈ cs
def okM (cs : List Nat) (l : List MV) : Prop := ∀ r, vR r ∈ l → r ∈ cs
theorem wsB_get {ad : Nat → Nat} {cA : Nat → ClassId} {cs : List Nat} {E : Nat → BE} {q0 k : Nat} (h : cs[q0]? = some k) : (wsB ad cA cs E)[q0]? = some (ad k, bE ad cA (E k)) := by
  unfold wsB
  rw [List.getElem?_map, h]
  rfl
theorem wsB_set {ad : Nat → Nat} {cA : Nat → ClassId} {cs : List Nat} {E : Nat → BE} {A : Nat → Prop} (hD : va_D A (wsB ad cA cs E)) {q0 k : Nat} (h : cs[q0]? = some k) (x : BE) : (wsB ad cA cs E).set q0 (ad k, bE ad cA x) = wsB ad cA cs (uB E k x) := by
  have hl : q0 < cs.length := (List.getElem?_eq_some_iff.mp h).1
  apply List.ext_getElem?
  intro i
  by_cases hi : i = q0
  · subst hi
    rw [List.getElem?_set_self (by unfold wsB; rw [List.length_map]; exact hl), wsB_get h, uB_eq]
  · rw [List.getElem?_set_ne (Ne.symm hi)]
    cases e : cs[i]? with
    | none =>
      unfold wsB
      rw [List.getElem?_map, List.getElem?_map, e]
      rfl
    | some j =>
      have hj : j ≠ k := fun q => hi (hD.1 i q0 _ _ (wsB_get e) (wsB_get h) (by rw [q]))
      rw [wsB_get e, wsB_get e, uB_ne hj]
theorem wsB_c {ad ad' : Nat → Nat} {cA : Nat → ClassId} {cs : List Nat} {E E' : Nat → BE} (h : okB cs E) (ha : ∀ k, k ∈ cs → ad' k = ad k) (hE : ∀ k, k ∈ cs → E' k = E k) : wsB ad' cA cs E' = wsB ad cA cs E := by
  unfold wsB
  apply List.map_congr_left
  intro k hk
  rw [ha k hk, hE k hk, bE_c (fun r hr => ha r (h k hk r hr))]
theorem wsB_new {ad : Nat → Nat} {cA : Nat → ClassId} {cs : List Nat} {E : Nat → BE} (h : okB cs E) {k q : Nat} (hk : k ∉ cs) {x : BE} (hx : ∀ r, ¬ bR x.2 r) : wsB ad cA cs E ++ [(q, bE ad cA x)] = wsB (uB ad k q) cA (cs ++ [k]) (uB E k x) := by
  have ne : ∀ j, j ∈ cs → j ≠ k := fun j hj q => hk (by rw [← q]; exact hj)
  have e1 : wsB (uB ad k q) cA cs (uB E k x) = wsB ad cA cs E := wsB_c h (fun j hj => uB_ne (ne j hj)) (fun j hj => uB_ne (ne j hj))
  have e2 : wsB (uB ad k q) cA (cs ++ [k]) (uB E k x) = wsB (uB ad k q) cA cs (uB E k x) ++ [((uB ad k q) k, bE (uB ad k q) cA (uB E k x k))] := by
    unfold wsB
    rw [List.map_append]
    rfl
  rw [e2, e1, uB_eq, uB_eq, bE_c (fun r hr => absurd hr (hx r))]
theorem okB_new {cs : List Nat} {E : Nat → BE} (h : okB cs E) {k : Nat} {x : BE} (hx : ∀ r, ¬ bR x.2 r) : okB (cs ++ [k]) (uB E k x) := by
  intro j hj r hr
  by_cases c : j = k
  · subst c; rw [uB_eq] at hr; exact absurd hr (hx r)
  · rw [uB_ne c] at hr
    rcases List.mem_append.mp hj with q | q
    · exact List.mem_append_left _ (h j q r hr)
    · exact absurd (List.mem_singleton.mp q) c
theorem okB_set {cs : List Nat} {E : Nat → BE} (h : okB cs E) {k : Nat} {x : BE} (hx : ∀ r, bR x.2 r → r ∈ cs) : okB cs (uB E k x) := by
  intro j hj r hr
  by_cases c : j = k
  · subst c; rw [uB_eq] at hr; exact hx r hr
  · rw [uB_ne c] at hr; exact h j hj r hr
theorem cv_c {ad ad' : Nat → Nat} {cs : List Nat} {l : List MV} (h : okM cs l) (ha : ∀ k, k ∈ cs → ad' k = ad k) : l.map (cv ad') = l.map (cv ad) := by
  apply List.map_congr_left
  intro v hv
  rcases v with z | r | z
  · rfl
  · show Value.ref (ad' r) = Value.ref (ad r)
    rw [ha r (h r hv)]
  · rfl
theorem cvp_c {ad ad' : Nat → Nat} {cs : List Nat} {l : List (Nat × MV)} (h : okM cs (l.map (·.2))) (ha : ∀ k, k ∈ cs → ad' k = ad k) : l.map (cvp ad') = l.map (cvp ad) := by
  apply List.map_congr_left
  rintro ⟨i, v⟩ hv
  rcases v with z | r | z
  · rfl
  · show (i, Value.ref (ad' r)) = (i, Value.ref (ad r))
    rw [ha r (h r (List.mem_map.mpr ⟨_, hv, rfl⟩))]
  · rfl
theorem okM_cR {cs : List Nat} {l : List MV} {k : Nat} (h : okM cs l) (hk : k ∈ cs) : okM cs (vR k :: l) := fun r hr => by
  rcases List.mem_cons.mp hr with q | q
  · cases q; exact hk
  · exact h r q
theorem okM_cI {cs : List Nat} {l : List MV} {z : Int} (h : okM cs l) : okM cs (vI z :: l) := fun r hr => by
  rcases List.mem_cons.mp hr with q | q
  · cases q
  · exact h r q
theorem okM_tl {cs : List Nat} {l : List MV} {v : MV} (h : okM cs (v :: l)) : okM cs l := fun r hr => h r (List.mem_cons_of_mem _ hr)
theorem okM_hd {cs : List Nat} {l : List MV} {k : Nat} (h : okM cs (vR k :: l)) : k ∈ cs := h k List.mem_cons_self
theorem okM_w {cs : List Nat} {l : List MV} {k : Nat} (h : okM cs l) : okM (cs ++ [k]) l := fun r hr => List.mem_append_left _ (h r hr)
def tyA (t : Nat) : FieldType := match t with
  | 0 => .int
  | 1 => .object "SharedRides$Route"
  | 2 => .object "SharedRides$Plan"
  | _ => .array .int
def va_AOI (U : State) : Prop := va_AOA .int U
def wNest : Cond := .methodLinkNest "SharedRides" 11 yX4_init "SharedRides"
def KB (dC : Nat → ClassId) (dI : Nat → Nat → Nat) (cA : Nat → ClassId) (s : State) : Prop := va_K (dC, dI) vwCl [] s ∧ (∀ t, t < 4 → ∀ c, s.vm.findClass ("[" ++ (tyA t).toString) = some c → c = cA t) ∧ va_AO "SharedRides$Route" s ∧ va_AO "SharedRides$Plan" s ∧ va_AOI s ∧ va_Nw wNest s
abbrev GB : Type := (Nat → ClassId) × (Nat → Nat → Nat) × (Nat → ClassId)
abbrev FTB : Type := (Nat → Nat) → FT
def CXB (G : GB) (M : MI) (p : Program) (R : Room) (s : State) (m : MethodId) (args : Array Value) (meth : Method) (c : Code) (A : Nat → Prop) (H0 : Heap) (ts : List Nat) : Prop :=
  p.tables.exec = Jvm.exec ∧ c.code = M.2.1 ∧ c.maxLocals = M.2.2.1 ∧ s.vm.findClass M.1.cls = some m.cls ∧ (∀ w ∈ tbG, w.before args s = true) ∧ KB G.1 G.2.1 G.2.2 s ∧ va_K (G.1, G.2.1) vwCl (ts.map (fun t => (G.2.2 t, tyA t))) s ∧ (∀ q, H0.size ≤ q → A q) ∧ M.2.2.2.2.1 ≤ R.frames ∧ M.2.2.2.2.2 ≤ R.locals ∧ meth.name = M.1.name
def BWF (l : Launch) (G : GB) (M : MI) (F : FTB) (pc : Nat) (ls : List (Nat × MV)) (st : List MV) (cs : List Nat) (E : Nat → BE) (ts : List Nat) (rc rs : Nat) : Prop :=
  okL (ls.map (·.2)) → okL st → okM cs (ls.map (·.2)) → okM cs st → okB cs E → ∀ (ad : Nat → Nat) (p : Program) (e : Env) (R : Room) (s : State) (m : MethodId) (args : Array Value) (below : List Frame) (meth : Method) (c : Code) (A : Nat → Prop) (H0 : Heap) (cells slots : Nat) (Qf : State → Prop),
    F ad p e R s m args below meth c A H0 (cells + rc) (slots + rs) Qf → CXB G M p R s m args meth c A H0 ts → cells + rc ≤ R.cells → slots + rs ≤ R.slots → ∀ (H : Heap) (locs : List Loc) (lsA : Array Slot), va_P (G.1, G.2.1) vwCl (wsB ad G.2.2 cs E) H → va_D A (wsB ad G.2.2 cs E) → va_S A H0 H locs → lv_has lsA M.2.2.1 (ls.map (cvp ad)) →
      W p l e R s m args below meth c H locs cells slots Qf (F0 m pc lsA (st.map (cv ad)))
def FS (F : FTB) (cs : List Nat) : Prop := ∀ (ad ad' : Nat → Nat), (∀ k, k ∈ cs → ad' k = ad k) → ∀ p e R s m args below meth c A H0 cells slots Qf, F ad p e R s m args below meth c A H0 cells slots Qf → F ad' p e R s m args below meth c A H0 cells slots Qf
section BROWS
variable {l : Launch} {G : GB} {M : MI} {F : FTB} {pc : Nat} {ls : List (Nat × MV)} {st : List MV} {cs : List Nat} {E : Nat → BE} {ts : List Nat} {rc rs : Nat}
theorem BWF.go {pc' : Nat} {st' : List MV} (hok : okL (ls.map (·.2)) → okL st → okL st') (hom : okM cs (ls.map (·.2)) → okM cs st → okM cs st')
    (hw : ∀ {ad : Nat → Nat} {p : Program} {e : Env} {R : Room} {s : State} {m : MethodId} {args : Array Value} {below : List Frame} {meth : Method} {c : Code} {H : Heap} {locs : List Loc} {cells slots : Nat} {Qf : State → Prop} {lsA : Array Slot},
      okL st → p.tables.exec = Jvm.exec → c.code = M.2.1 → lv_has lsA M.2.2.1 (ls.map (cvp ad)) →
      W p l e R s m args below meth c H locs cells slots Qf (F0 m pc' lsA (st'.map (cv ad))) → W p l e R s m args below meth c H locs cells slots Qf (F0 m pc lsA (st.map (cv ad))))
    (k : BWF l G M F pc' ls st' cs E ts rc rs) : BWF l G M F pc ls st cs E ts rc rs := by
  intro hl hs ml ms hB ad p e R s m args below meth c A H0 cells slots Qf hF hC h1 h2 H locs lsA hP hD hS hls
  exact hw hs hC.1 hC.2.1 hls (k hl (hok hl hs) ml (hom ml ms) hB ad p e R s m args below meth c A H0 cells slots Qf hF hC h1 h2 H locs lsA hP hD hS hls)
theorem b_iconst {n : Int} (hd : decode M.2.1 pc = .ok (.iconst n, 1)) (hn : -2147483648 ≤ n ∧ n ≤ 2147483647) (k : BWF l G M F (pc + 1) ls (vI n :: st) cs E ts rc rs) : BWF l G M F pc ls st cs E ts rc rs :=
  BWF.go (fun _ h => okL_I hn h) (fun _ h => okM_cI h) (fun _ hx hb _ k => lv_iconst hx hb hd rfl k) k
theorem b_bipush {n : Int} (hd : decode M.2.1 pc = .ok (.bipush n, 2)) (hv : (Int8.ofInt n).toInt32 = Int32.ofInt n) (hn : -2147483648 ≤ n ∧ n ≤ 2147483647) (k : BWF l G M F (pc + 2) ls (vI n :: st) cs E ts rc rs) : BWF l G M F pc ls st cs E ts rc rs :=
  BWF.go (fun _ h => okL_I hn h) (fun _ h => okM_cI h) (fun _ hx hb _ k => lv_bipush hx hb hd hv k) k
theorem b_sipush {n : Int} (hd : decode M.2.1 pc = .ok (.sipush n, 3)) (hv : (Int16.ofInt n).toInt32 = Int32.ofInt n) (hn : -2147483648 ≤ n ∧ n ≤ 2147483647) (k : BWF l G M F (pc + 3) ls (vI n :: st) cs E ts rc rs) : BWF l G M F pc ls st cs E ts rc rs :=
  BWF.go (fun _ h => okL_I hn h) (fun _ h => okM_cI h) (fun _ hx hb _ k => lv_sipush hx hb hd hv k) k
theorem b_iload_n {k : _root_.Fin 4} {i : Nat} {x : Int} (j : Nat) (hd : decode M.2.1 pc = .ok (.iload_n k, 1)) (hi : (k : Nat) = i) (hj : ls[j]? = some (i, vI x)) (kk : BWF l G M F (pc + 1) ls (vI x :: st) cs E ts rc rs) : BWF l G M F pc ls st cs E ts rc rs :=
  BWF.go (fun hl h => okL_cons (okL_get hl hj) h) (fun _ h => okM_cI h) (fun _ hx hb hls k => lv_iload_n hx hb hd hi (ls_at hls hj) k) kk
theorem b_aload_n {k : _root_.Fin 4} {i : Nat} {x : Nat} (j : Nat) (hd : decode M.2.1 pc = .ok (.aload_n k, 1)) (hi : (k : Nat) = i) (hj : ls[j]? = some (i, vR x)) (kk : BWF l G M F (pc + 1) ls (vR x :: st) cs E ts rc rs) : BWF l G M F pc ls st cs E ts rc rs :=
  BWF.go (fun hl h => okL_R h) (fun hl h => okM_cR h (hl x (List.mem_map.mpr ⟨_, List.mem_of_getElem? hj, rfl⟩))) (fun _ hx hb hls k => lv_aload_n hx hb hd hi (ls_at hls hj) k) kk
theorem okM_flt {f : Nat × MV → Bool} {i : Nat} {v : MV} (hv : okM cs [v]) (h : okM cs (ls.map (·.2))) : okM cs ((((i, v) :: ls.filter f)).map (·.2)) := by
  intro w hw
  obtain ⟨q, hq, e⟩ := List.mem_map.mp hw
  rcases List.mem_cons.mp hq with rfl | hq
  · exact hv w (List.mem_singleton.mpr e.symm)
  · exact h w (List.mem_map.mpr ⟨q, (List.mem_filter.mp hq).1, e⟩)
theorem b_istore_n {k : _root_.Fin 4} {i : Nat} {x : Int} {ls' : List (Nat × MV)} (hd : decode M.2.1 pc = .ok (.istore_n k, 1)) (hi : (k : Nat) = i) (hn : i < M.2.2.1) (hl' : (i, vI x) :: ls.filter (flk i) = ls') (kk : BWF l G M F (pc + 1) ls' st cs E ts rc rs) : BWF l G M F pc ls (vI x :: st) cs E ts rc rs := by
  subst hl'
  intro hl hs ml ms hB ad p e R s m args below meth c A H0 cells slots Qf hF hC h1 h2 H locs lsA hP hD hS hls
  exact lv_istore_n hC.1 hC.2.1 hd hi hls hn (lv' := ((i, vI x) :: ls.filter (flk i)).map (cvp ad)) (by rw [flt]; rfl) (fun ls2 q2 => kk (okL_flt (okL_hd hs) hl) (okL_tl hs) (okM_flt (fun r hr => by rcases List.mem_cons.mp hr with q | q <;> cases q) ml) (okM_tl ms) hB ad p e R s m args below meth c A H0 cells slots Qf hF hC h1 h2 H locs ls2 hP hD hS q2)
theorem b_astore_n {k : _root_.Fin 4} {i : Nat} {x : Nat} {ls' : List (Nat × MV)} (hd : decode M.2.1 pc = .ok (.astore_n k, 1)) (hi : (k : Nat) = i) (hn : i < M.2.2.1) (hl' : (i, vR x) :: ls.filter (flk i) = ls') (kk : BWF l G M F (pc + 1) ls' st cs E ts rc rs) : BWF l G M F pc ls (vR x :: st) cs E ts rc rs := by
  subst hl'
  intro hl hs ml ms hB ad p e R s m args below meth c A H0 cells slots Qf hF hC h1 h2 H locs lsA hP hD hS hls
  exact lv_astore_n hC.1 hC.2.1 hd hi hls hn (lv' := ((i, vR x) :: ls.filter (flk i)).map (cvp ad)) (by rw [flt]; rfl) (fun ls2 q2 => kk (okL_flt (okL_hd hs) hl) (okL_tl hs) (okM_flt (fun r hr => by rcases List.mem_cons.mp hr with q | q; cases q; exact okM_hd ms; cases q) ml) (okM_tl ms) hB ad p e R s m args below meth c A H0 cells slots Qf hF hC h1 h2 H locs ls2 hP hD hS q2)
theorem b_iinc {i : Nat} {n x : Int} {ls' : List (Nat × MV)} (j : Nat) (hd : decode M.2.1 pc = .ok (.iinc i n, 3)) (hj : ls[j]? = some (i, vI x)) (hn : i < M.2.2.1) (hr : -2147483648 ≤ x + n ∧ x + n ≤ 2147483647) (hl' : (i, vI (x + n)) :: ls.filter (flk i) = ls') (kk : BWF l G M F (pc + 3) ls' st cs E ts rc rs) : BWF l G M F pc ls st cs E ts rc rs := by
  subst hl'
  intro hl hs ml ms hB ad p e R s m args below meth c A H0 cells slots Qf hF hC h1 h2 H locs lsA hP hD hS hls
  exact lv_iinc hC.1 hC.2.1 hd hls (k := j) (x := Int32.ofInt x) (v := Int32.ofInt (x + n)) (by rw [List.getElem?_map, hj]; rfl) (Int32.ofInt_add x n).symm hn (lv' := ((i, vI (x + n)) :: ls.filter (flk i)).map (cvp ad)) (by rw [flt]; rfl) (fun ls2 q2 => kk (okL_flt hr hl) hs (okM_flt (fun r hr => by rcases List.mem_cons.mp hr with q | q <;> cases q) ml) ms hB ad p e R s m args below meth c A H0 cells slots Qf hF hC h1 h2 H locs ls2 hP hD hS q2)
theorem b_iadd {x y : Int} (hd : decode M.2.1 pc = .ok (.iadd, 1)) (hr : -2147483648 ≤ x + y ∧ x + y ≤ 2147483647) (kk : BWF l G M F (pc + 1) ls (vI (x + y) :: st) cs E ts rc rs) : BWF l G M F pc ls (vI y :: vI x :: st) cs E ts rc rs :=
  BWF.go (fun _ h => okL_I hr (okL_tl (okL_tl h))) (fun _ h => okM_cI (okM_tl (okM_tl h))) (fun _ hx hb _ k => lv_iadd hx hb hd (by rw [← Int32.ofInt_add]; exact k)) kk
theorem b_goto {off : Int} {tgt : Nat} (hd : decode M.2.1 pc = .ok (.goto off, 3)) (ht : (pc : Int) + off = (tgt : Int)) (kk : BWF l G M F tgt ls st cs E ts rc rs) : BWF l G M F pc ls st cs E ts rc rs :=
  BWF.go (fun _ h => h) (fun _ h => h) (fun _ hx hb _ k => lv_goto hx hb hd ht k) kk
theorem b_dup {v : MV} (hd : decode M.2.1 pc = .ok (.dup, 1)) (kk : BWF l G M F (pc + 1) ls (v :: v :: st) cs E ts rc rs) (hj : isJ v = false := by rfl) : BWF l G M F pc ls (v :: st) cs E ts rc rs :=
  BWF.go (fun _ h => okL_cons (okL_hd h) h) (fun _ h r hr => by rcases List.mem_cons.mp hr with q | q; rw [← q] at h; exact okM_hd h; exact h r q) (fun _ hx hb _ k => lv_dup hx hb hd (cv_cat _ _ hj) k) kk
end BROWS
