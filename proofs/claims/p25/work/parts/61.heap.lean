def pBf (f : Nat → Int) (j : Nat) (v : MV) : Nat → Int := match v with
  | .inl z => uB f j z
  | .inr _ => f
def pBo (v : MV) : Option (Option Nat) := match v with
  | .inl _ => none
  | .inr (.inl r) => some (some r)
  | .inr (.inr _) => none
theorem bF_set {ad : Nat → Nat} {f : Nat → Int} {fs : List (Option (Option Nat))} {j : Nat} (hj : j < fs.length) (v : MV) (hv : isJ v = false) : (bF ad f 0 fs).set j (cv ad v) = bF ad (pBf f j v) 0 (fs.set j (pBo v)) := by
  apply List.ext_getElem?
  intro i
  by_cases hi : i = j
  · subst hi
    rw [List.getElem?_set_self (by rw [bF_len]; exact hj), bF_get, List.getElem?_set_self hj, Nat.zero_add]
    rcases v with z | r | z
    · show some (Value.int _) = some (Value.int (Int32.ofInt (uB f i z i)))
      rw [uB_eq]
    · rfl
    · cases hv
  · rw [List.getElem?_set_ne (Ne.symm hi), bF_get, bF_get, List.getElem?_set_ne (Ne.symm hi), Nat.zero_add]
    cases fs[i]? with
    | none => rfl
    | some o =>
      match o with
      | none =>
        rcases v with z | r | z
        · show some (Value.int _) = some (Value.int (Int32.ofInt (uB f j z i)))
          rw [uB_ne hi]
        · rfl
        · cases hv
      | some none => rfl
      | some (some r) => rfl
section BHEAP
variable {l : Launch} {G : GB} {M : MI} {F : FTB} {pc : Nat} {ls : List (Nat × MV)} {st : List MV} {cs : List Nat} {E : Nat → BE} {ts : List Nat} {rc rs : Nat}
theorem b_ext {pc' k N : Nat} {x : BE} (hst : FS F cs) (hk : k ∉ cs) (hx : ∀ r, ¬ bR x.2 r) (kk : BWF l G M F pc' ls (vR k :: st) (cs ++ [k]) (uB E k x) ts rc rs) (hl : okL (ls.map (·.2))) (hs : okL st) (ml : okM cs (ls.map (·.2))) (ms : okM cs st) (hB : okB cs E) {ad : Nat → Nat} {p : Program} {e : Env} {R : Room} {s : State} {m : MethodId} {args : Array Value} {below : List Frame} {meth : Method} {c : Code} {A : Nat → Prop} {H0 : Heap} {cells slots : Nat} {Qf : State → Prop}
    (hF : F ad p e R s m args below meth c A H0 (cells + (rc + 1)) (slots + (rs + N)) Qf) (hC : CXB G M p R s m args meth c A H0 ts) (h1 : cells + (rc + 1) ≤ R.cells) (h2 : slots + (rs + N) ≤ R.slots) {H1 : Heap} {locs : List Loc} {lsA : Array Slot} {q : Nat} (hP : va_P (G.1, G.2.1) vwCl (wsB ad G.2.2 cs E ++ [(q, bE ad G.2.2 x)]) H1) (hD : va_D A (wsB ad G.2.2 cs E ++ [(q, bE ad G.2.2 x)])) (hS : va_S A H0 H1 locs) (hls : lv_has lsA M.2.2.1 (ls.map (cvp ad))) :
    W p l e R s m args below meth c H1 locs (cells + 1) (slots + N) Qf (F0 m pc' lsA (.ref q :: st.map (cv ad))) := by
  have ne : ∀ j, j ∈ cs → uB ad k q j = ad j := fun j hj => uB_ne (fun z => hk (by rw [← z]; exact hj))
  rw [wsB_new hB hk hx] at hP hD
  have hF2 := hst ad (uB ad k q) ne _ _ _ _ _ _ _ _ _ _ _ _ _ _ hF
  rw [show cells + (rc + 1) = cells + 1 + rc by omega, show slots + (rs + N) = slots + N + rs by omega] at hF2
  have k2 := kk hl (okL_R hs) (okM_w ml) (okM_cR (okM_w ms) (List.mem_append_right _ (List.mem_singleton.mpr rfl))) (okB_new hB hx) (uB ad k q) p e R s m args below meth c A H0 (cells + 1) (slots + N) Qf hF2 hC (by omega) (by omega) H1 locs lsA hP hD hS (by rw [cvp_c ml ne]; exact hls)
  have e1 : (vR k :: st).map (cv (uB ad k q)) = .ref q :: st.map (cv ad) := by
    show Value.ref (uB ad k q k) :: st.map (cv (uB ad k q)) = _
    rw [uB_eq, cv_c ms ne]
  rw [e1] at k2
  exact k2
theorem b_new {k idx ci N : Nat} {C : String} {T : u_T} {fs : List (Option (Option Nat))} (ty : Nat → FieldType) (hty : ∀ k, k < N → parseFieldDescriptor (T k).2.2.1 = some (ty k)) (hfs : ∀ j, j < N → defaultValue (ty j) = vp_V (bF (fun _ => 0) (fun _ => 0) 0 fs) j) (hnr : ∀ r, some (some r) ∉ fs) (hd : decode M.2.1 pc = .ok (.new idx, 3)) (hc : KC ci C T N) (hcl : Cond.classLink M.1.cls idx C ∈ tbG) (hinst : Cond.instantiable C N ∈ tbG) (hini : Cond.initialized C ∈ tbG) (hst : FS F cs) (hk : k ∉ cs)
    (kk : BWF l G M F (pc + 3) ls (vR k :: st) (cs ++ [k]) (uB E k ((fun _ => 0), .inr (.inr (ci, fs)))) ts rc rs) : BWF l G M F pc ls st cs E ts (rc + 1) (rs + N) := by
  intro hl hs ml ms hB ad p e R s m args below meth c A H0 cells slots Qf hF hC h1 h2 H locs lsA hP hD hS hls
  obtain ⟨hx, hb, hml, hown, hts, hKB, hK, hA, hfr, hlo, hin⟩ := id hC
  refine va_new (ci := ci) (fs := bF ad (fun _ => 0) 0 fs) (C := C) (T := T) (N := N) hx hb hts hc.2.1 ty hty hown (hts _ hcl) (hts _ hinst) (hts _ hini) hK hP hD hS hA hc.1 (by rw [bF_c (ad := fun _ => 0) fs 0 (fun r hr => absurd hr (hnr r))]; exact hfs) (by omega) (by omega) hd (fun q H1 hP1 hD1 hS1 => ?_)
  exact b_ext hst hk (x := ((fun _ => 0), .inr (.inr (ci, fs)))) (fun r hr => hnr r hr) kk hl hs ml ms hB hF hC h1 h2 hP1 hD1 hS1 hls
theorem cA_of {cA : ClassId} {t : Nat} {dC : Nat → ClassId} {dI : Nat → Nat → Nat} {cs' : Nat → ClassId} {s : State} (h : KB dC dI cs' s) (ht : t < 4) {tys : List (ClassId × FieldType)} (hK : va_K (dC, dI) vwCl (tys ++ [(cA, tyA t)]) s) : cA = cs' t := by
  have h2 := (hK.2 tys.length (cA, tyA t) (by rw [List.getElem?_append_right (Nat.le_refl _), Nat.sub_self]; rfl)).2
  refine h.2.1 t ht cA ?_
  match t, ht with
  | 0, _ => exact h2
  | 1, _ => obtain ⟨_, _, _, _, _, q⟩ := h2; exact q
  | 2, _ => obtain ⟨_, _, _, _, _, q⟩ := h2; exact q
  | 3, _ => exact h2
theorem b_newa {k n : Nat} {z : Int} (hz : z = n) (hd : decode M.2.1 pc = .ok (.newarray .int, 2)) (hw : Cond.arrayClass .int ∈ tbG) (hn : n ≤ 1000) (hst : FS F cs) (hk : k ∉ cs)
    (kk : BWF l G M F (pc + 2) ls (vR k :: st) (cs ++ [k]) (uB E k ((fun _ => 0), .inl n)) (ts ++ [0]) rc rs) : BWF l G M F pc ls (vI z :: st) cs E ts (rc + 1) (rs + n) := by
  subst hz
  intro hl hs ml ms hB ad p e R s m args below meth c A H0 cells slots Qf hF hC h1 h2 H locs lsA hP hD hS hls
  obtain ⟨hx, hb, hml, hown, hts, hKB, hK, hA, hfr, hlo, hin⟩ := id hC
  have e0 : (fun _ : Nat => Int32.ofInt 0) = (fun _ : Nat => (0 : Int32)) := rfl
  have oz : okV (vI (n : Int)) := okL_hd hs
  refine va_newa (atype := .int) (ty := .int) (a0 := (n, .inl (fun _ => Int32.ofInt 0))) hx hb (hts _ hw) rfl hK hP hD hS hA (fun cA => by rw [vp_cell_i]; rfl) (nn_of oz (by omega)) (N' := n) (by rw [oI_N oz]; omega) (by show n * 4 ≤ 536870912; omega) (by omega) (by omega) hd (fun q cA H1 hK1 hP1 hD1 hS1 => ?_)
  have ec : cA = G.2.2 0 := cA_of (t := 0) hKB (by decide) hK1
  subst ec
  have hC2 : CXB G M p R s m args meth c A H0 (ts ++ [0]) := ⟨hx, hb, hml, hown, hts, hKB, by rw [List.map_append]; exact hK1, hA, hfr, hlo, hin⟩
  exact b_ext hst hk (x := ((fun _ => 0), .inl n)) (fun r hr => hr) kk hl (okL_tl hs) ml (okM_tl ms) hB hF hC2 h1 h2 hP1 hD1 hS1 hls
theorem b_newq {k n t idx : Nat} {C : String} {z : Int} (hz : z = n) (ht : t < 4) (hC0 : tyA t = .object C) (hao : ∀ s, KB G.1 G.2.1 G.2.2 s → va_AO C s) (hd : decode M.2.1 pc = .ok (.anewarray idx, 3)) (hcl : Cond.classLink M.1.cls idx C ∈ tbG) (hn : n ≤ 1000) (hst : FS F cs) (hk : k ∉ cs)
    (kk : BWF l G M F (pc + 3) ls (vR k :: st) (cs ++ [k]) (uB E k ((fun _ => 0), .inr (.inl (t, List.replicate n none)))) (ts ++ [t]) rc rs) : BWF l G M F pc ls (vI z :: st) cs E ts (rc + 1) (rs + n) := by
  subst hz
  intro hl hs ml ms hB ad p e R s m args below meth c A H0 cells slots Qf hF hC h1 h2 H locs lsA hP hD hS hls
  obtain ⟨hx, hb, hml, hown, hts, hKB, hK, hA, hfr, hlo, hin⟩ := id hC
  have oz : okV (vI (n : Int)) := okL_hd hs
  refine va_newq (C := C) hx hb hown (hts _ hcl) (hao s hKB) hK hP hD hS hA (nn_of oz (by omega)) (N' := n) (by rw [oI_N oz]; omega) (by omega) (by omega) (by omega) hd (fun q cA H1 hK1 hP1 hD1 hS1 => ?_)
  rw [← hC0] at hK1
  have ec : cA = G.2.2 t := cA_of hKB ht hK1
  subst ec
  have hC2 : CXB G M p R s m args meth c A H0 (ts ++ [t]) := ⟨hx, hb, hml, hown, hts, hKB, by rw [List.map_append]; exact hK1, hA, hfr, hlo, hin⟩
  have ex : bE ad G.2.2 ((fun _ => 0), .inr (.inl (t, List.replicate n none))) = .inl (G.2.2 t, n, .inr (.inr (.inr (.inr (fun _ => none))))) := by
    have : (fun j : Nat => (((List.replicate n (none : Option Nat))[j]?).bind id).map ad) = (fun _ => none) := by
      funext j
      rw [List.getElem?_replicate]
      split <;> rfl
    show (Sum.inl (G.2.2 t, (List.replicate n (none : Option Nat)).length, .inr (.inr (.inr (.inr (fun j : Nat => (((List.replicate n (none : Option Nat))[j]?).bind id).map ad))))) : va_E) = _
    rw [this, List.length_replicate]
  rw [← ex] at hP1 hD1
  exact b_ext hst hk (x := ((fun _ => 0), .inr (.inl (t, List.replicate n none)))) (fun r hr => by have := List.eq_of_mem_replicate hr; cases this) kk hl (okL_tl hs) ml (okM_tl ms) hB hF hC2 h1 h2 hP1 hD1 hS1 hls
theorem b_put0 {idx ci j k N : Nat} {v : MV} {ty : FieldType} {C : String} {T : u_T} {fs : List (Option (Option Nat))} {f : Nat → Int} (hd : decode M.2.1 pc = .ok (.putfield idx, 3)) (hE : E k = (f, .inr (.inr (ci, fs)))) (hj2 : j < fs.length) (hc : KC ci C T N) (hj : j < N) (hlk : Cond.fieldLink M.1.cls idx (T j).1 (T j).2.1 (T j).2.2.1 ∈ tbG) (hfin : (T j).2.2.2 = false ∨ ((T j).2.2.2 = true ∧ M.1.name = "<init>" ∧ (T j).1 = M.1.cls)) (hty : parseFieldDescriptor (T j).2.2.1 = some ty) (hn : ∀ ad, narrow ty (cv ad v) = cv ad v) (hfit : ∀ ad, fits ty (cv ad v) = true)
    (kk : BWF l G M F (pc + 3) ls st cs (uB E k (pBf f j v, .inr (.inr (ci, fs.set j (pBo v))))) ts rc rs) (hv : isJ v = false := by rfl) : BWF l G M F pc ls (v :: vR k :: st) cs E ts rc rs := by
  intro hl hs ml ms hB ad p e R s m args below meth c A H0 cells slots Qf hF hC h1 h2 H locs lsA hP hD hS hls
  obtain ⟨hx, hb, hml, hown, hts, hKB, hK, hA, hfr, hlo, hin⟩ := id hC
  have hkc : k ∈ cs := okM_hd (okM_tl ms)
  obtain ⟨q0, hq0⟩ := List.getElem?_of_mem hkc
  obtain ⟨ty0, hty0⟩ := hc.2.2.1
  have he : (wsB ad G.2.2 cs E)[q0]? = some (ad k, .inr (ci, bF ad f 0 fs)) := by rw [wsB_get hq0, hE]; rfl
  have hr : ∀ r, bR (.inr (.inr (ci, fs.set j (pBo v)))) r → r ∈ cs := by
    intro r hr
    have hr : some (some r) ∈ fs.set j (pBo v) := hr
    rcases List.mem_or_eq_of_mem_set hr with q | q
    · exact hB k hkc r (by rw [hE]; exact q)
    · rcases v with z | r2 | z
      · cases q
      · cases q; exact okM_hd ms
      · cases hv
  have go : ∀ (H1 : Heap) (locs1 : List Loc), va_P (G.1, G.2.1) vwCl ((wsB ad G.2.2 cs E).set q0 (ad k, .inr (ci, (bF ad f 0 fs).set j (cv ad v)))) H1 → va_D A ((wsB ad G.2.2 cs E).set q0 (ad k, .inr (ci, (bF ad f 0 fs).set j (cv ad v)))) → va_S A H0 H1 locs1 → W p l e R s m args below meth c H1 locs1 cells slots Qf (F0 m (pc + 3) lsA (st.map (cv ad))) := by
    intro H1 locs1 hP1 hD1 hS1
    have ex : (Sum.inr (ci, (bF ad f 0 fs).set j (cv ad v)) : va_E) = bE ad G.2.2 (pBf f j v, .inr (.inr (ci, fs.set j (pBo v)))) := by
      show _ = (Sum.inr (ci, bF ad (pBf f j v) 0 (fs.set j (pBo v))) : va_E)
      rw [bF_set hj2 _ hv]
    rw [ex, wsB_set hD hq0] at hP1 hD1
    exact kk hl (okL_tl (okL_tl hs)) ml (okM_tl (okM_tl ms)) (okB_set hB hr) ad p e R s m args below meth c A H0 cells slots Qf hF hC h1 h2 H1 locs1 lsA hP1 hD1 hS1 hls
  rcases hfin with q | ⟨q1, q2, q3⟩
  · exact va_put (D := (G.1, G.2.1)) (ci := ci) (v := cv ad v) (ty := ty) (C := C) (T := T) (N := N) hx hb hts hc.2.1 ty0 hty0 hc.2.2.2 hown hK hP hD hS q0 he hc.1 j hj (hts _ hlk) (fun _ h => h) q hty (hn ad) (hfit ad) (by rw [bF_len]; exact hj2) hd go
  · exact va_putF (D := (G.1, G.2.1)) (ci := ci) (v := cv ad v) (ty := ty) (C := C) (T := T) (N := N) hx hb hts hc.2.1 ty0 hty0 hc.2.2.2 hown hK hP hD hS q0 he hc.1 j hj (hts _ hlk) (fun _ h => h) q1 (hin.trans q2) q3 hty (hn ad) (hfit ad) (by rw [bF_len]; exact hj2) hd go
theorem b_getR {idx ci j k N r : Nat} {C : String} {T : u_T} {fs : List (Option (Option Nat))} {f : Nat → Int} (hd : decode M.2.1 pc = .ok (.getfield idx, 3)) (hE : E k = (f, .inr (.inr (ci, fs)))) (hfs : fs[j]? = some (some (some r))) (hc : KC ci C T N) (hj : j < N) (hlk : Cond.fieldLink M.1.cls idx (T j).1 (T j).2.1 (T j).2.2.1 ∈ tbG) (kk : BWF l G M F (pc + 3) ls (vR r :: st) cs E ts rc rs) : BWF l G M F pc ls (vR k :: st) cs E ts rc rs := by
  intro hl hs ml ms hB ad p e R s m args below meth c A H0 cells slots Qf hF hC h1 h2 H locs lsA hP hD hS hls
  obtain ⟨hx, hb, hml, hown, hts, hKB, hK, hA, hfr, hlo, hin⟩ := id hC
  have hkc : k ∈ cs := okM_hd ms
  obtain ⟨q0, hq0⟩ := List.getElem?_of_mem hkc
  have hr : r ∈ cs := hB k hkc r (by rw [hE]; exact List.mem_of_getElem? hfs)
  refine va_get (D := (G.1, G.2.1)) (ci := ci) (v := .ref (ad r)) (C := C) (T := T) (N := N) hx hb hts hc.2.1 hown hK hP q0 (fs := bF ad f 0 fs) (by rw [wsB_get hq0, hE]; rfl) hc.1 j hj (hts _ hlk) (fun _ h => h) (by rw [bF_get, hfs]; rfl) hd ?_
  exact kk hl (okL_R (okL_tl hs)) ml (okM_cR (okM_tl ms) hr) hB ad p e R s m args below meth c A H0 cells slots Qf hF hC h1 h2 H locs lsA hP hD hS hls
theorem b_iast {k n t0 : Nat} {i x : Int} {f : Nat → Int} (hd : decode M.2.1 pc = .ok (.iastore, 1)) (hE : E k = (f, .inl n)) (ht : ts[t0]? = some 0) (h0 : 0 ≤ i) (hn : i < n) (kk : BWF l G M F (pc + 1) ls st cs (uB E k (uB f i.toNat x, .inl n)) ts rc rs) : BWF l G M F pc ls (vI x :: vI i :: vR k :: st) cs E ts rc rs := by
  intro hl hs ml ms hB ad p e R s m args below meth c A H0 cells slots Qf hF hC h1 h2 H locs lsA hP hD hS hls
  obtain ⟨hx, hb, hml, hown, hts, hKB, hK, hA, hfr, hlo, hin⟩ := id hC
  have hkc : k ∈ cs := okM_hd (okM_tl (okM_tl ms))
  obtain ⟨q0, hq0⟩ := List.getElem?_of_mem hkc
  have hi : okV (vI i) := okL_hd (okL_tl hs)
  refine va_iast (D := (G.1, G.2.1)) (n := n) (f := fun j => Int32.ofInt (f j)) (cA := G.2.2 0) hx hb hK hP hD hS q0 t0 (by rw [wsB_get hq0, hE]; rfl) (by rw [List.getElem?_map, ht]; rfl) (oI_vp hi h0 hn) hd (fun H1 locs1 hP1 hD1 hS1 => ?_)
  have ex : (Sum.inl (G.2.2 0, n, .inl (upd (fun j => Int32.ofInt (f j)) (Int32.ofInt i).toNatClampNeg (Int32.ofInt x))) : va_E) = bE ad G.2.2 (uB f i.toNat x, .inl n) := by
    have : upd (fun j => Int32.ofInt (f j)) (Int32.ofInt i).toNatClampNeg (Int32.ofInt x) = (fun j => Int32.ofInt (uB f i.toNat x j)) := by
      funext j
      rw [oI_N hi]
      by_cases h : j = i.toNat
      · subst h; simp [upd, uB]
      · simp [upd, uB, h]
    rw [this]; rfl
  rw [ex, wsB_set hD hq0] at hP1 hD1
  exact kk hl (okL_tl (okL_tl (okL_tl hs))) ml (okM_tl (okM_tl (okM_tl ms))) (okB_set hB (fun r hr => absurd hr (fun z => z))) ad p e R s m args below meth c A H0 cells slots Qf hF hC h1 h2 H1 locs1 lsA hP1 hD1 hS1 hls
theorem b_aast {k n t t0 r ci N : Nat} {C : String} {T : u_T} {i : Int} {f g : Nat → Int} {l' : List (Option Nat)} {fs : List (Option (Option Nat))} (hd : decode M.2.1 pc = .ok (.aastore, 1)) (hE : E k = (f, .inr (.inl (t, l')))) (hn2 : l'.length = n) (hE2 : E r = (g, .inr (.inr (ci, fs)))) (hc : KC ci C T N) (hty : tyA t = .object C) (ht : ts[t0]? = some t) (h0 : 0 ≤ i) (hn : i < n) (kk : BWF l G M F (pc + 1) ls st cs (uB E k (f, .inr (.inl (t, l'.set i.toNat (some r))))) ts rc rs) : BWF l G M F pc ls (vR r :: vI i :: vR k :: st) cs E ts rc rs := by
  intro hl hs ml ms hB ad p e R s m args below meth c A H0 cells slots Qf hF hC h1 h2 H locs lsA hP hD hS hls
  obtain ⟨hx, hb, hml, hown, hts, hKB, hK, hA, hfr, hlo, hin⟩ := id hC
  have hkc : k ∈ cs := okM_hd (okM_tl (okM_tl ms))
  have hrc : r ∈ cs := okM_hd ms
  obtain ⟨q0, hq0⟩ := List.getElem?_of_mem hkc
  obtain ⟨qk, hqk⟩ := List.getElem?_of_mem hrc
  have hi : okV (vI i) := okL_hd (okL_tl hs)
  have hlt : i.toNat < l'.length := by omega
  refine va_astq (D := (G.1, G.2.1)) (n := n) (f := fun j : Nat => ((l'[j]?).bind id).map ad) (cA := G.2.2 t) (r := (C, T, N)) (ci := ci) (vs := bF ad g 0 fs) hx hb hK hP hD hS q0 t0 qk (by rw [wsB_get hq0, hE, ← hn2]; rfl) (by rw [List.getElem?_map, ht, Option.map_some, hty]) (by rw [wsB_get hqk, hE2]; rfl) hc.1 (oI_vp hi h0 hn) hd (fun H1 locs1 hP1 hD1 hS1 => ?_)
  have ex : (Sum.inl (G.2.2 t, n, .inr (.inr (.inr (.inr (va_up (fun j : Nat => ((l'[j]?).bind id).map ad) (Int32.ofInt i).toNatClampNeg (some (ad r))))))) : va_E) = bE ad G.2.2 (f, .inr (.inl (t, l'.set i.toNat (some r)))) := by
    have : va_up (fun j : Nat => ((l'[j]?).bind id).map ad) (Int32.ofInt i).toNatClampNeg (some (ad r)) = (fun j : Nat => (((l'.set i.toNat (some r))[j]?).bind id).map ad) := by
      funext j
      rw [oI_N hi]
      by_cases h : j = i.toNat
      · subst h
        rw [List.getElem?_set_self hlt]
        simp [va_up]
      · rw [List.getElem?_set_ne (Ne.symm h)]
        simp [va_up, h]
    rw [this]
    show _ = (Sum.inl (G.2.2 t, (l'.set i.toNat (some r)).length, .inr (.inr (.inr (.inr (fun j : Nat => (((l'.set i.toNat (some r))[j]?).bind id).map ad))))) : va_E)
    rw [List.length_set, hn2]
  rw [ex, wsB_set hD hq0] at hP1 hD1
  refine kk hl (okL_tl (okL_tl (okL_tl hs))) ml (okM_tl (okM_tl (okM_tl ms))) (okB_set hB (fun r2 hr2 => ?_)) ad p e R s m args below meth c A H0 cells slots Qf hF hC h1 h2 H1 locs1 lsA hP1 hD1 hS1 hls
  have hr2 : some r2 ∈ l'.set i.toNat (some r) := hr2
  rcases List.mem_or_eq_of_mem_set hr2 with q | q
  · exact hB k hkc r2 (by rw [hE]; exact q)
  · cases q; exact hrc
theorem b_ge {x y : Int} {off : Int} {tgt : Nat} (hd : decode M.2.1 pc = .ok (.if_icmp .ge off, 3)) (ht : (pc : Int) + off = (tgt : Int)) (c : y ≤ x) (kk : BWF l G M F tgt ls st cs E ts rc rs) : BWF l G M F pc ls (vI y :: vI x :: st) cs E ts rc rs :=
  BWF.go (fun _ h => okL_tl (okL_tl h)) (fun _ h => okM_tl (okM_tl h)) (fun hs hx hb _ k => lv_icmp_ge hx hb hd ht (fun _ => k) (fun q => absurd ((oI_le (okL_hd hs) (okL_hd (okL_tl hs))).mpr c) q)) kk
theorem b_lt {x y : Int} {off : Int} {tgt : Nat} (hd : decode M.2.1 pc = .ok (.if_icmp .ge off, 3)) (ht : (pc : Int) + off = (tgt : Int)) (c : x < y) (kk : BWF l G M F (pc + 3) ls st cs E ts rc rs) : BWF l G M F pc ls (vI y :: vI x :: st) cs E ts rc rs :=
  BWF.go (fun _ h => okL_tl (okL_tl h)) (fun _ h => okM_tl (okM_tl h)) (fun hs hx hb _ k => lv_icmp_ge hx hb hd ht (fun q => absurd ((oI_le (okL_hd hs) (okL_hd (okL_tl hs))).mp q) (by omega)) (fun _ => k)) kk
theorem b_oinit {k idx : Nat} (hd : decode M.2.1 pc = .ok (.invokespecial idx, 3)) (hlk : Cond.methodLink M.1.cls idx Lib.objectInit ∈ tbG) (hw : Cond.instanceMethod Lib.objectInit ∈ tbG ∧ Cond.code Lib.objectInit ⟨#[0xb1]⟩ 1 none ∈ tbG) (hroom : 1 ≤ M.2.2.2.2.1 ∧ rsz st + 12 ≤ M.2.2.2.2.2) (kk : BWF l G M F (pc + 3) ls st cs E ts rc rs) : BWF l G M F pc ls (vR k :: st) cs E ts rc rs := by
  intro hl hs ml ms hB ad p e R s m args below meth c A H0 cells slots Qf hF hC h1 h2 H locs lsA hP hD hS hls
  obtain ⟨hx, hb, hml, hown, hts, hKB, hK, hA, hfr, hlo, hin⟩ := id hC
  refine W.objInit hx hb hown (hts _ hlk) (hts _ hw.1) (hts _ hw.2) rfl (by rw [hml]; exact hls.1) rfl hd (Nat.le_trans hroom.1 hfr) (by show 2 * 0 + _ + 12 ≤ _; rw [cat_sum]; have := hroom.2; omega) ?_
  refine W.eq (g2 := F0 m (pc + 3) lsA (st.map (cv ad))) rfl ?_
  exact kk hl (okL_tl hs) ml (okM_tl ms) hB ad p e R s m args below meth c A H0 cells slots Qf hF hC h1 h2 H locs lsA hP hD hS hls
end BHEAP
