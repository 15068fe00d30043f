theorem KB_m {dC : Nat → ClassId} {dI : Nat → Nat → Nat} {cA : Nat → ClassId} {u U : State} (hvm : u.vm.Alike U.vm) (hn : va_Nw wNest u → va_Nw wNest U) (h : KB dC dI cA u) : KB dC dI cA U :=
  ⟨va_K.moved hvm h.1, fun t ht c e => h.2.1 t ht c (by rw [← hvm.findClass]; exact e), va_AO.moved hvm h.2.2.1, va_AO.moved hvm h.2.2.2.1, va_AOA.moved hvm h.2.2.2.2.1, hn h.2.2.2.2.2⟩
def RB (M : MI) (rc rs : Nat) : Room := { frames := M.2.2.2.2.1, cells := rc, slots := rs, locals := M.2.2.2.2.2 }
def QcB (G : GB) (ad0 : Nat → Nat) (cs0 : List Nat) (A0 : Nat → Prop) (Q : List Nat → (Nat → BE) → Prop) : Array Value → State → Outcome → State → Prop :=
  va_Qv (S := (Nat → Nat) × List Nat × (Nat → BE)) (fun u => (∀ k, k ∈ cs0 → u.1 k = ad0 k) ∧ Q u.2.1 u.2.2 ∧ okB u.2.1 u.2.2 ∧ ∀ k, k ∈ cs0 → k ∈ u.2.1) (fun u t => va_P (G.1, G.2.1) vwCl (wsB u.1 G.2.2 u.2.1 u.2.2) t.heap ∧ va_D A0 (wsB u.1 G.2.2 u.2.1 u.2.2)) A0
def FinB (G : GB) (M : MI) (ad0 : Nat → Nat) (cs0 : List Nat) (rc0 rs0 : Nat) (A0 : Nat → Prop) (Q : List Nat → (Nat → BE) → Prop) : FTB := fun ad _ _ R s _ args below meth _ A H0 cells slots Qf => (∀ k, k ∈ cs0 → ad k = ad0 k) ∧ R = RB M rc0 rs0 ∧ meth.sig.returnType = none ∧ meth.locks = false ∧ A = A0 ∧ H0 = s.heap ∧ cells = rc0 ∧ slots = rs0 ∧ Qf = MQ below (QcB G ad0 cs0 A0 Q) args s rc0 rs0 A0
theorem FS_fin {G : GB} {M : MI} {ad0 : Nat → Nat} {cs0 cs : List Nat} {rc0 rs0 : Nat} {A0 : Nat → Prop} {Q : List Nat → (Nat → BE) → Prop} (h : ∀ k, k ∈ cs0 → k ∈ cs) : FS (FinB G M ad0 cs0 rc0 rs0 A0 Q) cs := by
  intro ad ad' ha p e R s m args below meth c A H0 cells slots Qf hF
  exact ⟨fun k hk => (ha k (h k hk)).trans (hF.1 k hk), hF.2⟩
def CB (l : Launch) (G : GB) (M : MI) (as : List MV) (cs0 : List Nat) (E0 : Nat → BE) (rc0 rs0 : Nat) (Q : List Nat → (Nat → BE) → Prop) : Prop :=
  ∀ (ad0 : Nat → Nat) (A0 : Nat → Prop), BWF l G M (FinB G M ad0 cs0 rc0 rs0 A0 Q) 0 (lsO 0 as) [] cs0 E0 [] rc0 rs0
section BCALL
variable {l : Launch} {G : GB} {M : MI} {F : FTB} {pc : Nat} {ls : List (Nat × MV)} {st : List MV} {cs : List Nat} {E : Nat → BE} {ts : List Nat} {rc rs : Nat}
theorem b_ret {ad0 : Nat → Nat} {cs0 : List Nat} {rc0 rs0 : Nat} {A0 : Nat → Prop} {Q : List Nat → (Nat → BE) → Prop} (hd : decode M.2.1 pc = .ok (.return_, 1)) (h : Q cs E) (hs0 : ∀ k, k ∈ cs0 → k ∈ cs) : BWF l G M (FinB G M ad0 cs0 rc0 rs0 A0 Q) pc ls [] cs E ts rc rs := by
  intro hl hs ml ms hB ad p e R s m args below meth c A H0 cells slots Qf hF hC h1 h2 H locs lsA hP hD hS hls
  obtain ⟨hx, hb, hml, hown, hts, hKB, hK, hA, hfr, hlo, hin⟩ := id hC
  obtain ⟨f1, rfl, f3, f4, rfl, rfl, f7, f8, rfl⟩ := hF
  refine W.widen (k := rc0) (n := rs0) (by omega) (by omega) ?_
  exact W.vret hx hb f3 (fun t ht hW => ⟨⟨(ad, cs, E), rfl, ⟨f1, h, hB, hs0⟩, by rw [ht]; exact hP, hD⟩, hS.F ht⟩) (fun q hq => hS.2.2 q hq) hd f4
def PcB (G : GB) (as : List MV) (ad0 : Nat → Nat) (cs0 : List Nat) (E0 : Nat → BE) (sz : Nat) : Array Value → State → Prop := va_Pc (as.map (cv ad0)) (fun U => U.heap.size = sz ∧ va_P (G.1, G.2.1) vwCl (wsB ad0 G.2.2 cs0 E0) U.heap ∧ KB G.1 G.2.1 G.2.2 U ∧ va_D (fun _ => True) (wsB ad0 G.2.2 cs0 E0))
theorem PcB_blind {as : List MV} {ad0 : Nat → Nat} {cs0 : List Nat} {E0 : Nat → BE} {sz : Nat} : FrameBlind (PcB G as ad0 cs0 E0 sz) := fun a U g mk q => by
  obtain ⟨q0, q1, qP, qK, qD⟩ := q
  exact ⟨q0, q1, qP, KB_m (u := U) (U := U.calling g mk a) (Vm.Alike.refl U.vm) (fun z => va_tabs (A := #[]) (A' := #[]) (u := U) (U := U.calling g mk a) rfl rfl z) qK, qD⟩
theorem metB {n : Nat} {as : List MV} {cs0 : List Nat} {E0 : Nat → BE} {rc0 rs0 : Nat} {Q : List Nat → (Nat → BE) → Prop} (hM : MOK M n) (hret : M.2.2.2.1 = none) (h : CB l G M as cs0 E0 rc0 rs0 Q) (ha : okL as) (hm : okM cs0 as) (hB : okB cs0 E0) (hlen : as.length ≤ M.2.2.1) (ad0 : Nat → Nat) (sz : Nat) (hj : noJ as = true := by rfl) : Met l M.1 (wsM M) (RB M rc0 rs0) (PcB G as ad0 cs0 E0 sz) (QcB G ad0 cs0 (va_A (wsB ad0 G.2.2 cs0 E0) sz) Q) rc0 rs0 (va_A (wsB ad0 G.2.2 cs0 E0) sz) := by
  refine Met.ofW (cc := M.2.1) (maxL := M.2.2.1) (ret := M.2.2.2.1) hM.1 rfl ?_
  intro p e s m av below meth c s₁ B hml hv
  obtain ⟨rfl, hsz, hP, hK, hD⟩ := hv
  have hts : ∀ w ∈ tbG, w.before _ s = true := fun w hw => atoms_spec (ws := wsM M) B.pre w (List.mem_cons_of_mem _ hw)
  have hown : s.vm.findClass M.1.cls = some m.cls := findClass_of_methodNamed B.named
  rw [lg_entry_eq]
  have hl := lv_entry (as.map (cv ad0)) (n := M.2.2.1) (by rw [lg_len _ _ hj]; exact hlen)
  rw [lsO_args _ _ _ hj] at hl
  have hD2 : va_D (va_A (wsB ad0 G.2.2 cs0 E0) sz) (wsB ad0 G.2.2 cs0 E0) := ⟨hD.1, fun k q hk => Or.inl ⟨k, q.2, hk⟩⟩
  exact h ad0 (va_A (wsB ad0 G.2.2 cs0 E0) sz) (by rw [lsO_ok]; exact ha) okL_nil (by rw [lsO_ok]; exact hm) (fun r hr => by cases hr) hB ad0 p e (RB M rc0 rs0) s m _ below meth c (va_A (wsB ad0 G.2.2 cs0 E0) sz) s.heap 0 0 _ ⟨fun _ _ => rfl, rfl, B.returns.trans hret, B.notSynchronized, rfl, rfl, by omega, by omega, rfl⟩ ⟨B.exec, B.bytes, hml, hown, hts, hK, ⟨hK.1.1, fun k q hk => by cases hk⟩, fun q hq => Or.inr (by rw [← hsz]; exact hq), Nat.le_refl _, Nat.le_refl _, (name_of_methodNamed B.named B.method).1⟩ (by show 0 + rc0 ≤ rc0; omega) (by show 0 + rs0 ≤ rs0; omega) s.heap [] _ hP hD2 va_S.rf hl
theorem b_back {rest : List MV} {rc0 rs0 : Nat} {Q : List Nat → (Nat → BE) → Prop} (hfs : FS F cs) (kk : ∀ cs' E', Q cs' E' → (∀ j, j ∈ cs → j ∈ cs') → BWF l G M F (pc + 3) ls rest cs' E' ts rc rs) (hl : okL (ls.map (·.2))) (hr : okL rest) (ml : okM cs (ls.map (·.2))) (mr : okM cs rest) {ad : Nat → Nat} {p : Program} {e : Env} {R : Room} {s : State} {m : MethodId} {args : Array Value} {below : List Frame} {meth : Method} {c : Code} {A : Nat → Prop} {H0 : Heap} {cells slots : Nat} {Qf : State → Prop}
    (hF : F ad p e R s m args below meth c A H0 (cells + (rc + rc0)) (slots + (rs + rs0)) Qf) (hC : CXB G M p R s m args meth c A H0 ts) (h1 : cells + (rc + rc0) ≤ R.cells) (h2 : slots + (rs + rs0) ≤ R.slots) {H : Heap} {locs : List Loc} {lsA : Array Slot} {st0 : List Value} {av : Array Value} (hD : va_D A (wsB ad G.2.2 cs E)) (hS : va_S A H0 H locs) (hls : lv_has lsA M.2.2.1 (ls.map (cvp ad)))
    (hrun : va_Run p l e R s m args below meth c H locs cells slots rc0 rs0 (F0 m pc lsA st0) (rest.map (cv ad)) (QcB G ad cs (va_A (wsB ad G.2.2 cs E) H.size) Q av) (va_A (wsB ad G.2.2 cs E) H.size)) : W p l e R s m args below meth c H locs cells slots Qf (F0 m pc lsA st0) := by
  have hA := hC.2.2.2.2.2.2.2.1
  have hFc : ∀ q, va_A (wsB ad G.2.2 cs E) H.size q → A q := by
    rintro q (⟨k, x, h⟩ | h)
    · exact hD.2 k (q, x) h
    · exact hA q (Nat.le_trans hS.1 h)
  refine va_callv hrun hS (fun q _ h => hFc q h) hFc (fun u t H1 locs1 ht hvm hp hB2 hz1 hk1 hS1 => ?_)
  obtain ⟨ad', cs', E'⟩ := u
  obtain ⟨a1, a2, a3, a4⟩ := hp
  obtain ⟨hP1, hD1⟩ := hB2
  rw [ht] at hP1
  have hF2 := hfs ad ad' a1 _ _ _ _ _ _ _ _ _ _ _ _ _ _ hF
  rw [show cells + (rc + rc0) = cells + rc0 + rc by omega, show slots + (rs + rs0) = slots + rs0 + rs by omega] at hF2
  have k2 := kk cs' E' a2 a4 hl hr (fun r q => a4 r (ml r q)) (fun r q => a4 r (mr r q)) a3 ad' p e R s m args below meth c A H0 (cells + rc0) (slots + rs0) Qf hF2 hC (by omega) (by omega) H1 locs1 lsA hP1 ⟨hD1.1, fun k q hk => hFc _ (hD1.2 k q hk)⟩ hS1 (by rw [cvp_c ml a1]; exact hls)
  rw [cv_c mr a1] at k2
  exact k2
theorem b_call {M' : MI} {n idx k : Nat} {rc0 rs0 : Nat} {Q : List Nat → (Nat → BE) → Prop} (as rest : List MV) (hd : decode M.2.1 pc = .ok (.invokespecial idx, 3)) (hM' : MOK M' n) (hret : M'.2.2.2.1 = none) (hnm : M'.1.name = "<init>") (him : Cond.instanceMethod M'.1 ∈ tbG) (hlk : Cond.methodLink M.1.cls idx M'.1 ∈ tbG) (hn : as.length = n) (hst : as.reverse ++ vR k :: rest = st)
    (hroom : as.length + 1 ≤ M'.2.2.1 ∧ M'.2.2.2.2.1 + 1 ≤ M.2.2.2.2.1 ∧ 8 + (M'.2.2.1 + 11) + M'.2.2.2.2.2 ≤ M.2.2.2.2.2 ∧ rsz rest ≤ 8) (hfs : FS F cs) (hc : CB l G M' (vR k :: as) cs E rc0 rs0 Q)
    (kk : ∀ cs' E', Q cs' E' → (∀ j, j ∈ cs → j ∈ cs') → BWF l G M F (pc + 3) ls rest cs' E' ts rc rs) (hj : noJ as = true := by rfl) : BWF l G M F pc ls st cs E ts (rc + rc0) (rs + rs0) := by
  subst hst
  intro hl hs ml ms hB ad p e R s m args below meth c A H0 cells slots Qf hF hC h1 h2 H locs lsA hP hD hS hls
  obtain ⟨hx, hb, hml, hown, hts, hKB, hK, hA, hfr, hlo, hin⟩ := id hC
  have hok : okL (vR k :: as) := okL_R (fun v hv => hs v (List.mem_append_left _ (List.mem_reverse.mpr hv)))
  have hokr : okL rest := fun v hv => hs v (List.mem_append_right _ (List.mem_cons_of_mem _ hv))
  have hmk : okM cs (vR k :: as) := fun r hr => ms r (by
    rcases List.mem_cons.mp hr with q | q
    · rw [q]; exact List.mem_append_right _ List.mem_cons_self
    · exact List.mem_append_left _ (List.mem_reverse.mpr q))
  have hmr : okM cs rest := fun r hr => ms r (List.mem_append_right _ (List.mem_cons_of_mem _ hr))
  have hm := metB hM' hret hc hok hmk hB (by rw [List.length_cons]; exact hroom.1) ad H.size (by unfold noJ at hj ⊢; rw [List.all_cons, hj]; rfl)
  have hg := wsM_good hM'
  have hcw : Cond.code M'.1 M'.2.1 M'.2.2.1 none ∈ wsM M' := by rw [← hret]; exact List.mem_cons_self
  have cw : CallB R s args M.1.cls idx M'.1 M'.2.1 M'.2.2.1 none (wsM M') (RB M' rc0 rs0) rc0 rs0 n ∧ M'.1.name = "<init>" ∧ (Cond.instanceMethod M'.1).before args s = true :=
    ⟨⟨rfl, rfl, Nat.le_trans hroom.2.1 hfr, Nat.le_trans hroom.2.2.1 hlo, pay_in hts hg, hcw, hts _ (by rw [← hret]; exact hM'.2.2.2.1), hts _ hM'.2.2.2.2, hM'.2.1, fun sig h => by
      have h2 := hM'.2.2.1
      rw [h] at h2
      exact (Option.some.inj h2).symm, hts _ hlk⟩, hnm, hts _ him⟩
  refine b_back hfs kk hl hokr ml hmr hF hC h1 h2 hD hS hls (va_runI (As := as.map (cv ad)) (rest := rest.map (cv ad)) (b := ad k) ⟨hx, hb, hml, hown, hts⟩ hm cw ⟨PcB_blind, fun U hU hW => ⟨rfl, by rw [hU], by rw [hU]; exact hP, KB_m hW.alike (fun z => va_Nw.warmM hW z) hKB, ⟨hD.1, fun _ _ _ => trivial⟩⟩⟩ rfl (by rw [List.length_map]; exact hn) hls.1 (by show List.map (cv ad) (as.reverse ++ vR k :: rest) = _; rw [List.map_append, List.map_reverse]; rfl) (lv_room (by rw [cat_sum]; exact hroom.2.2.2)) hd ⟨by omega, by omega⟩)
theorem b_callN {M' : MI} {n idx k : Nat} {rc0 rs0 : Nat} {Q : List Nat → (Nat → BE) → Prop} (as rest : List MV) (hd : decode M.2.1 pc = .ok (.invokespecial idx, 3)) (hM' : MOK M' n) (hret : M'.2.2.2.1 = none) (hnm : M'.1.name = "<init>") (him : Cond.instanceMethod M'.1 ∈ tbG) (hlk : Cond.methodLinkNest M.1.cls idx M'.1 "SharedRides" = wNest) (hn : as.length = n) (hst : as.reverse ++ vR k :: rest = st)
    (hroom : as.length + 1 ≤ M'.2.2.1 ∧ M'.2.2.2.2.1 + 1 ≤ M.2.2.2.2.1 ∧ 8 + (M'.2.2.1 + 11) + M'.2.2.2.2.2 ≤ M.2.2.2.2.2 ∧ rsz rest ≤ 8) (hfs : FS F cs) (hc : CB l G M' (vR k :: as) cs E rc0 rs0 Q)
    (kk : ∀ cs' E', Q cs' E' → (∀ j, j ∈ cs → j ∈ cs') → BWF l G M F (pc + 3) ls rest cs' E' ts rc rs) (hj : noJ as = true := by rfl) : BWF l G M F pc ls st cs E ts (rc + rc0) (rs + rs0) := by
  subst hst
  intro hl hs ml ms hB ad p e R s m args below meth c A H0 cells slots Qf hF hC h1 h2 H locs lsA hP hD hS hls
  obtain ⟨hx, hb, hml, hown, hts, hKB, hK, hA, hfr, hlo, hin⟩ := id hC
  have hok : okL (vR k :: as) := okL_R (fun v hv => hs v (List.mem_append_left _ (List.mem_reverse.mpr hv)))
  have hokr : okL rest := fun v hv => hs v (List.mem_append_right _ (List.mem_cons_of_mem _ hv))
  have hmk : okM cs (vR k :: as) := fun r hr => ms r (by
    rcases List.mem_cons.mp hr with q | q
    · rw [q]; exact List.mem_append_right _ List.mem_cons_self
    · exact List.mem_append_left _ (List.mem_reverse.mpr q))
  have hmr : okM cs rest := fun r hr => ms r (List.mem_append_right _ (List.mem_cons_of_mem _ hr))
  have hm := metB hM' hret hc hok hmk hB (by rw [List.length_cons]; exact hroom.1) ad H.size (by unfold noJ at hj ⊢; rw [List.all_cons, hj]; rfl)
  have hg := wsM_good hM'
  have hw2 : wsM M' = Cond.code M'.1 M'.2.1 M'.2.2.1 none :: tbG := by unfold wsM; rw [hret]
  have cw : va_CN R s args M.1.cls idx M'.1 "SharedRides" M'.2.1 M'.2.2.1 none (wsM M') (RB M' rc0 rs0) rc0 rs0 n ∧ M'.1.name = "<init>" ∧ (Cond.instanceMethod M'.1).before args s = true :=
    ⟨va_cnB n hts hg hw2 rfl rfl (by rw [hlk]; exact hKB.2.2.2.2.2) (hts _ hM'.2.2.2.2) ⟨hM'.2.1.1, hM'.2.1.2, hM'.2.2.1⟩ ⟨Nat.le_trans hroom.2.1 hfr, Nat.le_trans hroom.2.2.1 hlo⟩, hnm, hts _ him⟩
  refine b_back hfs kk hl hokr ml hmr hF hC h1 h2 hD hS hls (va_runIN (As := as.map (cv ad)) (rest := rest.map (cv ad)) (b := ad k) ⟨hx, hb, hml, hown, hts⟩ hm cw ⟨PcB_blind, fun U hU hW => ⟨rfl, by rw [hU], by rw [hU]; exact hP, KB_m hW.alike (fun z => va_Nw.warmM hW z) hKB, ⟨hD.1, fun _ _ _ => trivial⟩⟩⟩ rfl (by rw [List.length_map]; exact hn) hls.1 (by show List.map (cv ad) (as.reverse ++ vR k :: rest) = _; rw [List.map_append, List.map_reverse]; rfl) (lv_room (by rw [cat_sum]; exact hroom.2.2.2)) hd ⟨by omega, by omega⟩)
end BCALL
