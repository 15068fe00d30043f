def vr_up {α : Type} (f : Nat → α) (l : List Nat) (v : α) : Nat → α := fun a => if a ∈ l then v else f a
theorem vr_up_in {α : Type} {f : Nat → α} {l : List Nat} {v : α} {a : Nat} (h : a ∈ l) : vr_up f l v a = v := if_pos h
theorem vr_up_ne {α : Type} {f : Nat → α} {l : List Nat} {v : α} {a : Nat} (h : a ∉ l) : vr_up f l v a = f a := if_neg h
theorem vr_rows {L l : List Nat} {f : Nat → va_E} {e : va_E} (h : ∀ a, a ∈ l → a ∉ L) : va_pl L f ++ l.map (fun a => (a, e)) = va_pl (L ++ l) (vr_up f l e) := by
  unfold va_pl
  rw [List.map_append]
  congr 1
  · apply List.map_congr_left
    intro a ha
    rw [vr_up_ne (fun q => h a q ha)]
  · apply List.map_congr_left
    intro a ha
    rw [vr_up_in ha]
theorem vr_lay {X rows : va_W} {x : Nat × va_E} {pl : va_W} {D : va_G} {cl : List vw_C} {H : Heap} (hP : va_P D cl (((X ++ pl) ++ [x]) ++ rows) H) : va_P D cl ((X ++ [x]) ++ (pl ++ rows)) H := by
  rw [List.append_assoc (X ++ pl)] at hP
  have h := va_P.swap hP
  rw [← List.append_assoc X] at h
  have h2 := va_P.swap h
  rw [List.append_assoc (X ++ [x])] at h2
  exact h2
theorem vr_layD {X rows : va_W} {x : Nat × va_E} {pl : va_W} {A : Nat → Prop} (hD : va_D A (((X ++ pl) ++ [x]) ++ rows)) : va_D A ((X ++ [x]) ++ (pl ++ rows)) := by
  rw [List.append_assoc (X ++ pl)] at hD
  have h := va_D.swap hD
  rw [← List.append_assoc X] at h
  have h2 := va_D.swap h
  rw [List.append_assoc (X ++ [x])] at h2
  exact h2
theorem vr_outer (c : ClassId) (N h0 : Nat) : ∀ i : Nat, Jvm.Free.Multi.outerC c N h0 i = arrV c N (fun j => va_rf (if j < i then some (h0 + 1 + j) else none))
  | 0 => by
    show ({ cls := c, slots := Array.replicate N .null, vm := .none } : Cell) = _
    rw [arrV_new]
    refine congrArg (arrV c N) (funext fun j => ?_)
    simp [va_rf]
  | i + 1 => by
    show (Jvm.Free.Multi.outerC c N h0 i).setSlot i (.ref (h0 + 1 + i)) = _
    rw [vr_outer c N h0 i, arrV_store]
    refine congrArg (arrV c N) (funext fun j => ?_)
    by_cases e : j = i
    · subst e
      simp [updV, va_rf]
    · by_cases h : j < i
      · simp [updV, e, h, Nat.lt_succ_of_lt h]
      · simp [updV, e, h, show ¬ j < i + 1 by omega]
section VGM
variable {p : Program} {l : Launch} {e : Env} {R : Room} {s : State} {m : MethodId} {args : Array Value} {below : List Frame} {meth : Method} {c : Code} {H : Heap} {locs : List Loc} {cells slots : Nat} {Q : State → Prop}
variable {cc : ByteArray} {pc : Nat} {ls : Array Slot} {rest : List Value} {D : va_G} {cl : List vw_C} {A : Nat → Prop} {a : Nat} {tys : List (ClassId × FieldType)} {ws : va_W} {H0 : Heap}
theorem va_mna {X : va_W} {L : List Nat} {f : Nat → va_E} {cc : ByteArray} (hexec : p.tables.exec = Jvm.exec) (hb : c.code = cc) {own : String} {index : Nat} {ty : FieldType} {cy : ClassId} (hown : s.vm.findClass own = some m.cls) (hclink : (Cond.classLink own index ("[" ++ (FieldType.array ty).toString)).before args s = true) (hover : va_AOA ty s) (harr : (Cond.arrayClass ty).before args s = true) (hcy : s.vm.findClass (FieldType.array ty).toString = some cy)
    (hK : va_K D cl tys s) (hP : va_P D cl (X ++ va_pl L f) H) (hD : va_D A (X ++ va_pl L f)) (hS : va_S A H0 H locs) (hA : ∀ q, H0.size ≤ q → A q) {n k : Int32} {N' K' : Nat} {z : vp_A} (hn : ¬ n < 0) (hk : ¬ k < 0) (hN : n.toNatClampNeg = N') (hM : k.toNatClampNeg = K')
    (hb1 : N' * 4 ≤ 536870912) (hb2 : K' * componentBytes ty ≤ 536870912) (hb3 : K' ≤ 536870912) (hdf : fits ty (defaultValue ty) = true) (hdd : (defaultValue ty).isDefault = true) (hcells : cells + (1 + N') ≤ R.cells) (hslots : slots + (N' + N' * K') ≤ R.slots) (hz : ∀ c : ClassId, Jvm.Free.Multi.innerC c K' (defaultValue ty) = vp_cell c z) (hdg : decode cc pc = .ok (.multianewarray index 2, 4))
    (kk : ∀ (q : Nat) (r : Nat → Nat) (cA : ClassId) (H1 : Heap), (∀ i j : Nat, i < N' → j < N' → r i = r j → i = j) → (∀ i : Nat, i < N' → r i ∉ L) → va_K D cl (tys ++ [(cA, .array ty)]) s →
      va_P D cl ((X ++ [(q, .inl (cA, N', .inr (.inr (.inr (.inr (fun i => if i < N' then some (r i) else none))))))]) ++ va_pl (L ++ (List.range N').map r) (vr_up f ((List.range N').map r) (.inl (cy, z)))) H1 → va_D A ((X ++ [(q, .inl (cA, N', .inr (.inr (.inr (.inr (fun i => if i < N' then some (r i) else none))))))]) ++ va_pl (L ++ (List.range N').map r) (vr_up f ((List.range N').map r) (.inl (cy, z)))) → va_S A H0 H1 locs →
      W p l e R s m args below meth c H1 locs (cells + 1 + N') (slots + N' + N' * K') Q (F0 m (pc + 4) ls (.ref q :: rest))) : W p l e R s m args below meth c H locs cells slots Q (F0 m pc ls (.int k :: .int n :: rest)) := by
  subst hN
  subst hM
  intro T hT Xs
  obtain ⟨vm₁, cA, comp, -, fA, fC, hO, -, X', step⟩ := Xs.multianewarray2F hexec hown hclink (va_AOA.use hover) harr (g := F0 m pc ls (.int k :: .int n :: rest)) rfl (by rw [hb]; exact hdg) rfl hn hk hb1 hb2 hb3 hdf hdd hcells hslots
  have ec : some cy = some comp := hcy.symm.trans fC
  cases ec
  generalize hF : Jvm.Free.Multi.fill (T.setVm vm₁) cA cy n.toNatClampNeg k.toNatClampNeg (defaultValue ty) n.toNatClampNeg = F at X' step
  have hTh : (T.setVm vm₁).heap = H := hT
  obtain ⟨f1, f2, -, -⟩ := Jvm.Free.Multi.fill_facts (T.setVm vm₁) cA cy n.toNatClampNeg k.toNatClampNeg (defaultValue ty) n.toNatClampNeg
  rw [hF, hTh] at f1 f2
  have hold : ∀ x : Nat, x < H.size → F.heap[x]? = H[x]? := fun x hx => by
    have := Jvm.Free.Multi.fill_old (T.setVm vm₁) cA cy n.toNatClampNeg k.toNatClampNeg (defaultValue ty) (a := x) (by rw [hTh]; exact hx) n.toNatClampNeg
    rw [hF, hTh] at this
    exact this
  have hrow : ∀ j : Nat, j < n.toNatClampNeg → F.heap[H.size + 1 + j]? = some (vp_cell cy z) := fun j hj => by
    have := Jvm.Free.Multi.fill_inner (T.setVm vm₁) cA cy n.toNatClampNeg k.toNatClampNeg (defaultValue ty) n.toNatClampNeg j hj
    rw [hF, hTh, hz] at this
    exact this
  have hout : Jvm.Free.Multi.outerC cA n.toNatClampNeg H.size n.toNatClampNeg = vp_cell cA (n.toNatClampNeg, .inr (.inr (.inr (.inr (fun i => if i < n.toNatClampNeg then some (H.size + 1 + i) else none))))) := by
    rw [vp_cell_q]
    exact vr_outer cA n.toNatClampNeg H.size n.toNatClampNeg
  rw [hout] at f2
  have hlt : ∀ a, a ∈ L → a < H.size := fun a ha => by
    obtain ⟨k9, hk9⟩ := va_pl_get (X := X) (f := f) ha
    exact (hP k9 _ hk9).lt
  have hnl : ∀ i : Nat, i < n.toNatClampNeg → H.size + 1 + i ∉ L := fun i _ h => by
    have := hlt _ h
    omega
  have hnm : ∀ a, a ∈ (List.range n.toNatClampNeg).map (fun i => H.size + 1 + i) → a ∉ L := fun a ha h => by
    obtain ⟨i, -, rfl⟩ := List.mem_map.mp ha
    have := hlt _ h
    omega
  have hP0 : va_P D cl (X ++ va_pl L f) F.heap := hP.kept (fun k9 x hx => hold x.1 ((hP k9 x hx).lt))
  have hP1 : va_P D cl ((X ++ va_pl L f) ++ [(H.size, .inl (cA, n.toNatClampNeg, .inr (.inr (.inr (.inr (fun i => if i < n.toNatClampNeg then some (H.size + 1 + i) else none))))))]) F.heap := hP0.app (fun k9 x hx => by
    have h0 : k9 < 1 := (List.getElem?_eq_some_iff.mp hx).1
    rw [show k9 = 0 by omega] at hx
    cases hx
    exact f2)
  have hP2 : va_P D cl (((X ++ va_pl L f) ++ [(H.size, .inl (cA, n.toNatClampNeg, .inr (.inr (.inr (.inr (fun i => if i < n.toNatClampNeg then some (H.size + 1 + i) else none))))))]) ++ ((List.range n.toNatClampNeg).map (fun i => H.size + 1 + i)).map (fun a => (a, .inl (cy, z)))) F.heap := hP1.app (fun k9 x hx => by
    obtain ⟨a, ha, rfl⟩ := List.mem_map.mp (List.mem_of_getElem? hx)
    obtain ⟨i, hi, rfl⟩ := List.mem_map.mp ha
    exact hrow i (List.mem_range.mp hi))
  have hD2 : va_D A (((X ++ va_pl L f) ++ [(H.size, .inl (cA, n.toNatClampNeg, .inr (.inr (.inr (.inr (fun i => if i < n.toNatClampNeg then some (H.size + 1 + i) else none))))))]) ++ ((List.range n.toNatClampNeg).map (fun i => H.size + 1 + i)).map (fun a => (a, .inl (cy, z)))) := by
    have hD1 := hD.push (e := .inl (cA, n.toNatClampNeg, .inr (.inr (.inr (.inr (fun i => if i < n.toNatClampNeg then some (H.size + 1 + i) else none)))))) hP rfl (hA _ hS.1)
    generalize hW1 : (X ++ va_pl L f) ++ [(H.size, .inl (cA, n.toNatClampNeg, .inr (.inr (.inr (.inr (fun i => if i < n.toNatClampNeg then some (H.size + 1 + i) else none))))))] = W1 at hD1 hP1 ⊢
    have hle : ∀ (k9 : Nat) (x : Nat × va_E), W1[k9]? = some x → x.1 ≤ H.size := fun k9 x hx => by
      rw [← hW1] at hx
      by_cases hl : k9 < (X ++ va_pl L f).length
      · rw [List.getElem?_append_left hl] at hx
        exact Nat.le_of_lt ((hP k9 x hx).lt)
      · rw [List.getElem?_append_right (by omega)] at hx
        have h0 : k9 - (X ++ va_pl L f).length < 1 := (List.getElem?_eq_some_iff.mp hx).1
        rw [show k9 - (X ++ va_pl L f).length = 0 by omega] at hx
        cases hx
        exact Nat.le_refl _
    have hr : ∀ (k9 : Nat) (x : Nat × va_E), (((List.range n.toNatClampNeg).map (fun i => H.size + 1 + i)).map (fun a => ((a, .inl (cy, z)) : Nat × va_E)))[k9]? = some x → x.1 = H.size + 1 + k9 := fun k9 x hx => by
      rw [List.getElem?_map, List.getElem?_map] at hx
      by_cases h9 : k9 < n.toNatClampNeg
      · rw [List.getElem?_range h9] at hx
        cases hx
        rfl
      · have hn0 : (List.range n.toNatClampNeg)[k9]? = none := List.getElem?_eq_none (by rw [List.length_range]; omega)
        rw [hn0] at hx
        cases hx
    refine ⟨fun i j x y hi hj hxy => ?_, fun k9 x hx => ?_⟩
    · by_cases h1 : i < W1.length <;> by_cases h2 : j < W1.length
      · rw [List.getElem?_append_left h1] at hi
        rw [List.getElem?_append_left h2] at hj
        exact hD1.1 i j x y hi hj hxy
      · rw [List.getElem?_append_left h1] at hi
        rw [List.getElem?_append_right (by omega)] at hj
        have := hle _ _ hi
        have := hr _ _ hj
        omega
      · rw [List.getElem?_append_right (by omega)] at hi
        rw [List.getElem?_append_left h2] at hj
        have := hle _ _ hj
        have := hr _ _ hi
        omega
      · rw [List.getElem?_append_right (by omega)] at hi hj
        have := hr _ _ hi
        have := hr _ _ hj
        omega
    · by_cases h1 : k9 < W1.length
      · rw [List.getElem?_append_left h1] at hx
        exact hD1.2 k9 x hx
      · rw [List.getElem?_append_right (by omega)] at hx
        have := hr _ _ hx
        exact hA _ (by have := hS.1; omega)
  have hAr : ArrOfT s cA (.array ty) := fun N9 z9 => by
    obtain ⟨-, k9, hk9, cm9, hkk9⟩ := (hO 0 0 0).1
    exact ⟨(fun q hq => by cases hq), k9, hk9, cm9, hkk9⟩
  have hK2 : va_K D cl (tys ++ [(cA, .array ty)]) s := ⟨hK.1, fun k9 x hx => by
    by_cases hl : k9 < tys.length
    · rw [List.getElem?_append_left hl] at hx
      exact hK.2 k9 x hx
    · rw [List.getElem?_append_right (by omega)] at hx
      have h0 : k9 - tys.length < 1 := (List.getElem?_eq_some_iff.mp hx).1
      rw [show k9 - tys.length = 0 by omega] at hx
      cases hx
      exact ⟨hAr, fA⟩⟩
  obtain ⟨t, a1, b1⟩ := kk H.size (fun i => H.size + 1 + i) cA F.heap (fun i j _ _ h => by have h9 : H.size + 1 + i = H.size + 1 + j := h; omega) hnl hK2 (by rw [← vr_rows hnm]; exact vr_lay hP2) (by rw [← vr_rows hnm]; exact vr_layD hD2) ⟨by rw [f1]; have := hS.1; omega, fun x h1 h2 => (hold x (Nat.lt_of_lt_of_le h1 hS.1)).trans (hS.2.1 x h1 h2), hS.2.2⟩ F rfl X'
  refine ⟨t, step t ?_, b1⟩
  have e : T.heap.size = H.size := by rw [hT]
  rw [e]
  exact a1
end VGM
def mnE (E : Nat → BE) (k n mm : Nat) : Nat → BE := fun j => if j = k then ((fun _ => 0), .inr (.inl (3, (List.range n).map (fun i => some (k + 1 + i))))) else if k < j ∧ j ≤ k + n then ((fun _ => 0), .inl mm) else E j
def mnA (ad : Nat → Nat) (k n q : Nat) (r : Nat → Nat) : Nat → Nat := fun j => if j = k then q else if k < j ∧ j ≤ k + n then r (j - k - 1) else ad j
section BMNA
variable {l : Launch} {G : GB} {M : MI} {F : FTB} {pc : Nat} {ls : List (Nat × MV)} {st : List MV} {cs : List Nat} {E : Nat → BE} {ts : List Nat} {rc rs : Nat}
theorem mn_w {ad : Nat → Nat} {cA : Nat → ClassId} {k n mm q : Nat} {r : Nat → Nat} {f : Nat → va_E} (hB : okB cs E) (hk : ∀ j, k ≤ j → j ≤ k + n → j ∉ cs) :
    ((wsB ad cA cs E ++ [(q, .inl (cA 3, n, .inr (.inr (.inr (.inr (fun i => if i < n then some (r i) else none))))))]) ++ va_pl ([] ++ (List.range n).map r) (vr_up f ((List.range n).map r) (.inl (cA 0, (mm, .inl (fun _ => Int32.ofInt 0)))))) = wsB (mnA ad k n q r) cA ((cs ++ [k]) ++ (List.range n).map (fun i => k + 1 + i)) (mnE E k n mm) := by
  have ne : ∀ j, j ∈ cs → ¬ j = k ∧ ¬ (k < j ∧ j ≤ k + n) := fun j hj => ⟨fun z => hk j (by omega) (by omega) hj, fun z => hk j (by omega) z.2 hj⟩
  have e1 : wsB (mnA ad k n q r) cA cs (mnE E k n mm) = wsB ad cA cs E := wsB_c hB (fun j hj => by unfold mnA; rw [if_neg (ne j hj).1, if_neg (ne j hj).2]) (fun j hj => by unfold mnE; rw [if_neg (ne j hj).1, if_neg (ne j hj).2])
  have e2 : wsB (mnA ad k n q r) cA ((cs ++ [k]) ++ (List.range n).map (fun i => k + 1 + i)) (mnE E k n mm) = (wsB (mnA ad k n q r) cA cs (mnE E k n mm) ++ wsB (mnA ad k n q r) cA [k] (mnE E k n mm)) ++ wsB (mnA ad k n q r) cA ((List.range n).map (fun i => k + 1 + i)) (mnE E k n mm) := by
    unfold wsB
    rw [List.map_append, List.map_append]
  have a0 : mnA ad k n q r k = q := if_pos rfl
  have ai : ∀ i, i < n → mnA ad k n q r (k + 1 + i) = r i := fun i hi => by
    unfold mnA
    rw [if_neg (by omega), if_pos (by omega), show k + 1 + i - k - 1 = i by omega]
  have e3 : wsB (mnA ad k n q r) cA [k] (mnE E k n mm) = [(q, .inl (cA 3, n, .inr (.inr (.inr (.inr (fun i => if i < n then some (r i) else none))))))] := by
    have hE : mnE E k n mm k = ((fun _ => 0), .inr (.inl (3, (List.range n).map (fun i => some (k + 1 + i))))) := if_pos rfl
    have hf : (fun j : Nat => ((((List.range n).map (fun i => some (k + 1 + i)))[j]?).bind id).map (mnA ad k n q r)) = (fun i => if i < n then some (r i) else none) := by
      funext j
      by_cases hj : j < n
      · rw [List.getElem?_map, List.getElem?_range hj, if_pos hj]
        show some (mnA ad k n q r (k + 1 + j)) = _
        rw [ai j hj]
      · rw [List.getElem?_eq_none (by rw [List.length_map, List.length_range]; omega), if_neg hj]
        rfl
    show [(mnA ad k n q r k, bE (mnA ad k n q r) cA (mnE E k n mm k))] = _
    rw [a0, hE]
    show [(q, (Sum.inl (cA 3, ((List.range n).map (fun i => some (k + 1 + i))).length, .inr (.inr (.inr (.inr (fun j : Nat => ((((List.range n).map (fun i => some (k + 1 + i)))[j]?).bind id).map (mnA ad k n q r)))))) : va_E))] = _
    rw [hf, List.length_map, List.length_range]
  have e4 : wsB (mnA ad k n q r) cA ((List.range n).map (fun i => k + 1 + i)) (mnE E k n mm) = va_pl ([] ++ (List.range n).map r) (vr_up f ((List.range n).map r) (.inl (cA 0, (mm, .inl (fun _ => Int32.ofInt 0))))) := by
    unfold wsB va_pl
    rw [List.nil_append, List.map_map, List.map_map]
    apply List.map_congr_left
    intro i hi
    have hi2 := List.mem_range.mp hi
    show (mnA ad k n q r (k + 1 + i), bE (mnA ad k n q r) cA (mnE E k n mm (k + 1 + i))) = (r i, vr_up f ((List.range n).map r) _ (r i))
    rw [vr_up_in (List.mem_map.mpr ⟨i, hi, rfl⟩), ai i hi2]
    have hE : mnE E k n mm (k + 1 + i) = ((fun _ => 0), .inl mm) := by
      unfold mnE
      rw [if_neg (by omega), if_pos (by omega)]
    rw [hE]
    rfl
  rw [e2, e1, e3, e4]
theorem b_mna {k n mm idx t0 : Nat} {z1 z2 : Int} (h1z : z1 = n) (h2z : z2 = mm) (hd : decode M.2.1 pc = .ok (.multianewarray idx 2, 4)) (hcl : Cond.classLink M.1.cls idx ("[" ++ (FieldType.array .int).toString) ∈ tbG) (hw : Cond.arrayClass .int ∈ tbG) (hn : n ≤ 1000) (hm : mm ≤ 1000) (ht : ts[t0]? = some 0) (hst : FS F cs) (hk : ∀ j, k ≤ j → j ≤ k + n → j ∉ cs)
    (kk : BWF l G M F (pc + 4) ls (vR k :: st) ((cs ++ [k]) ++ (List.range n).map (fun i => k + 1 + i)) (mnE E k n mm) (ts ++ [3]) rc rs) : BWF l G M F pc ls (vI z2 :: vI z1 :: st) cs E ts (rc + (1 + n)) (rs + (n + n * mm)) := by
  subst h1z
  subst h2z
  intro hl hs ml ms hB ad p e R s m args below meth c A H0 cells slots Qf hF hC h1 h2 H locs lsA hP hD hS hls
  obtain ⟨hx, hb, hml, hown, hts, hKB, hK, hA, hfr, hlo, hin⟩ := id hC
  have o2 : okV (vI (mm : Int)) := okL_hd hs
  have o1 : okV (vI (n : Int)) := okL_hd (okL_tl hs)
  have hcy : s.vm.findClass (FieldType.array .int).toString = some (G.2.2 0) := (hK.2 t0 (G.2.2 0, tyA 0) (by rw [List.getElem?_map, ht]; rfl)).2
  have hX : wsB ad G.2.2 cs E ++ va_pl [] (fun _ => bE ad G.2.2 (E 0)) = wsB ad G.2.2 cs E := List.append_nil _
  refine va_mna (L := []) (f := fun _ => bE ad G.2.2 (E 0)) (z := (mm, .inl (fun _ => Int32.ofInt 0))) (ty := .int) hx hb hown (hts _ hcl) hKB.2.2.2.2.1 (hts _ hw) hcy hK (by rw [hX]; exact hP) (by rw [hX]; exact hD) hS hA (nn_of o1 (by omega)) (nn_of o2 (by omega)) (N' := n) (K' := mm) (by rw [oI_N o1]; omega) (by rw [oI_N o2]; omega) (by omega) (by show mm * 4 ≤ 536870912; omega) (by omega) rfl rfl (by omega) (by omega) (fun c => by rw [vp_cell_i, ← arrV_new]; rfl) hd (fun q r cA H1 hr hrL hK1 hP1 hD1 hS1 => ?_)
  have ec : cA = G.2.2 3 := cA_of (t := 3) hKB (by decide) hK1
  subst ec
  rw [mn_w hB hk] at hP1 hD1
  have ne : ∀ j, j ∈ cs → mnA ad k n q r j = ad j := fun j hj => by
    unfold mnA
    rw [if_neg (fun z => hk j (by omega) (by omega) hj), if_neg (fun z => hk j (by omega) z.2 hj)]
  have hF2 := hst ad _ ne _ _ _ _ _ _ _ _ _ _ _ _ _ _ hF
  rw [show cells + (rc + (1 + n)) = cells + 1 + n + rc by omega, show slots + (rs + (n + n * mm)) = slots + n + n * mm + rs by omega] at hF2
  have hC2 : CXB G M p R s m args meth c A H0 (ts ++ [3]) := ⟨hx, hb, hml, hown, hts, hKB, by rw [List.map_append]; exact hK1, hA, hfr, hlo, hin⟩
  have sub : ∀ j, j ∈ cs → j ∈ (cs ++ [k]) ++ (List.range n).map (fun i => k + 1 + i) := fun j hj => List.mem_append_left _ (List.mem_append_left _ hj)
  have hB2 : okB ((cs ++ [k]) ++ (List.range n).map (fun i => k + 1 + i)) (mnE E k n mm) := by
    intro j hj r2 hr2
    unfold mnE at hr2
    by_cases c1 : j = k
    · rw [if_pos c1] at hr2
      have hr2 : some r2 ∈ (List.range n).map (fun i => some (k + 1 + i)) := hr2
      obtain ⟨i, hi, e⟩ := List.mem_map.mp hr2
      cases e
      exact List.mem_append_right _ (List.mem_map.mpr ⟨i, hi, rfl⟩)
    · rw [if_neg c1] at hr2
      by_cases c2 : k < j ∧ j ≤ k + n
      · rw [if_pos c2] at hr2; exact absurd hr2 (fun z => z)
      · rw [if_neg c2] at hr2
        have hjc : j ∈ cs := by
          rcases List.mem_append.mp hj with q | q
          · rcases List.mem_append.mp q with q | q
            · exact q
            · exact absurd (List.mem_singleton.mp q) c1
          · obtain ⟨i, hi, e⟩ := List.mem_map.mp q
            have := List.mem_range.mp hi
            exact absurd ⟨by omega, by omega⟩ c2
        exact sub r2 (hB j hjc r2 hr2)
  have k2 := kk hl (okL_R (okL_tl (okL_tl hs))) (fun r2 q2 => sub r2 (ml r2 q2)) (okM_cR (fun r2 q2 => sub r2 (okM_tl (okM_tl ms) r2 q2)) (List.mem_append_left _ (List.mem_append_right _ (List.mem_singleton.mpr rfl)))) hB2 _ p e R s m args below meth c A H0 (cells + 1 + n) (slots + n + n * mm) Qf hF2 hC2 (by omega) (by omega) H1 locs lsA hP1 hD1 hS1 (by rw [cvp_c ml ne]; exact hls)
  have e1 : (vR k :: st).map (cv (mnA ad k n q r)) = .ref q :: st.map (cv ad) := by
    show Value.ref (mnA ad k n q r k) :: st.map (cv (mnA ad k n q r)) = _
    rw [show mnA ad k n q r k = q from if_pos rfl, cv_c (okM_tl (okM_tl ms)) ne]
  rw [e1] at k2
  exact k2
end BMNA
