def tbG : List Cond := lw_tbl.filter goodWord
theorem tb_in (i : Nat) {w : Cond} (h : lw_tbl[i]? = some w) (g : goodWord w = true) : w ∈ tbG := List.mem_filter.mpr ⟨List.mem_of_getElem? h, g⟩
abbrev MV : Type := Int ⊕ (Nat ⊕ Int64)
abbrev vI (z : Int) : MV := Sum.inl z
abbrev vR (k : Nat) : MV := Sum.inr (Sum.inl k)
abbrev vJ (z : Int64) : MV := Sum.inr (Sum.inr z)
def isJ (v : MV) : Bool := match v with
  | .inl _ => false
  | .inr (.inl _) => false
  | .inr (.inr _) => true
def noJ (l : List MV) : Bool := l.all (fun v => !(isJ v))
def rsz : List MV → Nat
  | [] => 0
  | v :: t => (if isJ v = true then 2 else 1) + rsz t
abbrev Sto : Type := Nat → Nat → Int
abbrev Sh : Type := Nat ⊕ ((Nat × List Nat) ⊕ (Nat × List (Option Nat)))
def cv (ad : Nat → Nat) (v : MV) : Value := match v with
  | .inl z => .int (Int32.ofInt z)
  | .inr (.inl k) => .ref (ad k)
  | .inr (.inr z) => .long z
def cvp (ad : Nat → Nat) (q : Nat × MV) : Nat × Value := (q.1, cv ad q.2)
def okV (v : MV) : Prop := match v with
  | .inl z => -2147483648 ≤ z ∧ z ≤ 2147483647
  | .inr _ => True
def okL (l : List MV) : Prop := ∀ v ∈ l, okV v
def okS (σ : Sto) : Prop := ∀ k i, -2147483648 ≤ σ k i ∧ σ k i ≤ 2147483647
theorem okL_cons {v : MV} {l : List MV} (h : okV v) (hl : okL l) : okL (v :: l) := fun w hw => by
  rcases List.mem_cons.mp hw with rfl | hw
  · exact h
  · exact hl w hw
theorem okL_I {z : Int} {l : List MV} (h : -2147483648 ≤ z ∧ z ≤ 2147483647) (hl : okL l) : okL (vI z :: l) := okL_cons (v := vI z) h hl
theorem okL_R {k : Nat} {l : List MV} (hl : okL l) : okL (vR k :: l) := okL_cons (v := vR k) trivial hl
theorem okL_hd {v : MV} {l : List MV} (h : okL (v :: l)) : okV v := h v List.mem_cons_self
theorem okL_tl {v : MV} {l : List MV} (h : okL (v :: l)) : okL l := fun w hw => h w (List.mem_cons_of_mem _ hw)
theorem okL_nil : okL [] := fun _ h => by cases h
theorem okL_get {ls : List (Nat × MV)} (h : okL (ls.map (·.2))) {j i : Nat} {v : MV} (hj : ls[j]? = some (i, v)) : okV v :=
  h v (List.mem_map.mpr ⟨(i, v), List.mem_of_getElem? hj, rfl⟩)
def stS (σ : Sto) (k i : Nat) (x : Int) : Sto := fun k' i' => if k' = k ∧ i' = i then x else σ k' i'
def cpS (σ : Sto) (a b n : Nat) : Sto := fun k i => if k = b ∧ i < n then σ a i else σ k i
theorem okS_st {σ : Sto} (h : okS σ) {k i : Nat} {x : Int} (hx : okV (vI x)) : okS (stS σ k i x) := fun k' i' => by
  unfold stS
  split
  · exact hx
  · exact h k' i'
theorem okS_cp {σ : Sto} (h : okS σ) {a b n : Nat} : okS (cpS σ a b n) := fun k i => by
  unfold cpS
  split
  · exact h a i
  · exact h k i
def cF (ad : Nat → Nat) (f : Nat → Int) : Nat → List (Option Nat) → List Value
  | _, [] => []
  | j, none :: t => .int (Int32.ofInt (f j)) :: cF ad f (j + 1) t
  | j, some r :: t => .ref (ad r) :: cF ad f (j + 1) t
def cFv (ad : Nat → Nat) (f : Nat → Int) (j : Nat) (o : Option Nat) : Value := match o with
  | none => .int (Int32.ofInt (f j))
  | some r => .ref (ad r)
theorem cF_get (ad : Nat → Nat) (f : Nat → Int) : ∀ (fs : List (Option Nat)) (j0 j : Nat), (cF ad f j0 fs)[j]? = (fs[j]?).map (cFv ad f (j0 + j))
  | [], j0, j => by simp [cF]
  | none :: t, j0, 0 => by simp [cF, cFv]
  | some r :: t, j0, 0 => by simp [cF, cFv]
  | none :: t, j0, j + 1 => by
    rw [cF, List.getElem?_cons_succ, List.getElem?_cons_succ, cF_get ad f t (j0 + 1) j, show j0 + 1 + j = j0 + (j + 1) by omega]
  | some r :: t, j0, j + 1 => by
    rw [cF, List.getElem?_cons_succ, List.getElem?_cons_succ, cF_get ad f t (j0 + 1) j, show j0 + 1 + j = j0 + (j + 1) by omega]
theorem cF_len (ad : Nat → Nat) (f : Nat → Int) : ∀ (fs : List (Option Nat)) (j0 : Nat), (cF ad f j0 fs).length = fs.length
  | [], j0 => rfl
  | none :: t, j0 => by rw [cF, List.length_cons, List.length_cons, cF_len ad f t (j0 + 1)]
  | some r :: t, j0 => by rw [cF, List.length_cons, List.length_cons, cF_len ad f t (j0 + 1)]
theorem cF_set (ad : Nat → Nat) (f g : Nat → Int) (fs : List (Option Nat)) (j : Nat) (h : fs[j]? = some none) (ho : ∀ i, i ≠ j → g i = f i) : (cF ad f 0 fs).set j (.int (Int32.ofInt (g j))) = cF ad g 0 fs := by
  apply List.ext_getElem?
  intro i
  by_cases hi : i = j
  · subst hi
    have hl : i < (cF ad f 0 fs).length := by rw [cF_len]; exact (List.getElem?_eq_some_iff.mp h).1
    rw [List.getElem?_set_self hl, cF_get, h, Nat.zero_add]
    rfl
  · rw [List.getElem?_set_ne (Ne.symm hi), cF_get, cF_get, Nat.zero_add]
    cases fs[i]? with
    | none => rfl
    | some o =>
      cases o with
      | none => show some (Value.int _) = some (Value.int _); rw [ho i hi]
      | some r => rfl
def cE (ad : Nat → Nat) (cA : Nat → ClassId) (f : Nat → Int) (x : Sh) : va_E := match x with
  | .inl n => .inl (cA 0, n, .inl (fun j => Int32.ofInt (f j)))
  | .inr (.inl (t, l)) => .inl (cA t, l.length, .inr (.inr (.inr (.inr (fun j => (l[j]?).map ad)))))
  | .inr (.inr (ci, fs)) => .inr (ci, cF ad f 0 fs)
def shL : List Sh := [.inr (.inr (7, [some 1, some 74, some 53, some 40, some 50, some 52])), .inr (.inr (4, [none, none, none, some 2, some 3, some 4, some 5, some 6, some 7, some 8, some 9, some 10, some 11])), .inl 4, .inl 4, .inl 4, .inl 12,
  .inl 24, .inl 24, .inl 24, .inl 28, .inl 28, .inr (.inl (3, [12, 13, 14, 15, 16, 17, 18, 19, 20, 21, 22, 23, 24, 25, 26, 27, 28, 29, 30, 31, 32, 33, 34, 35, 36, 37, 38, 39])),
  .inl 28, .inl 28, .inl 28, .inl 28, .inl 28, .inl 28,
  .inl 28, .inl 28, .inl 28, .inl 28, .inl 28, .inl 28,
  .inl 28, .inl 28, .inl 28, .inl 28, .inl 28, .inl 28,
  .inl 28, .inl 28, .inl 28, .inl 28, .inl 28, .inl 28,
  .inl 28, .inl 28, .inl 28, .inl 28, .inr (.inr (6, [some 41, some 42, some 43, some 44, none, some 1, some 45, some 46, some 47, some 48, some 49, none, none])), .inl 24,
  .inl 24, .inl 24, .inl 25, .inl 24, .inl 24, .inl 24,
  .inl 24, .inl 24, .inr (.inr (1, [none, none, none, none, none, some 1, some 40, some 51])), .inr (.inr (5, [none, none, none, some 55])), .inr (.inr (2, [none, none, none, none, some 85, some 1, some 50, some 96, some 107, none])), .inr (.inr (0, [none, none, some 54])),
  .inr (.inl (2, [118, 129, 140, 151, 162, 173, 184, 195, 206, 217])), .inl 24, .inl 64, .inr (.inl (99, [])), .inr (.inl (99, [])), .inr (.inl (99, [])),
  .inr (.inl (99, [])), .inr (.inl (99, [])), .inr (.inl (99, [])), .inr (.inl (99, [])), .inr (.inl (99, [])), .inr (.inl (99, [])),
  .inr (.inl (99, [])), .inr (.inl (99, [])), .inr (.inl (99, [])), .inr (.inl (99, [])), .inr (.inl (99, [])), .inr (.inl (99, [])),
  .inr (.inl (99, [])), .inr (.inl (99, [])), .inr (.inr (3, [some 75, some 76])), .inr (.inl (1, [77, 78, 79, 80])), .inl 12, .inr (.inr (5, [none, none, none, some 81])),
  .inr (.inr (5, [none, none, none, some 82])), .inr (.inr (5, [none, none, none, some 83])), .inr (.inr (5, [none, none, none, some 84])), .inl 24, .inl 24, .inl 24,
  .inl 24, .inr (.inr (3, [some 86, some 87])), .inr (.inl (1, [88, 89, 90, 91])), .inl 12, .inr (.inr (5, [none, none, none, some 92])), .inr (.inr (5, [none, none, none, some 93])),
  .inr (.inr (5, [none, none, none, some 94])), .inr (.inr (5, [none, none, none, some 95])), .inl 24, .inl 24, .inl 24, .inl 24,
  .inr (.inr (3, [some 97, some 98])), .inr (.inl (1, [99, 100, 101, 102])), .inl 12, .inr (.inr (5, [none, none, none, some 103])), .inr (.inr (5, [none, none, none, some 104])), .inr (.inr (5, [none, none, none, some 105])),
  .inr (.inr (5, [none, none, none, some 106])), .inl 24, .inl 24, .inl 24, .inl 24, .inr (.inr (3, [some 108, some 109])),
  .inr (.inl (1, [110, 111, 112, 113])), .inl 12, .inr (.inr (5, [none, none, none, some 114])), .inr (.inr (5, [none, none, none, some 115])), .inr (.inr (5, [none, none, none, some 116])), .inr (.inr (5, [none, none, none, some 117])),
  .inl 24, .inl 24, .inl 24, .inl 24, .inr (.inr (3, [some 119, some 120])), .inr (.inl (1, [121, 122, 123, 124])),
  .inl 12, .inr (.inr (5, [none, none, none, some 125])), .inr (.inr (5, [none, none, none, some 126])), .inr (.inr (5, [none, none, none, some 127])), .inr (.inr (5, [none, none, none, some 128])), .inl 24,
  .inl 24, .inl 24, .inl 24, .inr (.inr (3, [some 130, some 131])), .inr (.inl (1, [132, 133, 134, 135])), .inl 12,
  .inr (.inr (5, [none, none, none, some 136])), .inr (.inr (5, [none, none, none, some 137])), .inr (.inr (5, [none, none, none, some 138])), .inr (.inr (5, [none, none, none, some 139])), .inl 24, .inl 24,
  .inl 24, .inl 24, .inr (.inr (3, [some 141, some 142])), .inr (.inl (1, [143, 144, 145, 146])), .inl 12, .inr (.inr (5, [none, none, none, some 147])),
  .inr (.inr (5, [none, none, none, some 148])), .inr (.inr (5, [none, none, none, some 149])), .inr (.inr (5, [none, none, none, some 150])), .inl 24, .inl 24, .inl 24,
  .inl 24, .inr (.inr (3, [some 152, some 153])), .inr (.inl (1, [154, 155, 156, 157])), .inl 12, .inr (.inr (5, [none, none, none, some 158])), .inr (.inr (5, [none, none, none, some 159])),
  .inr (.inr (5, [none, none, none, some 160])), .inr (.inr (5, [none, none, none, some 161])), .inl 24, .inl 24, .inl 24, .inl 24,
  .inr (.inr (3, [some 163, some 164])), .inr (.inl (1, [165, 166, 167, 168])), .inl 12, .inr (.inr (5, [none, none, none, some 169])), .inr (.inr (5, [none, none, none, some 170])), .inr (.inr (5, [none, none, none, some 171])),
  .inr (.inr (5, [none, none, none, some 172])), .inl 24, .inl 24, .inl 24, .inl 24, .inr (.inr (3, [some 174, some 175])),
  .inr (.inl (1, [176, 177, 178, 179])), .inl 12, .inr (.inr (5, [none, none, none, some 180])), .inr (.inr (5, [none, none, none, some 181])), .inr (.inr (5, [none, none, none, some 182])), .inr (.inr (5, [none, none, none, some 183])),
  .inl 24, .inl 24, .inl 24, .inl 24, .inr (.inr (3, [some 185, some 186])), .inr (.inl (1, [187, 188, 189, 190])),
  .inl 12, .inr (.inr (5, [none, none, none, some 191])), .inr (.inr (5, [none, none, none, some 192])), .inr (.inr (5, [none, none, none, some 193])), .inr (.inr (5, [none, none, none, some 194])), .inl 24,
  .inl 24, .inl 24, .inl 24, .inr (.inr (3, [some 196, some 197])), .inr (.inl (1, [198, 199, 200, 201])), .inl 12,
  .inr (.inr (5, [none, none, none, some 202])), .inr (.inr (5, [none, none, none, some 203])), .inr (.inr (5, [none, none, none, some 204])), .inr (.inr (5, [none, none, none, some 205])), .inl 24, .inl 24,
  .inl 24, .inl 24, .inr (.inr (3, [some 207, some 208])), .inr (.inl (1, [209, 210, 211, 212])), .inl 12, .inr (.inr (5, [none, none, none, some 213])),
  .inr (.inr (5, [none, none, none, some 214])), .inr (.inr (5, [none, none, none, some 215])), .inr (.inr (5, [none, none, none, some 216])), .inl 24, .inl 24, .inl 24,
  .inl 24, .inr (.inr (3, [some 218, some 219])), .inr (.inl (1, [220, 221, 222, 223])), .inl 12, .inr (.inr (5, [none, none, none, some 224])), .inr (.inr (5, [none, none, none, some 225])),
  .inr (.inr (5, [none, none, none, some 226])), .inr (.inr (5, [none, none, none, some 227])), .inl 24, .inl 24, .inl 24, .inl 24]
def shN : Sh := .inr (.inl (99, []))
def shp (k : Nat) : Sh := shL.getD k shN
def bas (k : Nat) : Prop := k < 57 ∨ (74 ≤ k ∧ k < 228)
def pos (k : Nat) : Nat := if k < 57 then k else k - 17
def bL : List Nat := List.range 57 ++ (List.range 154).map (fun j => j + 74)
theorem bL_len : bL.length = 211 := by decide +kernel
theorem bL_at : ∀ j, j < 211 → bL[j]? = some (if j < 57 then j else j + 17) := by decide +kernel
theorem bL_get {k : Nat} (h : bas k) : bL[pos k]? = some k := by
  unfold bas at h
  unfold pos
  by_cases c : k < 57
  · rw [if_pos c, bL_at k (by omega), if_pos c]
  · rw [if_neg c, bL_at (k - 17) (by omega), if_neg (by omega), show k - 17 + 17 = k by omega]
theorem pos_lt {k : Nat} (h : bas k) : pos k < 211 := by
  unfold bas at h
  unfold pos
  split <;> omega
theorem bL_inv {j k : Nat} (h : bL[j]? = some k) : bas k ∧ j = pos k := by
  have hj : j < 211 := by
    have := (List.getElem?_eq_some_iff.mp h).1
    rwa [bL_len] at this
  rw [bL_at j hj] at h
  have h := (Option.some.inj h).symm
  unfold bas pos
  by_cases c : j < 57
  · rw [if_pos c] at h; subst h; rw [if_pos c]; exact ⟨Or.inl c, rfl⟩
  · rw [if_neg c] at h; subst h; rw [if_neg (by omega)]; exact ⟨Or.inr (by omega), by omega⟩
theorem shp_lt {k : Nat} {x : Sh} (h : shp k = x) (hx : x ≠ shN) : bas k := by
  by_cases hk : bas k
  · exact hk
  · exfalso
    apply hx
    rw [← h]
    unfold bas at hk
    by_cases c : k < 228
    · have h2 := List.all_eq_true.mp (show (List.range 17).all (fun j => decide (shp (57 + j) = shN)) = true by decide +kernel) (k - 57) (List.mem_range.mpr (by omega))
      have h3 := of_decide_eq_true h2
      rw [show 57 + (k - 57) = k by omega] at h3
      exact h3
    · unfold shp
      rw [List.getD_eq_getElem?_getD, List.getElem?_eq_none (by rw [show shL.length = 228 from by decide +kernel]; omega)]
      rfl
theorem shp_lt_a {k n : Nat} (h : shp k = .inl n) : bas k := shp_lt h (by intro q; cases q)
theorem shp_lt_o {k ci : Nat} {fs : List (Option Nat)} (h : shp k = .inr (.inr (ci, fs))) : bas k := shp_lt h (by intro q; cases q)
theorem shp_lt_r {k t : Nat} {l : List Nat} (h : shp k = .inr (.inl (t, l))) (hl : l ≠ []) : bas k := shp_lt h (by intro q; cases q; exact hl rfl)
abbrev GT : Type := (Nat → ClassId) × (Nat → Nat → Nat) × (Nat → Nat) × (Nat → ClassId) × Nat
abbrev MI : Type := MethodName × ByteArray × Nat × Option FieldType × Nat × Nat
abbrev FT : Type := Program → Env → Room → State → MethodId → Array Value → List Frame → Method → Code → (Nat → Prop) → Heap → Nat → Nat → (State → Prop) → Prop
def xL (x : Nat) : List Nat := if 57 ≤ x ∧ x < 74 then [x] else []
def cellsL (x : Nat) : List Nat := bL ++ xL x
def shq (k : Nat) : Sh := if k = 57 then .inl 4 else if k = 58 then .inl 12 else shp k
theorem shq_b {k : Nat} (h : bas k) : shq k = shp k := by
  unfold bas at h
  unfold shq
  rw [if_neg (by omega), if_neg (by omega)]
def wsC (G : GT) (σ : Sto) : va_W := (cellsL G.2.2.2.2).map (fun k => (G.2.2.1 k, cE G.2.2.1 G.2.2.2.1 (σ k) (shq k)))
def tyC (G : GT) : List (ClassId × FieldType) := [(G.2.2.2.1 0, .int), (G.2.2.2.1 1, .object "SharedRides$Route"), (G.2.2.2.1 2, .object "SharedRides$Plan"), (G.2.2.2.1 3, .array .int)]
def AC (G : GT) : Nat → Prop := fun q => ∃ k, k ∈ cellsL G.2.2.2.2 ∧ q = G.2.2.1 k
theorem cL_bas {x k : Nat} (h : bas k) : (cellsL x)[pos k]? = some k := by
  unfold cellsL
  rw [List.getElem?_append_left (by rw [bL_len]; exact pos_lt h), bL_get h]
theorem cL_x {x : Nat} (h : 57 ≤ x ∧ x < 74) : (cellsL x)[211]? = some x := by
  unfold cellsL xL
  rw [if_pos h, List.getElem?_append_right (by rw [bL_len]; exact Nat.le_refl _), bL_len]
  rfl
theorem cL_inv {x j k : Nat} (h : (cellsL x)[j]? = some k) : (bas k ∧ j = pos k) ∨ (k = x ∧ j = 211 ∧ 57 ≤ x ∧ x < 74) := by
  unfold cellsL at h
  by_cases c : j < 211
  · rw [List.getElem?_append_left (by rw [bL_len]; exact c)] at h
    exact Or.inl (bL_inv h)
  · rw [List.getElem?_append_right (by rw [bL_len]; omega), bL_len] at h
    unfold xL at h
    by_cases q : 57 ≤ x ∧ x < 74
    · rw [if_pos q] at h
      have h0 : j - 211 = 0 := by
        have := (List.getElem?_eq_some_iff.mp h).1
        simp at this
        omega
      rw [h0] at h
      exact Or.inr ⟨(Option.some.inj h).symm, by omega, q⟩
    · rw [if_neg q] at h
      simp at h
theorem cL_nd {x i j k : Nat} (h1 : (cellsL x)[i]? = some k) (h2 : (cellsL x)[j]? = some k) : i = j := by
  have a := cL_inv h1
  have b := cL_inv h2
  unfold bas at a b
  omega
theorem wsC_at (G : GT) (σ : Sto) {j k : Nat} (h : (cellsL G.2.2.2.2)[j]? = some k) : (wsC G σ)[j]? = some (G.2.2.1 k, cE G.2.2.1 G.2.2.2.1 (σ k) (shq k)) := by
  unfold wsC
  rw [List.getElem?_map, h]
  rfl
theorem wsC_get (G : GT) (σ : Sto) {k : Nat} (h : bas k) : (wsC G σ)[pos k]? = some (G.2.2.1 k, cE G.2.2.1 G.2.2.2.1 (σ k) (shp k)) := by
  rw [wsC_at G σ (cL_bas h), shq_b h]
theorem wsC_inv (G : GT) (σ : Sto) {j : Nat} {q : Nat × va_E} (h : (wsC G σ)[j]? = some q) : ∃ k, (cellsL G.2.2.2.2)[j]? = some k ∧ q = (G.2.2.1 k, cE G.2.2.1 G.2.2.2.1 (σ k) (shq k)) := by
  unfold wsC at h
  rw [List.getElem?_map] at h
  cases e : (cellsL G.2.2.2.2)[j]? with
  | none => rw [e] at h; cases h
  | some k => rw [e] at h; cases h; exact ⟨k, rfl, rfl⟩
theorem wsC_setx (G : GT) (σ σ' : Sto) {j k : Nat} (h : (cellsL G.2.2.2.2)[j]? = some k) (ho : ∀ k', k' ≠ k → σ' k' = σ k') : (wsC G σ).set j (G.2.2.1 k, cE G.2.2.1 G.2.2.2.1 (σ' k) (shq k)) = wsC G σ' := by
  apply List.ext_getElem?
  intro i
  have hl : j < (wsC G σ).length := (List.getElem?_eq_some_iff.mp (wsC_at G σ h)).1
  by_cases hi : i = j
  · subst hi
    rw [List.getElem?_set_self hl, wsC_at G σ' h]
  · rw [List.getElem?_set_ne (Ne.symm hi)]
    cases e : (cellsL G.2.2.2.2)[i]? with
    | none =>
      unfold wsC
      rw [List.getElem?_map, List.getElem?_map, e]
      rfl
    | some k2 =>
      have hk : k2 ≠ k := fun q => hi (cL_nd e (by rw [q]; exact h))
      rw [wsC_at G σ e, wsC_at G σ' e, ho k2 hk]
theorem wsC_set (G : GT) (σ σ' : Sto) {k : Nat} (h : bas k) (ho : ∀ k', k' ≠ k → σ' k' = σ k') : (wsC G σ).set (pos k) (G.2.2.1 k, cE G.2.2.1 G.2.2.2.1 (σ' k) (shp k)) = wsC G σ' := by
  rw [← shq_b h]
  exact wsC_setx G σ σ' (cL_bas h) ho
theorem wsC_D {G : GT} {A : Nat → Prop} {σ : Sto} (σ' : Sto) (h : va_D A (wsC G σ)) : va_D A (wsC G σ') := by
  have key : ∀ {j : Nat} {q : Nat × va_E}, (wsC G σ')[j]? = some q → ∃ z, (wsC G σ)[j]? = some (q.1, z) := by
    intro j q hq
    obtain ⟨k, h1, rfl⟩ := wsC_inv G σ' hq
    exact ⟨_, wsC_at G σ h1⟩
  refine ⟨fun i j x y hi hj hxy => ?_, fun k q hk => ?_⟩
  · obtain ⟨z1, e1⟩ := key hi
    obtain ⟨z2, e2⟩ := key hj
    exact h.1 i j _ _ e1 e2 hxy
  · obtain ⟨z, e⟩ := key hk
    exact h.2 k (q.1, z) e
theorem wsC_A {G : GT} {A : Nat → Prop} {σ : Sto} (h : va_D A (wsC G σ)) : ∀ q, AC G q → A q := by
  rintro q ⟨k, hk, rfl⟩
  obtain ⟨j, hj⟩ := List.getElem?_of_mem hk
  exact h.2 j _ (wsC_at G σ hj)
theorem wsC_self {G : GT} {A : Nat → Prop} {σ : Sto} (h : va_D A (wsC G σ)) : va_D (AC G) (wsC G σ) :=
  ⟨h.1, fun k q hk => by obtain ⟨k2, h1, h2⟩ := wsC_inv G σ hk; exact ⟨k2, List.mem_of_getElem? h1, by rw [h2]⟩⟩
def σ0 : Sto := fun _ _ => 0
def CX (G : GT) (M : MI) (p : Program) (R : Room) (s : State) (m : MethodId) (args : Array Value) (c : Code) (A : Nat → Prop) (cells slots : Nat) : Prop :=
  p.tables.exec = Jvm.exec ∧ c.code = M.2.1 ∧ c.maxLocals = M.2.2.1 ∧ s.vm.findClass M.1.cls = some m.cls ∧ (∀ w ∈ tbG, w.before args s = true) ∧ va_K (G.1, G.2.1) vwCl (tyC G) s ∧ va_D A (wsC G σ0) ∧ M.2.2.2.2.1 ≤ R.frames ∧ M.2.2.2.2.2 ≤ R.locals ∧ cells ≤ R.cells ∧ slots ≤ R.slots
def MWF (l : Launch) (G : GT) (M : MI) (F : FT) (pc : Nat) (ls : List (Nat × MV)) (st : List MV) (σ : Sto) : Prop :=
  okS σ → okL (ls.map (·.2)) → okL st → ∀ (p : Program) (e : Env) (R : Room) (s : State) (m : MethodId) (args : Array Value) (below : List Frame) (meth : Method) (c : Code) (A : Nat → Prop) (H0 : Heap) (cells slots : Nat) (Qf : State → Prop),
    F p e R s m args below meth c A H0 cells slots Qf → CX G M p R s m args c A cells slots → ∀ (H : Heap) (locs : List Loc) (lsA : Array Slot), va_P (G.1, G.2.1) vwCl (wsC G σ) H → va_S A H0 H locs → lv_has lsA M.2.2.1 (ls.map (cvp G.2.2.1)) →
      W p l e R s m args below meth c H locs cells slots Qf (F0 m pc lsA (st.map (cv G.2.2.1)))
section MROWS
variable {l : Launch} {G : GT} {M : MI} {F : FT} {pc : Nat} {ls : List (Nat × MV)} {st : List MV} {σ : Sto}
theorem MWF.go {pc' : Nat} {st' : List MV} (hok : okL (ls.map (·.2)) → okL st → okL st')
    (hw : ∀ {p : Program} {e : Env} {R : Room} {s : State} {m : MethodId} {args : Array Value} {below : List Frame} {meth : Method} {c : Code} {H : Heap} {locs : List Loc} {cells slots : Nat} {Qf : State → Prop} {lsA : Array Slot},
      okL st → p.tables.exec = Jvm.exec → c.code = M.2.1 → lv_has lsA M.2.2.1 (ls.map (cvp G.2.2.1)) → s.vm.findClass M.1.cls = some m.cls → (∀ w ∈ tbG, w.before args s = true) →
      W p l e R s m args below meth c H locs cells slots Qf (F0 m pc' lsA (st'.map (cv G.2.2.1))) → W p l e R s m args below meth c H locs cells slots Qf (F0 m pc lsA (st.map (cv G.2.2.1))))
    (k : MWF l G M F pc' ls st' σ) : MWF l G M F pc ls st σ := by
  intro hσ hl hs p e R s m args below meth c A H0 cells slots Qf hF hC H locs lsA hP hS hls
  exact hw hs hC.1 hC.2.1 hls hC.2.2.2.1 hC.2.2.2.2.1 (k hσ hl (hok hl hs) p e R s m args below meth c A H0 cells slots Qf hF hC H locs lsA hP hS hls)
theorem r_iconst {n : Int} (hd : decode M.2.1 pc = .ok (.iconst n, 1)) (hn : -2147483648 ≤ n ∧ n ≤ 2147483647) (k : MWF l G M F (pc + 1) ls (vI n :: st) σ) : MWF l G M F pc ls st σ :=
  MWF.go (fun _ h => okL_I hn h) (fun _ hx hb _ _ _ k => lv_iconst hx hb hd rfl k) k
theorem r_bipush {n : Int} (hd : decode M.2.1 pc = .ok (.bipush n, 2)) (hv : (Int8.ofInt n).toInt32 = Int32.ofInt n) (hn : -2147483648 ≤ n ∧ n ≤ 2147483647) (k : MWF l G M F (pc + 2) ls (vI n :: st) σ) : MWF l G M F pc ls st σ :=
  MWF.go (fun _ h => okL_I hn h) (fun _ hx hb _ _ _ k => lv_bipush hx hb hd hv k) k
theorem r_sipush {n : Int} (hd : decode M.2.1 pc = .ok (.sipush n, 3)) (hv : (Int16.ofInt n).toInt32 = Int32.ofInt n) (hn : -2147483648 ≤ n ∧ n ≤ 2147483647) (k : MWF l G M F (pc + 3) ls (vI n :: st) σ) : MWF l G M F pc ls st σ :=
  MWF.go (fun _ h => okL_I hn h) (fun _ hx hb _ _ _ k => lv_sipush hx hb hd hv k) k
theorem r_ldc {idx : Nat} {n : Int} (hd : decode M.2.1 pc = .ok (.ldc idx, 2)) (hw : Cond.constant M.1.cls idx (Int32.ofInt n) ∈ tbG) (hn : -2147483648 ≤ n ∧ n ≤ 2147483647) (k : MWF l G M F (pc + 2) ls (vI n :: st) σ) : MWF l G M F pc ls st σ :=
  MWF.go (fun _ h => okL_I hn h) (fun _ hx hb _ hown hts k => lv_ldc hx hb hown (hts _ hw) hd k) k
theorem ls_at {lsA : Array Slot} {ad : Nat → Nat} {nL : Nat} (h : lv_has lsA nL (ls.map (cvp ad))) {j i : Nat} {v : MV} (hj : ls[j]? = some (i, v)) : lsA[i]? = some (.val (cv ad v)) :=
  lv_at h j (by rw [List.getElem?_map, hj]; rfl)
theorem r_iload_n {k : Fin 4} {i : Nat} {x : Int} (j : Nat) (hd : decode M.2.1 pc = .ok (.iload_n k, 1)) (hi : (k : Nat) = i) (hj : ls[j]? = some (i, vI x)) (kk : MWF l G M F (pc + 1) ls (vI x :: st) σ) : MWF l G M F pc ls st σ :=
  MWF.go (fun hl h => okL_cons (okL_get hl hj) h) (fun _ hx hb hls _ _ k => lv_iload_n hx hb hd hi (ls_at hls hj) k) kk
theorem r_iload {i : Nat} {x : Int} (j : Nat) (hd : decode M.2.1 pc = .ok (.iload i, 2)) (hj : ls[j]? = some (i, vI x)) (kk : MWF l G M F (pc + 2) ls (vI x :: st) σ) : MWF l G M F pc ls st σ :=
  MWF.go (fun hl h => okL_cons (okL_get hl hj) h) (fun _ hx hb hls _ _ k => lv_iload hx hb hd (ls_at hls hj) k) kk
theorem r_aload_n {k : Fin 4} {i : Nat} {x : Nat} (j : Nat) (hd : decode M.2.1 pc = .ok (.aload_n k, 1)) (hi : (k : Nat) = i) (hj : ls[j]? = some (i, vR x)) (kk : MWF l G M F (pc + 1) ls (vR x :: st) σ) : MWF l G M F pc ls st σ :=
  MWF.go (fun hl h => okL_R h) (fun _ hx hb hls _ _ k => lv_aload_n hx hb hd hi (ls_at hls hj) k) kk
theorem r_aload {i : Nat} {x : Nat} (j : Nat) (hd : decode M.2.1 pc = .ok (.aload i, 2)) (hj : ls[j]? = some (i, vR x)) (kk : MWF l G M F (pc + 2) ls (vR x :: st) σ) : MWF l G M F pc ls st σ :=
  MWF.go (fun hl h => okL_R h) (fun _ hx hb hls _ _ k => lv_aload hx hb hd (ls_at hls hj) k) kk
theorem cv_cat (ad : Nat → Nat) (v : MV) (h : isJ v = false) : (cv ad v).category = 1 := by
  rcases v with z | k | z
  · rfl
  · rfl
  · cases h
theorem cv_catx (ad : Nat → Nat) (v : MV) : (cv ad v).category = if isJ v = true then 2 else 1 := by
  rcases v with z | k | z <;> rfl
theorem cv_cat2 (ad : Nat → Nat) (v : MV) : ((cv ad v).category == 2) = isJ v := by
  rcases v with z | k | z <;> rfl
def flk (i : Nat) (q : Nat × MV) : Bool := !(q.1 == i) && !(q.1 + 1 == i && isJ q.2)
def flj (i : Nat) (q : Nat × MV) : Bool := !(q.1 == i) && (!(q.1 == i + 1) && !(q.1 + 1 == i && isJ q.2))
theorem flt_g (ad : Nat → Nat) (f : Nat × Value → Bool) (g : Nat × MV → Bool) (h : ∀ q, f (cvp ad q) = g q) : ∀ ls : List (Nat × MV), (ls.map (cvp ad)).filter f = (ls.filter g).map (cvp ad)
  | [] => rfl
  | q :: t => by
    rw [List.map_cons, List.filter_cons, List.filter_cons, h q, flt_g ad f g h t]
    cases (g q) <;> rfl
theorem flt (ad : Nat → Nat) (i : Nat) (ls : List (Nat × MV)) : (ls.map (cvp ad)).filter (fun q => !(q.1 == i) && !(q.1 + 1 == i && q.2.category == 2)) = (ls.filter (flk i)).map (cvp ad) :=
  flt_g ad _ _ (fun q => by show (!(q.1 == i) && !(q.1 + 1 == i && (cv ad q.2).category == 2)) = flk i q; rw [cv_cat2]; rfl) ls
theorem fltj (ad : Nat → Nat) (i : Nat) (ls : List (Nat × MV)) : (ls.map (cvp ad)).filter (fun q => !(q.1 == i) && (!(q.1 == i + 1) && !(q.1 + 1 == i && q.2.category == 2))) = (ls.filter (flj i)).map (cvp ad) :=
  flt_g ad _ _ (fun q => by show (!(q.1 == i) && (!(q.1 == i + 1) && !(q.1 + 1 == i && (cv ad q.2).category == 2))) = flj i q; rw [cv_cat2]; rfl) ls
theorem okL_flt {f : Nat × MV → Bool} {i : Nat} {v : MV} (hv : okV v) (h : okL (ls.map (·.2))) : okL ((((i, v) :: ls.filter f)).map (·.2)) := by
  intro w hw
  obtain ⟨q, hq, rfl⟩ := List.mem_map.mp hw
  rcases List.mem_cons.mp hq with rfl | hq
  · exact hv
  · exact h _ (List.mem_map.mpr ⟨q, (List.mem_filter.mp hq).1, rfl⟩)
theorem r_istore_n {k : Fin 4} {i : Nat} {x : Int} {ls' : List (Nat × MV)} (hd : decode M.2.1 pc = .ok (.istore_n k, 1)) (hi : (k : Nat) = i) (hn : i < M.2.2.1) (hl' : (i, vI x) :: ls.filter (flk i) = ls') (kk : MWF l G M F (pc + 1) ls' st σ) : MWF l G M F pc ls (vI x :: st) σ := by
  subst hl'
  intro hσ hl hs p e R s m args below meth c A H0 cells slots Qf hF hC H locs lsA hP hS hls
  exact lv_istore_n hC.1 hC.2.1 hd hi hls hn (lv' := ((i, vI x) :: ls.filter (flk i)).map (cvp G.2.2.1)) (by rw [flt]; rfl) (fun ls2 h2 => kk hσ (okL_flt (okL_hd hs) hl) (okL_tl hs) p e R s m args below meth c A H0 cells slots Qf hF hC H locs ls2 hP hS h2)
theorem r_istore {i : Nat} {x : Int} {ls' : List (Nat × MV)} (hd : decode M.2.1 pc = .ok (.istore i, 2)) (hn : i < M.2.2.1) (hl' : (i, vI x) :: ls.filter (flk i) = ls') (kk : MWF l G M F (pc + 2) ls' st σ) : MWF l G M F pc ls (vI x :: st) σ := by
  subst hl'
  intro hσ hl hs p e R s m args below meth c A H0 cells slots Qf hF hC H locs lsA hP hS hls
  exact lv_istore hC.1 hC.2.1 hd hls hn (lv' := ((i, vI x) :: ls.filter (flk i)).map (cvp G.2.2.1)) (by rw [flt]; rfl) (fun ls2 h2 => kk hσ (okL_flt (okL_hd hs) hl) (okL_tl hs) p e R s m args below meth c A H0 cells slots Qf hF hC H locs ls2 hP hS h2)
theorem r_astore_n {k : Fin 4} {i : Nat} {x : Nat} {ls' : List (Nat × MV)} (hd : decode M.2.1 pc = .ok (.astore_n k, 1)) (hi : (k : Nat) = i) (hn : i < M.2.2.1) (hl' : (i, vR x) :: ls.filter (flk i) = ls') (kk : MWF l G M F (pc + 1) ls' st σ) : MWF l G M F pc ls (vR x :: st) σ := by
  subst hl'
  intro hσ hl hs p e R s m args below meth c A H0 cells slots Qf hF hC H locs lsA hP hS hls
  exact lv_astore_n hC.1 hC.2.1 hd hi hls hn (lv' := ((i, vR x) :: ls.filter (flk i)).map (cvp G.2.2.1)) (by rw [flt]; rfl) (fun ls2 h2 => kk hσ (okL_flt (okL_hd hs) hl) (okL_tl hs) p e R s m args below meth c A H0 cells slots Qf hF hC H locs ls2 hP hS h2)
theorem r_astore {i : Nat} {x : Nat} {ls' : List (Nat × MV)} (hd : decode M.2.1 pc = .ok (.astore i, 2)) (hn : i < M.2.2.1) (hl' : (i, vR x) :: ls.filter (flk i) = ls') (kk : MWF l G M F (pc + 2) ls' st σ) : MWF l G M F pc ls (vR x :: st) σ := by
  subst hl'
  intro hσ hl hs p e R s m args below meth c A H0 cells slots Qf hF hC H locs lsA hP hS hls
  exact lv_astore hC.1 hC.2.1 hd hls hn (lv' := ((i, vR x) :: ls.filter (flk i)).map (cvp G.2.2.1)) (by rw [flt]; rfl) (fun ls2 h2 => kk hσ (okL_flt (okL_hd hs) hl) (okL_tl hs) p e R s m args below meth c A H0 cells slots Qf hF hC H locs ls2 hP hS h2)
theorem r_iinc {i : Nat} {n x : Int} {ls' : List (Nat × MV)} (j : Nat) (hd : decode M.2.1 pc = .ok (.iinc i n, 3)) (hj : ls[j]? = some (i, vI x)) (hn : i < M.2.2.1) (hr : -2147483648 ≤ x + n ∧ x + n ≤ 2147483647) (hl' : (i, vI (x + n)) :: ls.filter (flk i) = ls') (kk : MWF l G M F (pc + 3) ls' st σ) : MWF l G M F pc ls st σ := by
  subst hl'
  intro hσ hl hs p e R s m args below meth c A H0 cells slots Qf hF hC H locs lsA hP hS hls
  exact lv_iinc hC.1 hC.2.1 hd hls (k := j) (x := Int32.ofInt x) (v := Int32.ofInt (x + n)) (by rw [List.getElem?_map, hj]; rfl) (Int32.ofInt_add x n).symm hn (lv' := ((i, vI (x + n)) :: ls.filter (flk i)).map (cvp G.2.2.1)) (by rw [flt]; rfl) (fun ls2 h2 => kk hσ (okL_flt hr hl) hs p e R s m args below meth c A H0 cells slots Qf hF hC H locs ls2 hP hS h2)
theorem r_iadd {x y : Int} (hd : decode M.2.1 pc = .ok (.iadd, 1)) (hr : -2147483648 ≤ x + y ∧ x + y ≤ 2147483647) (kk : MWF l G M F (pc + 1) ls (vI (x + y) :: st) σ) : MWF l G M F pc ls (vI y :: vI x :: st) σ :=
  MWF.go (fun _ h => okL_I hr (okL_tl (okL_tl h))) (fun _ hx hb _ _ _ k => lv_iadd hx hb hd (by rw [← Int32.ofInt_add]; exact k)) kk
theorem r_isub {x y : Int} (hd : decode M.2.1 pc = .ok (.isub, 1)) (hr : -2147483648 ≤ x - y ∧ x - y ≤ 2147483647) (kk : MWF l G M F (pc + 1) ls (vI (x - y) :: st) σ) : MWF l G M F pc ls (vI y :: vI x :: st) σ :=
  MWF.go (fun _ h => okL_I hr (okL_tl (okL_tl h))) (fun _ hx hb _ _ _ k => lv_isub hx hb hd (by rw [← Int32.ofInt_sub]; exact k)) kk
theorem r_imul {x y : Int} (hd : decode M.2.1 pc = .ok (.imul, 1)) (hr : -2147483648 ≤ x * y ∧ x * y ≤ 2147483647) (kk : MWF l G M F (pc + 1) ls (vI (x * y) :: st) σ) : MWF l G M F pc ls (vI y :: vI x :: st) σ :=
  MWF.go (fun _ h => okL_I hr (okL_tl (okL_tl h))) (fun _ hx hb _ _ _ k => lv_imul hx hb hd (by rw [← Int32.ofInt_mul]; exact k)) kk
theorem r_ineg {x : Int} (hd : decode M.2.1 pc = .ok (.ineg, 1)) (hr : -2147483648 ≤ -x ∧ -x ≤ 2147483647) (kk : MWF l G M F (pc + 1) ls (vI (-x) :: st) σ) : MWF l G M F pc ls (vI x :: st) σ :=
  MWF.go (fun _ h => okL_I hr (okL_tl h)) (fun _ hx hb _ _ _ k => lv_ineg hx hb hd (by rw [← Int32.ofInt_neg]; exact k)) kk
theorem okL_J {z : Int64} {l : List MV} (h : okL l) : okL (vJ z :: l) := okL_cons (v := vJ z) trivial h
theorem r_lconst {k : _root_.Fin 2} {z : Int64} (hd : decode M.2.1 pc = .ok (.lconst k, 1)) (hz : Int64.ofNat (k : Nat) = z) (kk : MWF l G M F (pc + 1) ls (vJ z :: st) σ) : MWF l G M F pc ls st σ :=
  MWF.go (fun _ h => okL_J h) (fun _ hx hb _ _ _ k => lv_lconst hx hb hd hz k) kk
theorem r_ldc2 {idx : Nat} {z : Int64} (hd : decode M.2.1 pc = .ok (.ldc2_w idx, 3)) (hw : Cond.constantLong M.1.cls idx z ∈ tbG) (kk : MWF l G M F (pc + 3) ls (vJ z :: st) σ) : MWF l G M F pc ls st σ :=
  MWF.go (fun _ h => okL_J h) (fun _ hx hb _ hown hts k => lv_ldc2 hx hb hown (hts _ hw) hd k) kk
theorem r_lload_n {k : _root_.Fin 4} {i : Nat} {z : Int64} (j : Nat) (hd : decode M.2.1 pc = .ok (.lload_n k, 1)) (hi : (k : Nat) = i) (hj : ls[j]? = some (i, vJ z)) (kk : MWF l G M F (pc + 1) ls (vJ z :: st) σ) : MWF l G M F pc ls st σ :=
  MWF.go (fun _ h => okL_J h) (fun _ hx hb hls _ _ k => lv_lload_n hx hb hd hi (ls_at hls hj) k) kk
theorem r_lload {i : Nat} {z : Int64} (j : Nat) (hd : decode M.2.1 pc = .ok (.lload i, 2)) (hj : ls[j]? = some (i, vJ z)) (kk : MWF l G M F (pc + 2) ls (vJ z :: st) σ) : MWF l G M F pc ls st σ :=
  MWF.go (fun _ h => okL_J h) (fun _ hx hb hls _ _ k => lv_lload hx hb hd (ls_at hls hj) k) kk
theorem r_lstore_n {k : _root_.Fin 4} {i : Nat} {z : Int64} {ls' : List (Nat × MV)} (hd : decode M.2.1 pc = .ok (.lstore_n k, 1)) (hi : (k : Nat) = i) (hn : i + 1 < M.2.2.1) (hl' : (i, vJ z) :: ls.filter (flj i) = ls') (kk : MWF l G M F (pc + 1) ls' st σ) : MWF l G M F pc ls (vJ z :: st) σ := by
  subst hl'
  intro hσ hl hs p e R s m args below meth c A H0 cells slots Qf hF hC H locs lsA hP hS hls
  exact lv_lstore_n hC.1 hC.2.1 hd hi hls hn (lv' := ((i, vJ z) :: ls.filter (flj i)).map (cvp G.2.2.1)) (by rw [fltj]; rfl) (fun ls2 h2 => kk hσ (okL_flt (okL_hd hs) hl) (okL_tl hs) p e R s m args below meth c A H0 cells slots Qf hF hC H locs ls2 hP hS h2)
theorem r_lstore {i : Nat} {z : Int64} {ls' : List (Nat × MV)} (hd : decode M.2.1 pc = .ok (.lstore i, 2)) (hn : i + 1 < M.2.2.1) (hl' : (i, vJ z) :: ls.filter (flj i) = ls') (kk : MWF l G M F (pc + 2) ls' st σ) : MWF l G M F pc ls (vJ z :: st) σ := by
  subst hl'
  intro hσ hl hs p e R s m args below meth c A H0 cells slots Qf hF hC H locs lsA hP hS hls
  exact lv_lstore hC.1 hC.2.1 hd hls hn (lv' := ((i, vJ z) :: ls.filter (flj i)).map (cvp G.2.2.1)) (by rw [fltj]; rfl) (fun ls2 h2 => kk hσ (okL_flt (okL_hd hs) hl) (okL_tl hs) p e R s m args below meth c A H0 cells slots Qf hF hC H locs ls2 hP hS h2)
theorem r_ladd {x y : Int64} (hd : decode M.2.1 pc = .ok (.ladd, 1)) (kk : MWF l G M F (pc + 1) ls (vJ (x + y) :: st) σ) : MWF l G M F pc ls (vJ y :: vJ x :: st) σ :=
  MWF.go (fun _ h => okL_J (okL_tl (okL_tl h))) (fun _ hx hb _ _ _ k => lv_ladd hx hb hd k) kk
theorem r_lmul {x y : Int64} (hd : decode M.2.1 pc = .ok (.lmul, 1)) (kk : MWF l G M F (pc + 1) ls (vJ (x * y) :: st) σ) : MWF l G M F pc ls (vJ y :: vJ x :: st) σ :=
  MWF.go (fun _ h => okL_J (okL_tl (okL_tl h))) (fun _ hx hb _ _ _ k => lv_lmul hx hb hd k) kk
def i2J (x : Int) : Int64 := (Int32.ofInt x).toInt64
theorem r_i2l {x : Int} (hd : decode M.2.1 pc = .ok (.i2l, 1)) (kk : MWF l G M F (pc + 1) ls (vJ (i2J x) :: st) σ) : MWF l G M F pc ls (vI x :: st) σ :=
  MWF.go (fun _ h => okL_J (okL_tl h)) (fun _ hx hb _ _ _ k => lv_i2l hx hb hd rfl k) kk
def andI (x y : Int) : Int := (Int32.ofInt x &&& Int32.ofInt y).toInt
theorem ok_i32 (z : Int32) : okV (vI z.toInt) := ⟨z.le_toInt, by have := z.toInt_lt; show z.toInt ≤ 2147483647; omega⟩
theorem r_iand {x y : Int} (hd : decode M.2.1 pc = .ok (.iand, 1)) (kk : MWF l G M F (pc + 1) ls (vI (andI x y) :: st) σ) : MWF l G M F pc ls (vI y :: vI x :: st) σ :=
  MWF.go (fun _ h => okL_cons (ok_i32 _) (okL_tl (okL_tl h))) (fun _ hx hb _ _ _ k => lv_iand hx hb hd (by
    have ev : Value.int (Int32.ofInt x &&& Int32.ofInt y) = cv G.2.2.1 (vI (andI x y)) := by
      show Value.int _ = Value.int (Int32.ofInt (Int32.ofInt x &&& Int32.ofInt y).toInt)
      rw [Int32.ofInt_toInt]
    rw [ev]; exact k)) kk
def shrI (x y : Int) : Int := (Int32.ofInt x >>> (Int32.ofInt y &&& 31)).toInt
theorem r_ishr {x y : Int} (hd : decode M.2.1 pc = .ok (.ishr, 1)) (kk : MWF l G M F (pc + 1) ls (vI (shrI x y) :: st) σ) : MWF l G M F pc ls (vI y :: vI x :: st) σ :=
  MWF.go (fun _ h => okL_cons (ok_i32 _) (okL_tl (okL_tl h))) (fun _ hx hb _ _ _ k => lv_ishr hx hb hd (by
    have ev : Value.int (Int32.ofInt x >>> (Int32.ofInt y &&& 31)) = cv G.2.2.1 (vI (shrI x y)) := by
      show Value.int _ = Value.int (Int32.ofInt (Int32.ofInt x >>> (Int32.ofInt y &&& 31)).toInt)
      rw [Int32.ofInt_toInt]
    rw [ev]; exact k)) kk
theorem oI_T {x : Int} (h : -2147483648 ≤ x ∧ x ≤ 2147483647) : (Int32.ofInt x).toInt = x := Int32.toInt_ofInt_of_le (by omega) (by omega)
theorem oI_N {x : Int} (h : -2147483648 ≤ x ∧ x ≤ 2147483647) : (Int32.ofInt x).toNatClampNeg = x.toNat := by rw [← Int32.toNat_toInt, oI_T h]
theorem oI_lt {x y : Int} (hx : okV (vI x)) (hy : okV (vI y)) : Int32.ofInt x < Int32.ofInt y ↔ x < y := by rw [Int32.lt_iff_toInt_lt, oI_T hx, oI_T hy]
theorem oI_le {x y : Int} (hx : okV (vI x)) (hy : okV (vI y)) : Int32.ofInt x ≤ Int32.ofInt y ↔ x ≤ y := by rw [Int32.le_iff_toInt_le, oI_T hx, oI_T hy]
theorem oI_eq {x y : Int} (hx : okV (vI x)) (hy : okV (vI y)) : Int32.ofInt x = Int32.ofInt y ↔ x = y := by rw [← Int32.toInt_inj, oI_T hx, oI_T hy]
theorem ok_0 : okV (vI 0) := ⟨by decide, by decide⟩
theorem oI_0 : (0 : Int32) = Int32.ofInt 0 := by decide
theorem oI_vp {i : Int} {n : Nat} (h : okV (vI i)) (h0 : 0 ≤ i) (hn : i < n) : vp_in (Int32.ofInt i) n := by
  rw [vp_in_iff, oI_T h]; exact ⟨h0, hn⟩
theorem r_idiv {x y : Int} (hd : decode M.2.1 pc = .ok (.idiv, 1)) (h0 : 0 ≤ x) (hy : 0 < y) (kk : MWF l G M F (pc + 1) ls (vI (x / y) :: st) σ) : MWF l G M F pc ls (vI y :: vI x :: st) σ := by
  have e : ∀ (hx' : okV (vI x)) (hy' : okV (vI y)), Int32.ofInt x / Int32.ofInt y = Int32.ofInt (x / y) := fun hx' hy' => by
    rw [← Int.tdiv_eq_ediv_of_nonneg h0]
    exact (Int32.ofInt_tdiv hx'.1 hx'.2 hy'.1 hy'.2).symm
  refine MWF.go (fun _ h => okL_I ?_ (okL_tl (okL_tl h))) (fun hs hx hb _ _ _ k => lv_idiv hx hb hd ?_ (by rw [e (okL_hd (okL_tl hs)) (okL_hd hs)]; exact k)) kk
  · have h1 : okV (vI x) := okL_hd (okL_tl h)
    have h2 : x / y ≤ x := Int.ediv_le_self y h0
    have h3 : 0 ≤ x / y := Int.ediv_nonneg h0 (by omega)
    exact ⟨by omega, by have := h1.2; omega⟩
  · rw [oI_0, oI_eq (okL_hd hs) ok_0]; omega
theorem r_irem {x y : Int} (hd : decode M.2.1 pc = .ok (.irem, 1)) (h0 : 0 ≤ x) (hy : 0 < y) (kk : MWF l G M F (pc + 1) ls (vI (x % y) :: st) σ) : MWF l G M F pc ls (vI y :: vI x :: st) σ := by
  have e : ∀ (hx' : okV (vI x)) (hy' : okV (vI y)), Int32.ofInt x - Int32.ofInt x / Int32.ofInt y * Int32.ofInt y = Int32.ofInt (x % y) := fun hx' hy' => by
    have e1 : Int32.ofInt x / Int32.ofInt y = Int32.ofInt (x / y) := by
      rw [← Int.tdiv_eq_ediv_of_nonneg h0]
      exact (Int32.ofInt_tdiv hx'.1 hx'.2 hy'.1 hy'.2).symm
    rw [e1, ← Int32.ofInt_mul, ← Int32.ofInt_sub, Int.emod_def, Int.mul_comm]
  refine MWF.go (fun _ h => okL_I ?_ (okL_tl (okL_tl h))) (fun hs hx hb _ _ _ k => lv_irem hx hb hd ?_ (by rw [e (okL_hd (okL_tl hs)) (okL_hd hs)]; exact k)) kk
  · have h1 : okV (vI y) := okL_hd h
    have h2 : x % y < y := Int.emod_lt_of_pos x hy
    have h3 : 0 ≤ x % y := Int.emod_nonneg x (by omega)
    exact ⟨by omega, by have := h1.2; omega⟩
  · rw [oI_0, oI_eq (okL_hd hs) ok_0]; omega
theorem r_goto {off : Int} {tgt : Nat} (hd : decode M.2.1 pc = .ok (.goto off, 3)) (ht : (pc : Int) + off = (tgt : Int)) (kk : MWF l G M F tgt ls st σ) : MWF l G M F pc ls st σ :=
  MWF.go (fun _ h => h) (fun _ hx hb _ _ _ k => lv_goto hx hb hd ht k) kk
theorem r_dup {v : MV} (hd : decode M.2.1 pc = .ok (.dup, 1)) (kk : MWF l G M F (pc + 1) ls (v :: v :: st) σ) (hj : isJ v = false := by rfl) : MWF l G M F pc ls (v :: st) σ :=
  MWF.go (fun _ h => okL_cons (okL_hd h) h) (fun _ hx hb _ _ _ k => lv_dup hx hb hd (cv_cat _ _ hj) k) kk
theorem r_pop {v : MV} (hd : decode M.2.1 pc = .ok (.pop, 1)) (kk : MWF l G M F (pc + 1) ls st σ) (hj : isJ v = false := by rfl) : MWF l G M F pc ls (v :: st) σ :=
  MWF.go (fun _ h => okL_tl h) (fun _ hx hb _ _ _ k => lv_pop hx hb hd (cv_cat _ _ hj) k) kk
theorem MWF.br2 {pt pf : Nat} {st' : List MV} {C : Prop} (hok : okL st → okL st')
    (hw : ∀ {p : Program} {e : Env} {R : Room} {s : State} {m : MethodId} {args : Array Value} {below : List Frame} {meth : Method} {c : Code} {H : Heap} {locs : List Loc} {cells slots : Nat} {Qf : State → Prop} {lsA : Array Slot},
      okL st → p.tables.exec = Jvm.exec → c.code = M.2.1 →
      (C → W p l e R s m args below meth c H locs cells slots Qf (F0 m pt lsA (st'.map (cv G.2.2.1)))) → (¬ C → W p l e R s m args below meth c H locs cells slots Qf (F0 m pf lsA (st'.map (cv G.2.2.1)))) → W p l e R s m args below meth c H locs cells slots Qf (F0 m pc lsA (st.map (cv G.2.2.1))))
    (kt : C → MWF l G M F pt ls st' σ) (kf : ¬ C → MWF l G M F pf ls st' σ) : MWF l G M F pc ls st σ := by
  intro hσ hl hs p e R s m args below meth c A H0 cells slots Qf hF hC H locs lsA hP hS hls
  exact hw hs hC.1 hC.2.1 (fun q => kt q hσ hl (hok hs) p e R s m args below meth c A H0 cells slots Qf hF hC H locs lsA hP hS hls) (fun q => kf q hσ hl (hok hs) p e R s m args below meth c A H0 cells slots Qf hF hC H locs lsA hP hS hls)
theorem r_if_eq {x : Int} {off : Int} {tgt : Nat} (hd : decode M.2.1 pc = .ok (.ifCond .eq off, 3)) (ht : (pc : Int) + off = (tgt : Int)) (kt : x = 0 → MWF l G M F tgt ls st σ) (kf : ¬ x = 0 → MWF l G M F (pc + 3) ls st σ) : MWF l G M F pc ls (vI x :: st) σ :=
  MWF.br2 (C := x = 0) okL_tl (fun hs hx hb kt kf => lv_if_eq hx hb hd ht (fun q => kt (by rw [oI_0, oI_eq (okL_hd hs) ok_0] at q; exact q)) (fun q => kf (by rw [oI_0, oI_eq (okL_hd hs) ok_0] at q; exact q))) kt kf
theorem r_if_ne {x : Int} {off : Int} {tgt : Nat} (hd : decode M.2.1 pc = .ok (.ifCond .ne off, 3)) (ht : (pc : Int) + off = (tgt : Int)) (kt : x = 0 → MWF l G M F (pc + 3) ls st σ) (kf : ¬ x = 0 → MWF l G M F tgt ls st σ) : MWF l G M F pc ls (vI x :: st) σ :=
  MWF.br2 (C := x = 0) okL_tl (fun hs hx hb kt kf => lv_if_ne hx hb hd ht (fun q => kf (by rw [oI_0, oI_eq (okL_hd hs) ok_0] at q; exact q)) (fun q => kt (by rw [oI_0, oI_eq (okL_hd hs) ok_0] at q; exact q))) kt kf
theorem r_if_lt {x : Int} {off : Int} {tgt : Nat} (hd : decode M.2.1 pc = .ok (.ifCond .lt off, 3)) (ht : (pc : Int) + off = (tgt : Int)) (kt : x < 0 → MWF l G M F tgt ls st σ) (kf : ¬ x < 0 → MWF l G M F (pc + 3) ls st σ) : MWF l G M F pc ls (vI x :: st) σ :=
  MWF.br2 (C := x < 0) okL_tl (fun hs hx hb kt kf => lv_if_lt hx hb hd ht (fun q => kt (by rw [oI_0, oI_lt (okL_hd hs) ok_0] at q; exact q)) (fun q => kf (by rw [oI_0, oI_lt (okL_hd hs) ok_0] at q; exact q))) kt kf
theorem r_if_ge {x : Int} {off : Int} {tgt : Nat} (hd : decode M.2.1 pc = .ok (.ifCond .ge off, 3)) (ht : (pc : Int) + off = (tgt : Int)) (kt : 0 ≤ x → MWF l G M F tgt ls st σ) (kf : ¬ 0 ≤ x → MWF l G M F (pc + 3) ls st σ) : MWF l G M F pc ls (vI x :: st) σ :=
  MWF.br2 (C := 0 ≤ x) okL_tl (fun hs hx hb kt kf => lv_if_ge hx hb hd ht (fun q => kt (by rw [oI_0, oI_le ok_0 (okL_hd hs)] at q; exact q)) (fun q => kf (by rw [oI_0, oI_le ok_0 (okL_hd hs)] at q; exact q))) kt kf
theorem r_if_gt {x : Int} {off : Int} {tgt : Nat} (hd : decode M.2.1 pc = .ok (.ifCond .gt off, 3)) (ht : (pc : Int) + off = (tgt : Int)) (kt : 0 < x → MWF l G M F tgt ls st σ) (kf : ¬ 0 < x → MWF l G M F (pc + 3) ls st σ) : MWF l G M F pc ls (vI x :: st) σ :=
  MWF.br2 (C := 0 < x) okL_tl (fun hs hx hb kt kf => lv_if_gt hx hb hd ht (fun q => kt (by rw [oI_0, oI_lt ok_0 (okL_hd hs)] at q; exact q)) (fun q => kf (by rw [oI_0, oI_lt ok_0 (okL_hd hs)] at q; exact q))) kt kf
theorem r_if_le {x : Int} {off : Int} {tgt : Nat} (hd : decode M.2.1 pc = .ok (.ifCond .le off, 3)) (ht : (pc : Int) + off = (tgt : Int)) (kt : x ≤ 0 → MWF l G M F tgt ls st σ) (kf : ¬ x ≤ 0 → MWF l G M F (pc + 3) ls st σ) : MWF l G M F pc ls (vI x :: st) σ :=
  MWF.br2 (C := x ≤ 0) okL_tl (fun hs hx hb kt kf => lv_if_le hx hb hd ht (fun q => kt (by rw [oI_0, oI_le (okL_hd hs) ok_0] at q; exact q)) (fun q => kf (by rw [oI_0, oI_le (okL_hd hs) ok_0] at q; exact q))) kt kf
theorem r_icmp_eq {x y : Int} {off : Int} {tgt : Nat} (hd : decode M.2.1 pc = .ok (.if_icmp .eq off, 3)) (ht : (pc : Int) + off = (tgt : Int)) (kt : x = y → MWF l G M F tgt ls st σ) (kf : ¬ x = y → MWF l G M F (pc + 3) ls st σ) : MWF l G M F pc ls (vI y :: vI x :: st) σ :=
  MWF.br2 (C := x = y) (fun h => okL_tl (okL_tl h)) (fun hs hx hb kt kf => lv_icmp_eq hx hb hd ht (fun q => kt (by rw [oI_eq (okL_hd (okL_tl hs)) (okL_hd hs)] at q; exact q)) (fun q => kf (by rw [oI_eq (okL_hd (okL_tl hs)) (okL_hd hs)] at q; exact q))) kt kf
theorem r_icmp_ne {x y : Int} {off : Int} {tgt : Nat} (hd : decode M.2.1 pc = .ok (.if_icmp .ne off, 3)) (ht : (pc : Int) + off = (tgt : Int)) (kt : x = y → MWF l G M F (pc + 3) ls st σ) (kf : ¬ x = y → MWF l G M F tgt ls st σ) : MWF l G M F pc ls (vI y :: vI x :: st) σ :=
  MWF.br2 (C := x = y) (fun h => okL_tl (okL_tl h)) (fun hs hx hb kt kf => lv_icmp_ne hx hb hd ht (fun q => kf (by rw [oI_eq (okL_hd (okL_tl hs)) (okL_hd hs)] at q; exact q)) (fun q => kt (by rw [oI_eq (okL_hd (okL_tl hs)) (okL_hd hs)] at q; exact q))) kt kf
theorem r_icmp_lt {x y : Int} {off : Int} {tgt : Nat} (hd : decode M.2.1 pc = .ok (.if_icmp .lt off, 3)) (ht : (pc : Int) + off = (tgt : Int)) (kt : x < y → MWF l G M F tgt ls st σ) (kf : ¬ x < y → MWF l G M F (pc + 3) ls st σ) : MWF l G M F pc ls (vI y :: vI x :: st) σ :=
  MWF.br2 (C := x < y) (fun h => okL_tl (okL_tl h)) (fun hs hx hb kt kf => lv_icmp_lt hx hb hd ht (fun q => kt (by rw [oI_lt (okL_hd (okL_tl hs)) (okL_hd hs)] at q; exact q)) (fun q => kf (by rw [oI_lt (okL_hd (okL_tl hs)) (okL_hd hs)] at q; exact q))) kt kf
theorem r_icmp_ge {x y : Int} {off : Int} {tgt : Nat} (hd : decode M.2.1 pc = .ok (.if_icmp .ge off, 3)) (ht : (pc : Int) + off = (tgt : Int)) (kt : y ≤ x → MWF l G M F tgt ls st σ) (kf : ¬ y ≤ x → MWF l G M F (pc + 3) ls st σ) : MWF l G M F pc ls (vI y :: vI x :: st) σ :=
  MWF.br2 (C := y ≤ x) (fun h => okL_tl (okL_tl h)) (fun hs hx hb kt kf => lv_icmp_ge hx hb hd ht (fun q => kt (by rw [oI_le (okL_hd hs) (okL_hd (okL_tl hs))] at q; exact q)) (fun q => kf (by rw [oI_le (okL_hd hs) (okL_hd (okL_tl hs))] at q; exact q))) kt kf
theorem r_icmp_gt {x y : Int} {off : Int} {tgt : Nat} (hd : decode M.2.1 pc = .ok (.if_icmp .gt off, 3)) (ht : (pc : Int) + off = (tgt : Int)) (kt : y < x → MWF l G M F tgt ls st σ) (kf : ¬ y < x → MWF l G M F (pc + 3) ls st σ) : MWF l G M F pc ls (vI y :: vI x :: st) σ :=
  MWF.br2 (C := y < x) (fun h => okL_tl (okL_tl h)) (fun hs hx hb kt kf => lv_icmp_gt hx hb hd ht (fun q => kt (by rw [oI_lt (okL_hd hs) (okL_hd (okL_tl hs))] at q; exact q)) (fun q => kf (by rw [oI_lt (okL_hd hs) (okL_hd (okL_tl hs))] at q; exact q))) kt kf
theorem r_icmp_le {x y : Int} {off : Int} {tgt : Nat} (hd : decode M.2.1 pc = .ok (.if_icmp .le off, 3)) (ht : (pc : Int) + off = (tgt : Int)) (kt : x ≤ y → MWF l G M F tgt ls st σ) (kf : ¬ x ≤ y → MWF l G M F (pc + 3) ls st σ) : MWF l G M F pc ls (vI y :: vI x :: st) σ :=
  MWF.br2 (C := x ≤ y) (fun h => okL_tl (okL_tl h)) (fun hs hx hb kt kf => lv_icmp_le hx hb hd ht (fun q => kt (by rw [oI_le (okL_hd (okL_tl hs)) (okL_hd hs)] at q; exact q)) (fun q => kf (by rw [oI_le (okL_hd (okL_tl hs)) (okL_hd hs)] at q; exact q))) kt kf
end MROWS
