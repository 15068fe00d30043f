abbrev ST : Type := Sto × PL × List PL
noncomputable def eS (D : Sto) (v n : Nat) (t : Nat → Nat) : Nat → Int := @dite _ (∃ e, isE D v n t e) (Classical.propDecidable _) (fun h => Classical.choose h) (fun _ _ => 0)
noncomputable def lS (D : Sto) (v n : Nat) (t : Nat → Nat) : Nat → Int := @dite _ (∃ e, isL D v n t e) (Classical.propDecidable _) (fun h => Classical.choose h) (fun _ _ => 0)
theorem eS_is {D : Sto} {v n : Nat} {t : Nat → Nat} {e : Nat → Int} (h : isE D v n t e) : isE D v n t (eS D v n t) := by
  have hx : ∃ e, isE D v n t e := ⟨e, h⟩
  unfold eS; rw [dif_pos hx]; exact Classical.choose_spec hx
theorem lS_is {D : Sto} {v n : Nat} {t : Nat → Nat} {e : Nat → Int} (h : isL D v n t e) : isL D v n t (lS D v n t) := by
  have hx : ∃ e, isL D v n t e := ⟨e, h⟩
  unfold lS; rw [dif_pos hx]; exact Classical.choose_spec hx
theorem eS_eq {D : Sto} {v n : Nat} {t : Nat → Nat} {e : Nat → Int} (h : isE D v n t e) {k : Nat} (hk : k < n) : e k = eS D v n t k := isE_u h (eS_is h) k hk
theorem lS_eq {D : Sto} {v n : Nat} {t : Nat → Nat} {e : Nat → Int} (h : isL D v n t e) {k : Nat} (hk : k < n) : e k = lS D v n t k := isL_u h (lS_is h) k hk
def FEP (D : Sto) (p : PL) : Prop := ∀ v, v < 4 → FE D v (p.1 v) (p.2.1 v)
def Val (S : ST) : Prop := DOK S.1 ∧ WP S.1 S.2.1 ∧ FEP S.1 S.2.1 ∧ (∀ h, h ∈ S.2.2 → WP S.1 h ∧ FEP S.1 h) ∧ S.2.2.length ≤ 10
def opn (p : PL) : Nat → Int
  | 0 => 0
  | m + 1 => if p.2.2 m = -1 then opn p m + 1 else opn p m
def bsv (p : PL) (v : Nat) : Nat → Nat
  | 0 => 0
  | m + 1 => if p.2.2 m = v then bsv p v m ||| 2 ^ m else bsv p v m
def inP (x y : Int) : Prop := 0 ≤ x ∧ x ≤ 99 ∧ 0 ≤ y ∧ y ≤ 99
def inL (c : Int) : Prop := 1 ≤ c ∧ c ≤ 8
def inM (c : Int) : Prop := 0 ≤ c ∧ c ≤ 1000
def inW (f l : Int) : Prop := 0 ≤ f ∧ f ≤ l ∧ l ≤ 5000
def isRq (D : Sto) (r : Int) : Prop := 0 ≤ r ∧ r < D 10 1
def isVh (D : Sto) (v : Int) : Prop := 0 ≤ v ∧ v < D 10 0
noncomputable def iff' {α : Type} (c : Prop) (a b : α) : α := @ite α c (Classical.propDecidable c) a b
theorem if_t {α : Type} {c : Prop} {a b : α} (h : c) : iff' c a b = a := @if_pos c (Classical.propDecidable c) h α a b
theorem if_f {α : Type} {c : Prop} {a b : α} (h : ¬ c) : iff' c a b = b := @if_neg c (Classical.propDecidable c) h α a b
def dAddV (D : Sto) (x y c f l : Int) : Sto := stS (stS (stS (stS (stS (stS D 7 (nvN D) c) 8 (nvN D) f) 9 (nvN D) l) 1 (24 + nvN D) x) 2 (24 + nvN D) y) 10 0 (D 10 0 + 1)
def dAddR (D : Sto) (fx fy tx ty c m : Int) : Sto := stS (stS (stS (stS (stS (stS (stS (stS (stS (stS (stS D 5 (nrN D) c) 6 (nrN D) m) 1 (2 * nrN D) fx) 2 (2 * nrN D) fy) 1 (2 * nrN D + 1) tx) 2 (2 * nrN D + 1) ty) 3 (2 * nrN D) 0) 4 (2 * nrN D) 5000) 3 (2 * nrN D + 1) 0) 4 (2 * nrN D + 1) 5000) 10 1 (D 10 1 + 1)
noncomputable def f_addV (S : ST) (x y c f l : Int) : Int × ST := iff' (inP x y ∧ inL c ∧ inW f l) (if S.1 10 0 < 4 then (S.1 10 0, (dAddV S.1 x y c f l, S.2.1, [])) else (-1006, S)) (-1002, S)
noncomputable def f_addR (S : ST) (fx fy tx ty c m : Int) : Int × ST := iff' (inP fx fy ∧ inP tx ty ∧ inL c ∧ inM m) (if S.1 10 1 < 12 then (S.1 10 1, (dAddR S.1 fx fy tx ty c m, S.2.1, [])) else (-1006, S)) (-1002, S)
noncomputable def okR (D : Sto) (p : PL) (r : Nat) : Prop := p.2.2 r = -1 ∨ FE D (p.2.2 r).toNat (p.1 (p.2.2 r).toNat) (p.2.1 (p.2.2 r).toNat)
noncomputable def f_setW (S : ST) (r d f l : Int) : Int × ST := iff' (isRq S.1 r) (iff' (inW f l) (
    let s := (2 * r + (if d = 0 then 0 else 1)).toNat
    if f = S.1 3 s ∧ l = S.1 4 s then (0, S) else iff' (okR (stS (stS S.1 3 s f) 4 s l) S.2.1 r.toNat) (1, (stS (stS S.1 3 s f) 4 s l, S.2.1, [])) (-1005, S)) (-1002, S)) (-1001, S)
noncomputable def f_setM (S : ST) (r m : Int) : Int × ST := iff' (isRq S.1 r) (iff' (inM m) (if m = S.1 6 r.toNat then (S.1 6 r.toNat, S) else iff' (okR (stS S.1 6 r.toNat m) S.2.1 r.toNat) (S.1 6 r.toNat, (stS S.1 6 r.toNat m, S.2.1, [])) (-1005, S)) (-1002, S)) (-1001, S)
noncomputable def f_setL (S : ST) (r c : Int) : Int × ST := iff' (isRq S.1 r) (iff' (inL c) (if c = S.1 5 r.toNat then (S.1 5 r.toNat, S) else iff' (okR (stS S.1 5 r.toNat c) S.2.1 r.toNat) (S.1 5 r.toNat, (stS S.1 5 r.toNat c, S.2.1, [])) (-1005, S)) (-1002, S)) (-1001, S)
noncomputable def f_setS (S : ST) (m : Int) : Int × ST := iff' (0 ≤ m ∧ m ≤ 10) (if m = S.1 0 0 then (S.1 0 0, S) else iff' (FEP (stS S.1 0 0 m) S.2.1) (S.1 0 0, (stS S.1 0 0 m, S.2.1, [])) (-1005, S)) (-1002, S)
noncomputable def f_count (S : ST) (w : Int) : Int := if w = 0 then S.1 10 0 else if w = 1 then S.1 10 1 else if w = 2 then opn S.2.1 (nrN S.1) else if w = 3 then tl S.1 S.2.1 else if w = 4 then S.1 0 0 else if w = 5 then (S.2.2.length : Int) else -1002
noncomputable def f_req (S : ST) (r w : Int) : Int := iff' (isRq S.1 r) (if w = 0 then (if S.2.1.2.2 r.toNat = -1 then -1007 else S.2.1.2.2 r.toNat) else if w = 1 then S.1 5 r.toNat else if w = 2 then S.1 6 r.toNat else if w = 3 then S.1 3 (2 * r.toNat) else if w = 4 then S.1 4 (2 * r.toNat) else if w = 5 then S.1 3 (2 * r.toNat + 1) else if w = 6 then S.1 4 (2 * r.toNat + 1) else if w = 7 then ds S.1 (2 * r.toNat) (2 * r.toNat + 1) else -1002) (-1001)
noncomputable def f_veh (S : ST) (v w : Int) : Int := iff' (isVh S.1 v) (if w = 0 then S.1 7 v.toNat else if w = 1 then S.1 8 v.toNat else if w = 2 then S.1 9 v.toNat else if w = 3 then (S.2.1.1 v.toNat : Int) else if w = 4 then rl S.1 v.toNat (S.2.1.1 v.toNat) (S.2.1.2.1 v.toNat) else if w = 5 then ldm S.1 (S.2.1.2.1 v.toNat) (S.2.1.1 v.toNat) else if w = 6 then (bsv S.2.1 v.toNat 12 : Int) else -1002) (-1001)
noncomputable def f_stop (S : ST) (v k w : Int) : Int := iff' (isVh S.1 v ∧ 0 ≤ k ∧ k < S.2.1.1 v.toNat) (
    let n := S.2.1.1 v.toNat
    let t := S.2.1.2.1 v.toNat
    if w = 0 then ((t k.toNat / 2 : Nat) : Int) else if w = 1 then ((t k.toNat % 2 : Nat) : Int) else if w = 2 then eS S.1 v.toNat n t k.toNat else if w = 3 then lS S.1 v.toNat n t k.toNat else if w = 4 then ld S.1 t (k.toNat + 1) else if w = 5 then eS S.1 v.toNat n t k.toNat - cms S.1 v.toNat t (eS S.1 v.toNat n t) k.toNat else -1002) (-1001)
noncomputable def f_ride (S : ST) (r d : Int) : Int := iff' (isRq S.1 r) (if S.2.1.2.2 r.toNat = -1 then -1004 else
    let v := (S.2.1.2.2 r.toNat).toNat
    let n := S.2.1.1 v
    let t := S.2.1.2.1 v
    let e := if d = 0 then eS S.1 v n t else lS S.1 v n t
    e (px t (2 * r.toNat + 1) n) - e (px t (2 * r.toNat) n) - S.1 0 0) (-1001)
noncomputable def f_depot (S : ST) (v d : Int) : Int := iff' (isVh S.1 v) (
    let n := S.2.1.1 v.toNat
    let t := S.2.1.2.1 v.toNat
    if n = 0 then -1007 else if d = 0 then lS S.1 v.toNat n t 0 - ds S.1 (24 + v.toNat) (t 0) else eS S.1 v.toNat n t (n - 1) + D9 S.1 v.toNat (t (n - 1))) (-1001)
  where D9 (D : Sto) (v s : Nat) : Int := D 0 0 + ds D s (24 + v)
noncomputable def f_ie (S : ST) (r v i j : Int) : Int := iff' (isRq S.1 r ∧ isVh S.1 v) (iff' (0 ≤ i ∧ i < j ∧ j ≤ S.2.1.1 v.toNat + 1) (if S.2.1.2.2 r.toNat = -1 then iff' (FE S.1 v.toNat (S.2.1.1 v.toNat + 2) (insT (S.2.1.2.1 v.toNat) r.toNat i.toNat j.toNat)) 0 (-1005) else -1003) (-1002)) (-1001)
noncomputable def f_cost (S : ST) (r v i j : Int) : Int := if f_ie S r v i j = 0 then adL S.1 v.toNat (S.2.1.1 v.toNat) (S.2.1.2.1 v.toNat) r.toNat i.toNat j.toNat else f_ie S r v i j
noncomputable def f_ins (S : ST) (r v i j : Int) : Int × ST := if f_ie S r v i j = 0 then (adL S.1 v.toNat (S.2.1.1 v.toNat) (S.2.1.2.1 v.toNat) r.toNat i.toNat j.toNat, (S.1, pput S.2.1 r.toNat v.toNat i.toNat j.toNat, recH S.2.2 S.2.1)) else (f_ie S r v i j, S)
noncomputable def f_oe (S : ST) (r : Int) : Int := iff' (isRq S.1 r) (if S.2.1.2.2 r.toNat = -1 then 0 else -1003) (-1001)
noncomputable def f_oe2 (S : ST) (r v : Int) : Int := iff' (isVh S.1 v) (f_oe S r) (-1001)
noncomputable def bst (S : ST) (r v : Int) : Acc := sc S.1 v.toNat (S.2.1.1 v.toNat) (S.2.1.2.1 v.toNat) r.toNat none
noncomputable def f_best (S : ST) (r v : Int) : Int := if f_oe2 S r v = 0 then (match bst S r v with
  | none => -1007
  | some a => 100 * (a.2.2.1 : Int) + (a.2.2.2 : Int)) else f_oe2 S r v
noncomputable def f_asT (S : ST) (r v : Int) : Int × ST := if f_oe2 S r v = 0 then (match bst S r v with
  | none => (-1005, S)
  | some a => (a.1, (S.1, pput S.2.1 r.toNat a.2.1 a.2.2.1 a.2.2.2, recH S.2.2 S.2.1))) else (f_oe2 S r v, S)
noncomputable def f_asg (S : ST) (r : Int) : Int × ST := if f_oe S r = 0 then (match alb S.1 S.2.1 r.toNat (-1) (nvN S.1) with
  | none => (-1005, S)
  | some a => ((a.2.1 : Int), (S.1, pput S.2.1 r.toNat a.2.1 a.2.2.1 a.2.2.2, recH S.2.2 S.2.1))) else (f_oe S r, S)
noncomputable def f_rem (S : ST) (r : Int) : Int × ST := iff' (isRq S.1 r) (if S.2.1.2.2 r.toNat = -1 then (-1004, S) else (tl S.1 S.2.1 - tl S.1 (ptk S.2.1 r.toNat), (S.1, ptk S.2.1 r.toNat, recH S.2.2 S.2.1))) (-1001, S)
noncomputable def f_cc (S : ST) (r : Int) : Int := if f_oe S r = 0 then (match fch S.1 S.2.1 r.toNat with
  | none => -1005
  | some x => x.1 - tl S.1 S.2.1 + 10000) else f_oe S r
noncomputable def f_ch (S : ST) (r : Int) : Int × ST := if f_oe S r = 0 then (match fch S.1 S.2.1 r.toNat with
  | none => (-1005, S)
  | some x => (100 * (x.2.1 : Int) + (x.2.2.1 : Int), (S.1, x.2.2.2, recH S.2.2 S.2.1))) else (f_oe S r, S)
noncomputable def f_im (S : ST) : Int × ST := match imS S.1 S.2.1 (nrN S.1) with
  | none => (-1007, S)
  | some x => if x.2.1 = 99 then (-1007, S) else (tl S.1 S.2.1 - x.1, (S.1, x.2.2.2, recH S.2.2 S.2.1))
def f_un (S : ST) : Int × ST := match S.2.2.getLast? with
  | none => (-1007, S)
  | some h => ((S.2.2.dropLast.length : Int), (S.1, h, S.2.2.dropLast))
