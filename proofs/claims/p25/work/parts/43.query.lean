def rM (σ D : Sto) : Prop := (∀ a : Nat, a < 2 * nrN D → σ 56 (2 * a) = D 1 a ∧ σ 56 (2 * a + 1) = D 2 a) ∧ ∀ v : Nat, v < nvN D → σ 56 (48 + 2 * v) = D 1 (24 + v) ∧ σ 56 (49 + 2 * v) = D 2 (24 + v)
theorem rM_fr {σ σ' D : Sto} (h : rM σ D) (f : frC σ σ') : rM σ' D := by
  have e := f 56 (by omega) (by omega)
  unfold rM
  rw [e]
  exact h
def BI (σ0 σ : Sto) (S : ST) : Prop := InvC σ S ∧ frC σ0 σ
theorem BI_r {σ : Sto} {S : ST} (h : InvC σ S) : BI σ σ S := ⟨h, frC_r⟩
theorem BI_t {σ σ1 σ2 : Sto} {S S' : ST} (h : BI σ σ1 S) (h2 : BI σ1 σ2 S') : BI σ σ2 S' := ⟨h2.1, frC_t h.2 h2.2⟩
def lowF (x n : Int) : Int := andI x 2147483647 % n
theorem andI_0 (x : Int) : 0 ≤ andI x 2147483647 := by
  unfold andI
  have h : (Int32.ofInt x &&& Int32.ofInt 2147483647).toBitVec.msb = false := by
    show (((Int32.ofInt x).toBitVec) &&& (Int32.ofInt 2147483647).toBitVec).msb = false
    rw [BitVec.msb_and]
    have e : (Int32.ofInt 2147483647).toBitVec.msb = false := by decide
    rw [e, Bool.and_false]
  show 0 ≤ (Int32.ofInt x &&& Int32.ofInt 2147483647).toBitVec.toInt
  rw [BitVec.toInt_eq_msb_cond, h]
  simp
theorem lowF_b {x n : Int} (hn : 0 < n) : 0 ≤ lowF x n ∧ lowF x n < n := ⟨Int.emod_nonneg _ (by omega), Int.emod_lt_of_pos _ hn⟩
theorem VP {D : Sto} {p : PL} {hs : List PL} (hV : Val (D, p, hs)) : WP D p := hV.2.1
theorem VD {D : Sto} {p : PL} {hs : List PL} (hV : Val (D, p, hs)) : DOK D := hV.1
theorem VW {D : Sto} {p : PL} {hs : List PL} (hV : Val (D, p, hs)) {v : Nat} (hv : v < 4) : RW (p.1 v) (p.2.1 v) := hV.2.1.1 v hv
theorem VF {D : Sto} {p : PL} {hs : List PL} (hV : Val (D, p, hs)) {v : Nat} (hv : v < 4) : FE D v (p.1 v) (p.2.1 v) := hV.2.2.1 v hv
section QUERY
variable {l : Launch} {G : GT}
theorem k_low {σ : Sto} {x n : Int} (hn : 0 < n) {Q : Int → Sto → Prop} (hQ : Q (lowF x n) σ) : CLi l G mL_low [vI x, vI n] σ Q := clL_low l G σ Q x n ⟨andI_0 x, hn, hQ⟩
theorem k_size {σ : Sto} {x : Int} (hx : -2147483647 ≤ x ∧ x ≤ 2147483647) {Q : Int → Sto → Prop} (hQ : Q (iab x) σ) : CLi l G mL_size [vI x] σ Q :=
  clL_size l G σ Q x ⟨fun _ => ⟨by omega, trivial⟩, fun y hy => by
    have e : y = iab x := by
      unfold iab
      by_cases c : 0 ≤ x
      · rw [if_pos c] at hy; rw [if_neg (by omega)]; exact hy
      · rw [if_neg c] at hy; rw [if_pos (by omega)]; exact hy
    rw [e]; exact hQ⟩
theorem k_far0 {D : Sto} (hD : DOK D) {σ : Sto} {a b : Nat} (ha : a < 28) (hb : b < 28) (ma : σ 56 (2 * a) = D 1 a ∧ σ 56 (2 * a + 1) = D 2 a) (mb : σ 56 (2 * b) = D 1 b ∧ σ 56 (2 * b + 1) = D 2 b) {x1 x2 : Int} (h1 : x1 = a) (h2 : x2 = b) {Q : Int → Sto → Prop} (hQ : Q (ds D a b) σ) : CLi l G mL_far [vR 56, vI x1, vI x2] σ Q := by
  have e1 : (2 * x1).toNat = 2 * a := by omega
  have e2 : (2 * x2).toNat = 2 * b := by omega
  have e3 : (2 * x1 + 1).toNat = 2 * a + 1 := by omega
  have e4 : (2 * x2 + 1).toNat = 2 * b + 1 := by omega
  have d1 := hD.2.1 a ha
  have d2 := hD.2.1 b hb
  have d3 := iab_le (a := D 1 a) (b := D 1 b) (c := 99) (by omega)
  have d4 := iab_le (a := D 2 a) (b := D 2 b) (c := 99) (by omega)
  have d5 := iab_0 (D 1 a - D 1 b)
  have d6 := iab_0 (D 2 a - D 2 b)
  refine clL_far l G σ Q x1 x2 ⟨by omega, by omega, by omega, by omega, ?_⟩
  rw [e1, e2, ma.1, mb.1]
  refine ⟨by omega, k_size (by omega) ⟨by omega, by omega, by omega, by omega, ?_⟩⟩
  rw [e3, e4, ma.2, mb.2]
  exact ⟨by omega, k_size (by omega) ⟨by omega, hQ⟩⟩
theorem rM_s {σ D : Sto} (h : rM σ D) {s : Nat} (hs : s < 2 * nrN D) : σ 56 (2 * s) = D 1 s ∧ σ 56 (2 * s + 1) = D 2 s := h.1 s hs
theorem rM_v {σ D : Sto} (h : rM σ D) {v : Nat} (hv : v < nvN D) : σ 56 (2 * (24 + v)) = D 1 (24 + v) ∧ σ 56 (2 * (24 + v) + 1) = D 2 (24 + v) := by
  have e1 : 2 * (24 + v) = 48 + 2 * v := by omega
  have e2 : 48 + 2 * v + 1 = 49 + 2 * v := by omega
  rw [e1, e2]
  exact h.2 v hv
theorem k_farS {D : Sto} (hD : DOK D) {σ : Sto} (hM : rM σ D) {a b : Nat} (ha : a < 2 * nrN D) (hb : b < 2 * nrN D) {x1 x2 : Int} (h1 : x1 = a) (h2 : x2 = b) {Q : Int → Sto → Prop} (hQ : Q (ds D a b) σ) : CLi l G mL_far [vR 56, vI x1, vI x2] σ Q := by
  have nb := nv_b hD
  exact k_far0 hD (by omega) (by omega) (rM_s hM ha) (rM_s hM hb) h1 h2 hQ
theorem k_farV {D : Sto} (hD : DOK D) {σ : Sto} (hM : rM σ D) {v b : Nat} (hv : v < nvN D) (hb : b < 2 * nrN D) {x1 x2 : Int} (h1 : x1 = v) (h2 : x2 = b) {Q : Int → Sto → Prop} (hQ : Q (ds D (24 + v) b) σ) : CLi l G mL_far [vR 56, vI (24 + x1), vI x2] σ Q := by
  have nb := nv_b hD
  exact k_far0 hD (by omega) (by omega) (rM_v hM hv) (rM_s hM hb) (by omega) h2 hQ
variable {D : Sto} {p : PL} {hs : List PL} {σ0 σ : Sto} {Q : Int → Sto → Prop}
theorem q_count (hV : Val (D, p, hs)) (h : BI σ0 σ (D, p, hs)) {w x : Int} (hx : f_count (D, p, hs) w = x) (hQ : ∀ σ', BI σ0 σ' (D, p, hs) → Q x σ') : CLi l G mX7_count [vR 0, vI w] σ Q :=
  c_count hV h.1 (fun σ' a b => by rw [hx]; exact hQ σ' ⟨a, frC_t h.2 b⟩)
theorem fc_0 : f_count (D, p, hs) 0 = D 10 0 := by simp [f_count]
theorem fc_1 : f_count (D, p, hs) 1 = D 10 1 := by simp [f_count]
theorem fc_2 : f_count (D, p, hs) 2 = opn p (nrN D) := by simp [f_count]
theorem fc_3 : f_count (D, p, hs) 3 = tl D p := by simp [f_count]
theorem fc_4 : f_count (D, p, hs) 4 = D 0 0 := by simp [f_count]
theorem fc_5 : f_count (D, p, hs) 5 = hs.length := by simp [f_count]
theorem q_veh (hV : Val (D, p, hs)) (h : BI σ0 σ (D, p, hs)) {v : Nat} (hv : v < nvN D) {x1 w x : Int} (h1 : x1 = v) (hx : f_veh (D, p, hs) v w = x) (hQ : ∀ σ', BI σ0 σ' (D, p, hs) → Q x σ') : CLi l G mX7_vehicle [vR 0, vI x1, vI w] σ Q := by
  subst h1
  exact c_veh hV h.1 (fun σ' a b => by rw [hx]; exact hQ σ' ⟨a, frC_t h.2 b⟩)
theorem fv_w {v : Nat} (hv : v < nvN D) (w : Int) : f_veh (D, p, hs) v w = if w = 0 then D 7 v else if w = 1 then D 8 v else if w = 2 then D 9 v else if w = 3 then (p.1 v : Int) else if w = 4 then rl D v (p.1 v) (p.2.1 v) else if w = 5 then ldm D (p.2.1 v) (p.1 v) else if w = 6 then (bsv p v 12 : Int) else -1002 := by
  unfold f_veh
  have e : ((v : Nat) : Int).toNat = v := Int.toNat_natCast v
  have hv2 : isVh D v := by unfold nvN at hv; exact ⟨by omega, by omega⟩
  rw [if_t hv2]
  simp only [e]
theorem fv_0 {v : Nat} (hv : v < nvN D) : f_veh (D, p, hs) v 0 = D 7 v := by rw [fv_w hv]; rfl
theorem fv_1 {v : Nat} (hv : v < nvN D) : f_veh (D, p, hs) v 1 = D 8 v := by rw [fv_w hv]; rfl
theorem fv_2 {v : Nat} (hv : v < nvN D) : f_veh (D, p, hs) v 2 = D 9 v := by rw [fv_w hv]; rfl
theorem fv_3 {v : Nat} (hv : v < nvN D) : f_veh (D, p, hs) v 3 = p.1 v := by rw [fv_w hv]; rfl
theorem fv_4 {v : Nat} (hv : v < nvN D) : f_veh (D, p, hs) v 4 = rl D v (p.1 v) (p.2.1 v) := by rw [fv_w hv]; rfl
theorem fv_5 {v : Nat} (hv : v < nvN D) : f_veh (D, p, hs) v 5 = ldm D (p.2.1 v) (p.1 v) := by rw [fv_w hv]; rfl
theorem fv_6 {v : Nat} (hv : v < nvN D) : f_veh (D, p, hs) v 6 = bsv p v 12 := by rw [fv_w hv]; rfl
theorem q_req (hV : Val (D, p, hs)) (h : BI σ0 σ (D, p, hs)) {r : Nat} {x1 w x : Int} (h1 : x1 = r) (hx : f_req (D, p, hs) r w = x) (hQ : ∀ σ', BI σ0 σ' (D, p, hs) → Q x σ') : CLi l G mX7_request [vR 0, vI x1, vI w] σ Q := by
  subst h1
  exact c_req hV h.1 (fun σ' a b => by rw [hx]; exact hQ σ' ⟨a, frC_t h.2 b⟩)
theorem fr_w {r : Nat} (hr : r < nrN D) (w : Int) : f_req (D, p, hs) r w = if w = 0 then (if p.2.2 r = -1 then -1007 else p.2.2 r) else if w = 1 then D 5 r else if w = 2 then D 6 r else if w = 3 then D 3 (2 * r) else if w = 4 then D 4 (2 * r) else if w = 5 then D 3 (2 * r + 1) else if w = 6 then D 4 (2 * r + 1) else if w = 7 then ds D (2 * r) (2 * r + 1) else -1002 := by
  unfold f_req
  have e : ((r : Nat) : Int).toNat = r := Int.toNat_natCast r
  have hr2 : isRq D r := by unfold nrN at hr; exact ⟨by omega, by omega⟩
  rw [if_t hr2]
  simp only [e]
theorem fr_0 {r : Nat} (hr : r < nrN D) : f_req (D, p, hs) r 0 = if p.2.2 r = -1 then -1007 else p.2.2 r := by rw [fr_w hr]; rfl
theorem fr_1 {r : Nat} (hr : r < nrN D) : f_req (D, p, hs) r 1 = D 5 r := by rw [fr_w hr]; rfl
theorem fr_2 {r : Nat} (hr : r < nrN D) : f_req (D, p, hs) r 2 = D 6 r := by rw [fr_w hr]; rfl
theorem fr_3 {r : Nat} (hr : r < nrN D) : f_req (D, p, hs) r 3 = D 3 (2 * r) := by rw [fr_w hr]; rfl
theorem fr_4 {r : Nat} (hr : r < nrN D) : f_req (D, p, hs) r 4 = D 4 (2 * r) := by rw [fr_w hr]; rfl
theorem fr_5 {r : Nat} (hr : r < nrN D) : f_req (D, p, hs) r 5 = D 3 (2 * r + 1) := by rw [fr_w hr]; rfl
theorem fr_6 {r : Nat} (hr : r < nrN D) : f_req (D, p, hs) r 6 = D 4 (2 * r + 1) := by rw [fr_w hr]; rfl
theorem fr_7 {r : Nat} (hr : r < nrN D) : f_req (D, p, hs) r 7 = ds D (2 * r) (2 * r + 1) := by rw [fr_w hr]; rfl
theorem q_stop (hV : Val (D, p, hs)) (h : BI σ0 σ (D, p, hs)) {v k : Nat} {x1 x2 w x : Int} (h1 : x1 = v) (h2 : x2 = k) (hx : f_stop (D, p, hs) v k w = x) (hQ : ∀ σ', BI σ0 σ' (D, p, hs) → Q x σ') : CLi l G mX7_stop [vR 0, vI x1, vI x2, vI w] σ Q := by
  subst h1; subst h2
  exact c_stop hV h.1 (fun σ' a b => by rw [hx]; exact hQ σ' ⟨a, frC_t h.2 b⟩)
theorem fs_w {v k : Nat} (hv : v < nvN D) (hk : k < p.1 v) (w : Int) : f_stop (D, p, hs) v k w = if w = 0 then ((p.2.1 v k / 2 : Nat) : Int) else if w = 1 then ((p.2.1 v k % 2 : Nat) : Int) else if w = 2 then eS D v (p.1 v) (p.2.1 v) k else if w = 3 then lS D v (p.1 v) (p.2.1 v) k else if w = 4 then ld D (p.2.1 v) (k + 1) else if w = 5 then eS D v (p.1 v) (p.2.1 v) k - cms D v (p.2.1 v) (eS D v (p.1 v) (p.2.1 v)) k else -1002 := by
  unfold f_stop
  have e : ((v : Nat) : Int).toNat = v := Int.toNat_natCast v
  have e2 : ((k : Nat) : Int).toNat = k := Int.toNat_natCast k
  have hv2 : isVh D v := by unfold nvN at hv; exact ⟨by omega, by omega⟩
  rw [if_t ⟨hv2, by omega, by show (k : Int) < (p.1 ((v : Nat) : Int).toNat : Nat); rw [e]; omega⟩]
  simp only [e, e2]
theorem fs_0 {v k : Nat} (hv : v < nvN D) (hk : k < p.1 v) : f_stop (D, p, hs) v k 0 = ((p.2.1 v k / 2 : Nat) : Int) := by rw [fs_w hv hk]; rfl
theorem fs_1 {v k : Nat} (hv : v < nvN D) (hk : k < p.1 v) : f_stop (D, p, hs) v k 1 = ((p.2.1 v k % 2 : Nat) : Int) := by rw [fs_w hv hk]; rfl
theorem fs_2 {v k : Nat} (hv : v < nvN D) (hk : k < p.1 v) : f_stop (D, p, hs) v k 2 = eS D v (p.1 v) (p.2.1 v) k := by rw [fs_w hv hk]; rfl
theorem fs_3 {v k : Nat} (hv : v < nvN D) (hk : k < p.1 v) : f_stop (D, p, hs) v k 3 = lS D v (p.1 v) (p.2.1 v) k := by rw [fs_w hv hk]; rfl
theorem fs_4 {v k : Nat} (hv : v < nvN D) (hk : k < p.1 v) : f_stop (D, p, hs) v k 4 = ld D (p.2.1 v) (k + 1) := by rw [fs_w hv hk]; rfl
theorem fs_5 {v k : Nat} (hv : v < nvN D) (hk : k < p.1 v) : f_stop (D, p, hs) v k 5 = eS D v (p.1 v) (p.2.1 v) k - cms D v (p.2.1 v) (eS D v (p.1 v) (p.2.1 v)) k := by rw [fs_w hv hk]; rfl
theorem fs_n {v k : Nat} (hk : p.1 v ≤ k) (w : Int) : f_stop (D, p, hs) v k w = -1001 := by
  unfold f_stop
  have e : ((v : Nat) : Int).toNat = v := Int.toNat_natCast v
  rw [if_f]
  rintro ⟨-, -, q⟩
  have q : (k : Int) < (p.1 ((v : Nat) : Int).toNat : Nat) := q
  rw [e] at q
  omega
theorem q_ride (hV : Val (D, p, hs)) (h : BI σ0 σ (D, p, hs)) {r : Nat} {x1 w x : Int} (h1 : x1 = r) (hx : f_ride (D, p, hs) r w = x) (hQ : ∀ σ', BI σ0 σ' (D, p, hs) → Q x σ') : CLi l G mX7_rideTime [vR 0, vI x1, vI w] σ Q := by
  subst h1
  exact c_ride hV h.1 (fun σ' a b => by rw [hx]; exact hQ σ' ⟨a, frC_t h.2 b⟩)
theorem fq_o {r : Nat} (hr : r < nrN D) (ho : p.2.2 r = -1) (w : Int) : f_ride (D, p, hs) r w = -1004 := by
  unfold f_ride
  have e : ((r : Nat) : Int).toNat = r := Int.toNat_natCast r
  have hr2 : isRq D r := by unfold nrN at hr; exact ⟨by omega, by omega⟩
  rw [if_t hr2]
  simp only [e]
  rw [if_pos ho]
theorem fq_a (hw : WP D p) {r v i j : Nat} (hr : r < nrN D) (hv : v < 4) (ho : p.2.2 r = v) (hi : i < p.1 v) (hj : j < p.1 v) (gi : p.2.1 v i = 2 * r) (gj : p.2.1 v j = 2 * r + 1) : f_ride (D, p, hs) r 0 = eS D v (p.1 v) (p.2.1 v) j - eS D v (p.1 v) (p.2.1 v) i - D 0 0 ∧ f_ride (D, p, hs) r 1 = lS D v (p.1 v) (p.2.1 v) j - lS D v (p.1 v) (p.2.1 v) i - D 0 0 := by
  have e : ((r : Nat) : Int).toNat = r := Int.toNat_natCast r
  have e2 : ((v : Nat) : Int).toNat = v := Int.toNat_natCast v
  have hr2 : isRq D r := by unfold nrN at hr; exact ⟨by omega, by omega⟩
  have x1 := px_eq _ (hw.1 v hv).2.2.1 hi gi
  have x2 := px_eq _ (hw.1 v hv).2.2.1 hj gj
  have ha : p.2.2 r ≠ -1 := by omega
  constructor
  · unfold f_ride
    rw [if_t hr2]
    simp only [e]
    rw [if_neg ha, ho, e2, x1, x2]
    rfl
  · unfold f_ride
    rw [if_t hr2]
    simp only [e]
    rw [if_neg ha, ho, e2, x1, x2]
    rfl
theorem q_depot (hV : Val (D, p, hs)) (h : BI σ0 σ (D, p, hs)) {v : Nat} {x1 w x : Int} (h1 : x1 = v) (hx : f_depot (D, p, hs) v w = x) (hQ : ∀ σ', BI σ0 σ' (D, p, hs) → Q x σ') : CLi l G mX7_depotTime [vR 0, vI x1, vI w] σ Q := by
  subst h1
  exact c_depot hV h.1 (fun σ' a b => by rw [hx]; exact hQ σ' ⟨a, frC_t h.2 b⟩)
theorem fd_n {v : Nat} (hv : v < nvN D) (hn : p.1 v = 0) (w : Int) : f_depot (D, p, hs) v w = -1007 := by
  have e : ((v : Nat) : Int).toNat = v := Int.toNat_natCast v
  have hv2 : isVh D v := by unfold nvN at hv; exact ⟨by omega, by omega⟩
  unfold f_depot
  rw [if_t hv2]
  simp only [e]
  rw [if_pos hn]
theorem fd_a {v : Nat} (hv : v < nvN D) (hn : p.1 v ≠ 0) : f_depot (D, p, hs) v 0 = lS D v (p.1 v) (p.2.1 v) 0 - ds D (24 + v) (p.2.1 v 0) ∧ f_depot (D, p, hs) v 1 = eS D v (p.1 v) (p.2.1 v) (p.1 v - 1) + (D 0 0 + ds D (p.2.1 v (p.1 v - 1)) (24 + v)) := by
  have e : ((v : Nat) : Int).toNat = v := Int.toNat_natCast v
  have hv2 : isVh D v := by unfold nvN at hv; exact ⟨by omega, by omega⟩
  constructor
  · unfold f_depot
    rw [if_t hv2]
    simp only [e]
    rw [if_neg hn]
    rfl
  · unfold f_depot
    rw [if_t hv2]
    simp only [e]
    rw [if_neg hn]
    rfl
theorem q_at (hV : Val (D, p, hs)) (h : BI σ0 σ (D, p, hs)) {v k : Nat} (hv : v < nvN D) (hk : k < p.1 v) {x1 x2 : Int} (h1 : x1 = v) (h2 : x2 = k) (hQ : ∀ σ', BI σ0 σ' (D, p, hs) → Q (p.2.1 v k) σ') : CLi l G mL_at [vR 0, vI x1, vI x2] σ Q := by
  have nb := nv_b (D := D) hV.1
  have hb : p.2.1 v k < 24 := (VW hV (v := v) (by omega)).2.1 k hk
  have ea : 2 * (((p.2.1 v k / 2 : Nat)) : Int) + ((p.2.1 v k % 2 : Nat) : Int) = (p.2.1 v k : Int) := by omega
  refine clL_at l G σ Q x1 x2 (q_stop hV h h1 h2 (fs_0 hv hk) (fun σ1 i1 => ⟨by omega, q_stop hV i1 h1 h2 (fs_1 hv hk) (fun σ2 i2 => ⟨by omega, ?_⟩)⟩))
  rw [ea]
  exact hQ σ2 i2
theorem q_cost (hV : Val (D, p, hs)) (h : BI σ0 σ (D, p, hs)) {r v i j x : Int} (hx : f_cost (D, p, hs) r v i j = x) (hQ : ∀ σ', BI σ0 σ' (D, p, hs) → Q x σ') : CLi l G mX7_cost [vR 0, vI r, vI v, vI i, vI j] σ Q :=
  c_cost hV h.1 (fun σ' a b => by rw [hx]; exact hQ σ' ⟨a, frC_t h.2 b⟩)
theorem q_best (hV : Val (D, p, hs)) (h : BI σ0 σ (D, p, hs)) {r v x : Int} (hx : f_best (D, p, hs) r v = x) (hQ : ∀ σ', BI σ0 σ' (D, p, hs) → Q x σ') : CLi l G mX7_best [vR 0, vI r, vI v] σ Q :=
  c_best hV h.1 (fun σ' a b => by rw [hx]; exact hQ σ' ⟨a, frC_t h.2 b⟩)
theorem q_cc (hV : Val (D, p, hs)) (h : BI σ0 σ (D, p, hs)) {r x : Int} (hx : f_cc (D, p, hs) r = x) (hQ : ∀ σ', BI σ0 σ' (D, p, hs) → Q x σ') : CLi l G mX7_chainCost [vR 0, vI r] σ Q :=
  c_cc hV h.1 (fun σ' a b => by rw [hx]; exact hQ σ' ⟨a, frC_t h.2 b⟩)
end QUERY
