section CLASSB
variable {l : Launch} {G : GT}
theorem sp_kLoad {σ : Sto} {r : Nat} (hr : r < 12) {x1 x2 : Int} (h1 : x1 = r) (h2 : -100 ≤ x2 ∧ x2 ≤ 100) {Q : Sto → Prop} (hQ : Q (stS (stS σ 6 (2 * r) x2) 6 (2 * r + 1) (-x2))) : CLv l G mX4_keepLoad [vR 1, vI x1, vI x2] σ Q := by
  refine clX4_keepLoad l G σ Q x1 x2 ?_
  rw [show (2 * x1).toNat = 2 * r by omega, show (2 * x1 + 1).toNat = 2 * r + 1 by omega]
  exact ⟨by omega, by omega, by omega, by omega, by omega, hQ⟩
theorem sp_kWin {σ : Sto} {s : Nat} (hs : s < 24) {x1 x2 x3 : Int} (h1 : x1 = s) {Q : Sto → Prop} (hQ : Q (stS (stS σ 7 s x2) 8 s x3)) : CLv l G mX4_keepWindow [vR 1, vI x1, vI x2, vI x3] σ Q := by
  refine clX4_keepWindow l G σ Q x1 x2 x3 ?_
  rw [show x1.toNat = s by omega]
  exact ⟨by omega, hQ⟩
theorem c_setL {S : ST} (hV : Val S) {σ : Sto} (hI : InvC σ S) {x1 x2 : Int} {Q : Int → Sto → Prop} (hQ : ∀ σ', InvC σ' (f_setL S x1 x2).2 → frC σ σ' → Q (f_setL S x1 x2).1 σ') : CLi l G mX7_setLoad [vR 0, vI x1, vI x2] σ Q := by
  obtain ⟨D, p, hs⟩ := S
  obtain ⟨hP, hp, hH⟩ := id hI
  obtain ⟨hD, hw, hf, -, -⟩ := id hV
  have hP : rP D σ := hP
  have hp : rPl σ 74 p := hp
  have hD : DOK D := hD
  have hw : WP D p := hw
  have nb := nv_b hD
  unfold f_setL at hQ
  refine clX7_setLoad l G σ Q x1 x2 (sp_isRq hP (fun q => ⟨fun e => absurd e (by decide), fun _ => ?_⟩) (fun q => ⟨fun _ => by rw [if_f q] at hQ; exact hQ σ hI frC_r, fun e => absurd rfl e⟩))
  rw [if_t q] at hQ
  have hr : 0 ≤ x1 ∧ x1 < D 10 1 := q
  refine sp_isLoad (fun q1 => ⟨fun e => absurd e (by decide), fun _ => ?_⟩) (fun q1 => ⟨fun _ => by rw [if_f q1] at hQ; exact hQ σ hI frC_r, fun e => absurd rfl e⟩)
  rw [if_t q1] at hQ
  have hr12 : x1.toNat < 12 := by omega
  have en : (2 * x1).toNat = 2 * x1.toNat := by omega
  have e5 : σ 6 (2 * x1.toNat) = D 5 x1.toNat := (hP.2.2.1 _ hr12).2.1
  have bD := hD.2.2.2.1 x1.toNat hr12
  rw [en, e5]
  refine ⟨by omega, by omega, fun c => ?_, fun c => ?_⟩
  · have hQ := hQ σ
    simp only [if_pos c] at hQ
    exact hQ hI frC_r
  · simp only [if_neg c] at hQ
    obtain ⟨b1, b2⟩ := id q1
    have hP1 := rP_load hP x1.toNat x2
    refine sp_kLoad hr12 (by omega) (by omega) ?_
    have k1 : ∀ c, 40 ≤ c → stS (stS σ 6 (2 * x1.toNat) x2) 6 (2 * x1.toNat + 1) (-x2) c = σ c := fun c hc => (fP_k (by omega) c hc).trans (fP_k (by omega) c hc)
    generalize stS (stS σ 6 (2 * x1.toNat) x2) 6 (2 * x1.toNat + 1) (-x2) = σ1 at *
    have hp1 : rPl σ1 74 p := rPl_k hp (fun k a _ => k1 k (by omega))
    have hw1 : WP (stS D 5 x1.toNat x2) p := WP_D hw (by simp [stS]) (Or.inl (by simp [stS]))
    refine sp_still (DOK_load hD x1.toNat q1) hw1 hP1 hp1 (by omega) (fun σ2 f2 ok => ⟨fun e => absurd e (by decide), fun _ => sp_forget (fun σ3 k3 h3 => ?_)⟩) (fun σ2 f2 ok => ⟨fun _ => sp_kLoad hr12 (by omega) (by omega) ?_, fun e => absurd rfl e⟩)
    · rw [if_t ok] at hQ
      have hI2 := rP_fI hP1 f2
      refine hQ σ3 ⟨rP_k hI2 (fun k hk => k3 k (by omega)), rPl_k (rPl_fI hp1 f2 (by omega)) (fun k a b => k3 k (by omega)), h3 hs (rH_I (rH_k hH (k1 53 (by omega)) (fun k a => k1 k (by omega))) f2)⟩ (fun k a b => ?_)
      rw [k3 k (by omega), f2 k (by omega) (by omega) (by omega), k1 k (by omega)]
    · rw [if_f ok] at hQ
      have hI3 := rP_load (rP_fI hP1 f2) x1.toNat (D 5 x1.toNat)
      rw [stS_back] at hI3
      have k3 : ∀ c, 40 ≤ c → stS (stS σ2 6 (2 * x1.toNat) (D 5 x1.toNat)) 6 (2 * x1.toNat + 1) (-(D 5 x1.toNat)) c = σ2 c := fun c hc => (fP_k (by omega) c hc).trans (fP_k (by omega) c hc)
      refine hQ _ ⟨hI3, rPl_k (rPl_fI hp1 f2 (by omega)) (fun k a b => k3 k (by omega)), rH_k (rH_I (rH_k hH (k1 53 (by omega)) (fun k a => k1 k (by omega))) f2) (k3 53 (by omega)) (fun k a => k3 k (by omega))⟩ (fun k a b => ?_)
      rw [k3 k (by omega), f2 k (by omega) (by omega) (by omega), k1 k (by omega)]
theorem c_setW {S : ST} (hV : Val S) {σ : Sto} (hI : InvC σ S) {x1 x2 x3 x4 : Int} {Q : Int → Sto → Prop} (hQ : ∀ σ', InvC σ' (f_setW S x1 x2 x3 x4).2 → frC σ σ' → Q (f_setW S x1 x2 x3 x4).1 σ') : CLi l G mX7_setWindow [vR 0, vI x1, vI x2, vI x3, vI x4] σ Q := by
  obtain ⟨D, p, hs⟩ := S
  obtain ⟨hP, hp, hH⟩ := id hI
  obtain ⟨hD, hw, hf, -, -⟩ := id hV
  have hP : rP D σ := hP
  have hp : rPl σ 74 p := hp
  have hD : DOK D := hD
  have hw : WP D p := hw
  have nb := nv_b hD
  unfold f_setW at hQ
  refine clX7_setWindow l G σ Q x1 x2 x3 x4 (sp_isRq hP (fun q => ⟨fun e => absurd e (by decide), fun _ => ?_⟩) (fun q => ⟨fun _ => by rw [if_f q] at hQ; exact hQ σ hI frC_r, fun e => absurd rfl e⟩))
  rw [if_t q] at hQ
  have hr : 0 ≤ x1 ∧ x1 < D 10 1 := q
  refine sp_isWindow (fun q1 => ⟨fun e => absurd e (by decide), fun _ => ?_⟩) (fun q1 => ⟨fun _ => by rw [if_f q1] at hQ; exact hQ σ hI frC_r, fun e => absurd rfl e⟩)
  rw [if_t q1] at hQ
  refine ⟨⟨fun _ => ⟨by omega, trivial⟩, fun _ => ⟨by omega, by omega, trivial⟩⟩, fun y hy => ?_⟩
  have ey : (2 * x1 + (if x2 = 0 then 0 else 1)).toNat = y.toNat := by
    rw [hy]; split <;> omega
  rw [ey] at hQ
  have hy2 : y = (y.toNat : Int) ∧ y.toNat / 2 = x1.toNat ∧ y.toNat < 24 := by split at hy <;> omega
  generalize hs2 : y.toNat = s at hQ hy2
  obtain ⟨hys, hsr, hs24⟩ := hy2
  have e7 := hP.2.2.2.1 s hs24
  rw [e7.1, e7.2]
  simp only at hQ
  have hP1 := rP_win hP s x3 x4
  have k1 : ∀ c, 40 ≤ c → stS (stS σ 7 s x3) 8 s x4 c = σ c := fun c hc => (fP_k (by omega) c hc).trans (fP_k (by omega) c hc)
  have hp1 : rPl (stS (stS σ 7 s x3) 8 s x4) 74 p := rPl_k hp (fun k a _ => k1 k (by omega))
  have hw1 : WP (stS (stS D 3 s x3) 4 s x4) p := WP_D hw (by simp [stS]) (Or.inl (by simp [stS]))
  have hD1 := DOK_win hD s q1
  have eb : stS (stS (stS (stS D 3 s x3) 4 s x4) 3 s (D 3 s)) 4 s (D 4 s) = D := by
    funext a b
    unfold stS
    by_cases c1 : a = 4 ∧ b = s
    · rw [if_pos c1, c1.1, c1.2]
    · rw [if_neg c1]
      by_cases c2 : a = 3 ∧ b = s
      · rw [if_pos c2, c2.1, c2.2]
      · rw [if_neg c2, if_neg c1, if_neg c2]
  have go : ¬ (x3 = D 3 s ∧ x4 = D 4 s) → CLv l G mX4_keepWindow [vR 1, vI y, vI x3, vI x4] σ (fun s20 => CLi l G mX7_routeStillFits [vR 0, vI x1] s20 (fun r21 s22 => (r21 = 0 → CLv l G mX4_keepWindow [vR 1, vI y, vI (D 3 s), vI (D 4 s)] s22 (fun s25 => Q (-1005) s25)) ∧ (¬ (r21 = 0) → CLv l G mX0_forget [vR 53] s22 (fun s27 => Q 1 s27)))) := by
    intro c
    rw [if_neg c] at hQ
    refine sp_kWin hs24 hys ?_
    generalize stS (stS σ 7 s x3) 8 s x4 = σ1 at *
    refine sp_still hD1 hw1 hP1 hp1 (by omega) (fun σ2 f2 ok => ⟨fun e => absurd e (by decide), fun _ => sp_forget (fun σ3 k3 h3 => ?_)⟩) (fun σ2 f2 ok => ⟨fun _ => sp_kWin hs24 hys ?_, fun e => absurd rfl e⟩)
    · rw [if_t ok] at hQ
      have hI2 := rP_fI hP1 f2
      refine hQ σ3 ⟨rP_k hI2 (fun k hk => k3 k (by omega)), rPl_k (rPl_fI hp1 f2 (by omega)) (fun k a b => k3 k (by omega)), h3 hs (rH_I (rH_k hH (k1 53 (by omega)) (fun k a => k1 k (by omega))) f2)⟩ (fun k a b => ?_)
      rw [k3 k (by omega), f2 k (by omega) (by omega) (by omega), k1 k (by omega)]
    · rw [if_f ok] at hQ
      have hI3 := rP_win (rP_fI hP1 f2) s (D 3 s) (D 4 s)
      rw [eb] at hI3
      have k3 : ∀ c, 40 ≤ c → stS (stS σ2 7 s (D 3 s)) 8 s (D 4 s) c = σ2 c := fun c hc => (fP_k (by omega) c hc).trans (fP_k (by omega) c hc)
      refine hQ _ ⟨hI3, rPl_k (rPl_fI hp1 f2 (by omega)) (fun k a b => k3 k (by omega)), rH_k (rH_I (rH_k hH (k1 53 (by omega)) (fun k a => k1 k (by omega))) f2) (k3 53 (by omega)) (fun k a => k3 k (by omega))⟩ (fun k a b => ?_)
      rw [k3 k (by omega), f2 k (by omega) (by omega) (by omega), k1 k (by omega)]
  refine ⟨by omega, fun c => ⟨fun c' => ?_, fun c' => go (fun z => c' z.2)⟩, fun c => go (fun z => c z.1)⟩
  rw [if_pos ⟨c, c'⟩] at hQ
  exact hQ σ hI frC_r
theorem c_setS {S : ST} (hV : Val S) {σ : Sto} (hI : InvC σ S) {x1 : Int} {Q : Int → Sto → Prop} (hQ : ∀ σ', InvC σ' (f_setS S x1).2 → frC σ σ' → Q (f_setS S x1).1 σ') : CLi l G mX7_setService [vR 0, vI x1] σ Q := by
  obtain ⟨D, p, hs⟩ := S
  obtain ⟨hP, hp, hH⟩ := id hI
  obtain ⟨hD, hw, hf, -, -⟩ := id hV
  have hP : rP D σ := hP
  have hp : rPl σ 74 p := hp
  have hD : DOK D := hD
  have hw : WP D p := hw
  unfold f_setS at hQ
  have bad : ¬ (0 ≤ x1 ∧ x1 ≤ 10) → Q (-1002) σ := fun q => by rw [if_f q] at hQ; exact hQ σ hI frC_r
  refine clX7_setService l G σ Q x1 ⟨fun c => bad (by omega), fun c => ⟨fun c2 => ?_, fun c2 => bad (by omega)⟩⟩
  have q : 0 ≤ x1 ∧ x1 ≤ 10 := by omega
  rw [if_t q] at hQ
  have e : σ 1 2 = D 0 0 := hP.1.2.2
  rw [e]
  refine ⟨fun c3 => ?_, fun c3 => ?_⟩
  · have hQ := hQ σ
    simp only [if_pos c3] at hQ
    exact hQ hI frC_r
  · simp only [if_neg c3] at hQ
    have hP1 := rP_srv hP x1
    have k1 : ∀ c, 40 ≤ c → stS σ 1 2 x1 c = σ c := fP_k (by omega)
    have hp1 : rPl (stS σ 1 2 x1) 74 p := rPl_k hp (fun k a _ => k1 k (by omega))
    have hw1 : WP (stS D 0 0 x1) p := WP_D hw (by simp [stS]) (Or.inl (by simp [stS]))
    refine sp_allfit (DOK_srv hD q) hw1 hP1 hp1 (fun σ2 f2 ok => ⟨fun e => absurd e (by decide), fun _ => sp_forget (fun σ3 k3 h3 => ?_)⟩) (fun σ2 f2 ok => ⟨fun _ => ?_, fun e => absurd rfl e⟩)
    · rw [if_t ok] at hQ
      have hI2 := rP_fI hP1 f2
      refine hQ σ3 ⟨rP_k hI2 (fun k hk => k3 k (by omega)), rPl_k (rPl_fI hp1 f2 (by omega)) (fun k a b => k3 k (by omega)), h3 hs (rH_I (rH_k hH (k1 53 (by omega)) (fun k a => k1 k (by omega))) f2)⟩ (fun k a b => ?_)
      rw [k3 k (by omega), f2 k (by omega) (by omega) (by omega), k1 k (by omega)]
    · rw [if_f ok] at hQ
      have hI3 := rP_srv (rP_fI hP1 f2) (D 0 0)
      rw [stS_back] at hI3
      have k3 : ∀ c, 40 ≤ c → stS σ2 1 2 (D 0 0) c = σ2 c := fP_k (by omega)
      refine hQ _ ⟨hI3, rPl_k (rPl_fI hp1 f2 (by omega)) (fun k a b => k3 k (by omega)), rH_k (rH_I (rH_k hH (k1 53 (by omega)) (fun k a => k1 k (by omega))) f2) (k3 53 (by omega)) (fun k a => k3 k (by omega))⟩ (fun k a b => ?_)
      rw [k3 k (by omega), f2 k (by omega) (by omega) (by omega), k1 k (by omega)]
def rXY (D σ : Sto) : Prop := (∀ a, a < 28 → σ 9 a = D 1 a ∧ σ 10 a = D 2 a ∧ 0 ≤ D 1 a ∧ D 1 a ≤ 99 ∧ 0 ≤ D 2 a ∧ D 2 a ≤ 99) ∧ ∀ a, a < 28 → ∀ b, b < 28 → σ (12 + a) b = ds D a b
theorem sp_kPlace {D σ : Sto} (h : rXY D σ) {i : Nat} (hi : i < 28) {x1 x2 x3 : Int} (h1 : x1 = i) (hxy : inP x2 x3) {Q : Sto → Prop} (hQ : ∀ σ', (∀ k, k ≠ 9 → k ≠ 10 → (k < 12 ∨ 40 ≤ k) → σ' k = σ k) → rXY (stS (stS D 1 i x2) 2 i x3) σ' → Q σ') : CLv l G mX4_keepPlace [vR 1, vI x1, vI x2, vI x3] σ Q := by
  obtain ⟨b1, b2, b3, b4⟩ := hxy
  have ei : x1.toNat = i := by omega
  generalize hD' : stS (stS D 1 i x2) 2 i x3 = D' at *
  have c1 : ∀ a, a < 28 → stS (stS σ 9 i x2) 10 i x3 9 a = D' 1 a ∧ stS (stS σ 9 i x2) 10 i x3 10 a = D' 2 a ∧ 0 ≤ D' 1 a ∧ D' 1 a ≤ 99 ∧ 0 ≤ D' 2 a ∧ D' 2 a ≤ 99 := fun a ha => by
    have := h.1 a ha
    rw [← hD']
    by_cases e : a = i
    · subst e; simp [stS]; omega
    · simp [stS, e]; omega
  have key : ∀ (m k : Nat) (x4 : Int) (σ1 : Sto), k + m = 28 → x4 = k → (∀ c, c ≠ 9 → c ≠ 10 → (c < 12 ∨ 40 ≤ c) → σ1 c = σ c) → (∀ a, a < 28 → σ1 9 a = D' 1 a ∧ σ1 10 a = D' 2 a) → (∀ a, a < 28 → ∀ b, b < 28 → σ1 (12 + a) b = if (a = i ∧ b < k) ∨ (b = i ∧ a < k) then ds D' a b else ds D a b) → MWv l G mX4_keepPlace 17 [(0, vR 1), (1, vI x1), (2, vI x2), (3, vI x3), (4, vI x4)] [] σ1 Q := by
    intro m
    induction m with
    | zero =>
      intro k x4 σ1 hk h4 hf hc ht
      obtain rfl : k = 28 := by omega
      refine vcX4_keepPlace_17 l G σ1 Q x1 x2 x3 x4 ⟨fun _ => hQ σ1 hf ⟨fun a ha => ⟨(hc a ha).1, (hc a ha).2, (c1 a ha).2.2⟩, fun a ha b hb => ?_⟩, fun q => absurd (by omega) q⟩
      rw [ht a ha b hb]
      by_cases e : (a = i ∧ b < 28) ∨ (b = i ∧ a < 28)
      · rw [if_pos e]
      · rw [if_neg e, ← hD']
        exact (ds_c (by have : a ≠ i := by omega
                        simp [stS, this]) (by have : b ≠ i := by omega
                                              simp [stS, this])).symm
    | succ m ih =>
      intro k x4 σ1 hk h4 hf hc ht
      have hk28 : k < 28 := by omega
      have e4 : x4.toNat = k := by omega
      obtain ⟨g1, g2⟩ := hc k hk28
      obtain ⟨-, -, g3, g4, g5, g6⟩ := c1 k hk28
      have hdi1 : D' 1 i = x2 := by rw [← hD']; simp [stS]
      have hdi2 : D' 2 i = x3 := by rw [← hD']; simp [stS]
      refine vcX4_keepPlace_17 l G σ1 Q x1 x2 x3 x4 ⟨fun q => absurd q (by omega), fun _ => ?_⟩
      rw [e4, ei, g1, g2, ab_i, ab_i]
      have ed : iab (x2 - D' 1 k) + iab (x3 - D' 2 k) = ds D' i k := by unfold ds; rw [hdi1, hdi2]
      have i1 := iab_le (a := x2) (b := D' 1 k) (c := 99) (by omega)
      have i2 := iab_le (a := x3) (b := D' 2 k) (c := 99) (by omega)
      have i3 := iab_0 (x2 - D' 1 k)
      have i4 := iab_0 (x3 - D' 2 k)
      rw [ed]
      refine ⟨by omega, by omega, by omega, by omega, by omega, by omega, by omega, by omega, ih (k + 1) _ _ (by omega) (by omega) (fun c q1 q2 q3 => ?_) (fun a ha => ?_) (fun a ha b hb => ?_)⟩
      · rw [← hf c q1 q2 q3]; funext j; rw [stS_ne (by omega), stS_ne (by omega)]
      · rw [stS_ne (by omega), stS_ne (by omega), stS_ne (by omega), stS_ne (by omega)]; exact hc a ha
      · have hta := ht a ha b hb
        by_cases e1 : a = k ∧ b = i
        · obtain ⟨rfl, rfl⟩ := e1
          rw [stS_eq, if_pos (by omega), ds_s]
        · by_cases e2 : a = i ∧ b = k
          · obtain ⟨rfl, rfl⟩ := e2
            have : stS (stS σ1 (12 + a) b (ds D' a b)) (12 + b) a (ds D' a b) (12 + a) b = ds D' a b := by
              by_cases e3 : a = b
              · subst e3; rw [stS_eq]
              · rw [stS_ne (by omega), stS_eq]
            rw [this, if_pos (by omega)]
          · have : stS (stS σ1 (12 + i) k (ds D' i k)) (12 + k) i (ds D' i k) (12 + a) b = σ1 (12 + a) b := by
              unfold stS
              rw [if_neg (by omega), if_neg (by omega)]
            rw [this, hta]
            by_cases e3 : (a = i ∧ b < k) ∨ (b = i ∧ a < k)
            · rw [if_pos e3, if_pos (by omega)]
            · rw [if_neg e3, if_neg (by omega)]
  refine clX4_keepPlace l G σ Q x1 x2 x3 ⟨by omega, ?_⟩
  rw [ei]
  refine key 28 0 0 _ (by omega) rfl (fun c q1 q2 q3 => ?_) (fun a ha => ⟨(c1 a ha).1, (c1 a ha).2.1⟩) (fun a ha b hb => ?_)
  · funext j; rw [stS_ne q2, stS_ne q1]
  · rw [if_neg (by omega), stS_ne (by omega), stS_ne (by omega)]; exact h.2 a ha b hb
theorem c_addV {S : ST} (hV : Val S) {σ : Sto} (hI : InvC σ S) {x1 x2 x3 x4 x5 : Int} {Q : Int → Sto → Prop} (hQ : ∀ σ', InvC σ' (f_addV S x1 x2 x3 x4 x5).2 → frC σ σ' → Q (f_addV S x1 x2 x3 x4 x5).1 σ') : CLi l G mX7_addVehicle [vR 0, vI x1, vI x2, vI x3, vI x4, vI x5] σ Q := by
  obtain ⟨D, p, hs⟩ := S
  obtain ⟨hP, hp, hH⟩ := id hI
  obtain ⟨hD, hw, hf, -, -⟩ := id hV
  have hP : rP D σ := hP
  have hp : rPl σ 74 p := hp
  have hD : DOK D := hD
  have nb := nv_b hD
  unfold f_addV at hQ
  have bad : ¬ (inP x1 x2 ∧ inL x3 ∧ inW x4 x5) → Q (-1002) σ := fun q => by rw [if_f q] at hQ; exact hQ σ hI frC_r
  refine clX7_addVehicle l G σ Q x1 x2 x3 x4 x5 (sp_isPlace (fun q1 => ⟨fun e => absurd e (by decide), fun _ => sp_isLoad (fun q2 => ⟨fun e => absurd e (by decide), fun _ => sp_isWindow (fun q3 => ⟨fun e => absurd e (by decide), fun _ => ?_⟩) (fun q => ⟨fun _ => bad (fun z => q z.2.2), fun e => absurd rfl e⟩)⟩) (fun q => ⟨fun _ => bad (fun z => q z.2.1), fun e => absurd rfl e⟩)⟩) (fun q => ⟨fun _ => bad (fun z => q z.1), fun e => absurd rfl e⟩))
  rw [if_t ⟨q1, q2, q3⟩] at hQ
  have e0 : σ 1 0 = D 10 0 := hP.1.1
  have en : (D 10 0).toNat = nvN D := rfl
  rw [e0, en]
  have hQ : ∀ σ', InvC σ' (if D 10 0 < 4 then (D 10 0, (dAddV D x1 x2 x3 x4 x5, p, ([] : List PL))) else (-1006, (D, p, hs))).2 → frC σ σ' → Q (if D 10 0 < 4 then (D 10 0, (dAddV D x1 x2 x3 x4 x5, p, ([] : List PL))) else (-1006, (D, p, hs))).1 σ' := hQ
  refine ⟨fun c => ?_, fun c => ?_⟩
  · rw [if_pos c] at hQ
    obtain ⟨P1, P2, P3, P4, P5, P6⟩ := id hP
    have hxy : rXY D (stS (stS (stS σ 2 (nvN D) x3) 3 (nvN D) x4) 4 (nvN D) x5) := ⟨fun a ha => by have := hD.2.1 a ha; have := P5 a ha; simp [stS]; omega, fun a ha b hb => by rw [stS_ne (by omega), stS_ne (by omega), stS_ne (by omega)]; exact P6 a ha b hb⟩
    refine ⟨by omega, by omega, sp_kPlace hxy (i := 24 + nvN D) (by omega) (by omega) q1 (fun σ1 k1 hx1 => ⟨by omega, sp_forget (fun σ2 k2 h2 => ?_)⟩)⟩
    have kk : ∀ k, 40 ≤ k → k ≠ 53 → σ2 k = σ k := fun k hk h53 => by
      rw [k2 k h53]
      funext j
      rw [stS_ne (by omega), k1 k (by omega) (by omega) (by omega), stS_ne (by omega), stS_ne (by omega), stS_ne (by omega)]
    have low : ∀ k, k < 40 → σ2 k = stS σ1 1 0 (D 10 0 + 1) k := fun k hk => k2 k (by omega)
    have kb : ∀ k, 40 ≤ k → stS σ1 1 0 (D 10 0 + 1) k = σ k := fun k hk => by
      funext j
      rw [stS_ne (by omega), k1 k (by omega) (by omega) (by omega), stS_ne (by omega), stS_ne (by omega), stS_ne (by omega)]
    refine hQ σ2 ⟨?_, rPl_k hp (fun k a b => kk k (by omega) (by omega)), h2 hs (rH_k hH (kb 53 (by omega)) (fun k hk => kb k (by omega)))⟩ (fun k a b => kk k (by omega) (by omega))
    · have eL : ∀ k, k < 12 → k ≠ 9 → k ≠ 10 → k ≠ 1 → σ2 k = stS (stS (stS σ 2 (nvN D) x3) 3 (nvN D) x4) 4 (nvN D) x5 k := fun k a b c d => by
        rw [low k (by omega)]; funext j; rw [stS_ne d, k1 k b c (by omega)]
      have e1 : ∀ j, σ2 1 j = stS σ 1 0 (D 10 0 + 1) 1 j := fun j => by
        rw [low 1 (by omega)]
        by_cases c : j = 0
        · subst c; rw [stS_eq, stS_eq]
        · rw [stS_ni c, stS_ni c, k1 1 (by omega) (by omega) (by omega)]; simp [stS]
      have eD : ∀ a b, ds (dAddV D x1 x2 x3 x4 x5) a b = ds (stS (stS D 1 (24 + nvN D) x1) 2 (24 + nvN D) x2) a b := fun a b => by unfold ds; simp [dAddV, stS]
      refine ⟨⟨?_, ?_, ?_⟩, fun v hv => ?_, fun r hr => ?_, fun s hs => ?_, fun a ha => ?_, fun a ha b hb => ?_⟩
      · rw [e1]; simp [stS, dAddV]
      · rw [e1]; simp [stS, dAddV]; exact P1.2.1
      · rw [e1]; simp [stS, dAddV]; exact P1.2.2
      · rw [eL 2 (by omega) (by omega) (by omega) (by omega), eL 3 (by omega) (by omega) (by omega) (by omega), eL 4 (by omega) (by omega) (by omega) (by omega)]
        have := P2 v hv
        by_cases e : v = nvN D
        · subst e; simp [stS, dAddV]
        · simp [stS, dAddV, e]; exact this
      · rw [eL 5 (by omega) (by omega) (by omega) (by omega), eL 6 (by omega) (by omega) (by omega) (by omega)]
        have := P3 r hr
        simp [stS, dAddV]; exact this
      · rw [eL 7 (by omega) (by omega) (by omega) (by omega), eL 8 (by omega) (by omega) (by omega) (by omega)]
        have := P4 s hs
        simp [stS, dAddV]; exact this
      · have := hx1.1 a ha
        rw [low 9 (by omega), low 10 (by omega), stS_ne (by omega), stS_ne (by omega), this.1, this.2.1]
        simp [stS, dAddV]
      · rw [low (12 + a) (by omega), stS_ne (by omega), hx1.2 a ha b hb, eD]
  · rw [if_neg c] at hQ; exact hQ σ hI frC_r
theorem c_addR {S : ST} (hV : Val S) {σ : Sto} (hI : InvC σ S) {x1 x2 x3 x4 x5 x6 : Int} {Q : Int → Sto → Prop} (hQ : ∀ σ', InvC σ' (f_addR S x1 x2 x3 x4 x5 x6).2 → frC σ σ' → Q (f_addR S x1 x2 x3 x4 x5 x6).1 σ') : CLi l G mX7_addRequest [vR 0, vI x1, vI x2, vI x3, vI x4, vI x5, vI x6] σ Q := by
  obtain ⟨D, p, hs⟩ := S
  obtain ⟨hP, hp, hH⟩ := id hI
  obtain ⟨hD, hw, hf, -, -⟩ := id hV
  have hP : rP D σ := hP
  have hp : rPl σ 74 p := hp
  have hD : DOK D := hD
  have nb := nv_b hD
  unfold f_addR at hQ
  have bad : ¬ (inP x1 x2 ∧ inP x3 x4 ∧ inL x5 ∧ inM x6) → Q (-1002) σ := fun q => by rw [if_f q] at hQ; exact hQ σ hI frC_r
  refine clX7_addRequest l G σ Q x1 x2 x3 x4 x5 x6 (sp_isPlace (fun q1 => ⟨fun e => absurd e (by decide), fun _ => sp_isPlace (fun q2 => ⟨fun e => absurd e (by decide), fun _ => sp_isLoad (fun q3 => ⟨fun e => absurd e (by decide), fun _ => sp_isLimit (fun q4 => ⟨fun e => absurd e (by decide), fun _ => ?_⟩) (fun q => ⟨fun _ => bad (fun z => q z.2.2.2), fun e => absurd rfl e⟩)⟩) (fun q => ⟨fun _ => bad (fun z => q z.2.2.1), fun e => absurd rfl e⟩)⟩) (fun q => ⟨fun _ => bad (fun z => q z.2.1), fun e => absurd rfl e⟩)⟩) (fun q => ⟨fun _ => bad (fun z => q z.1), fun e => absurd rfl e⟩))
  rw [if_t ⟨q1, q2, q3, q4⟩] at hQ
  have e0 : σ 1 1 = D 10 1 := hP.1.2.1
  have en : (D 10 1).toNat = nrN D := rfl
  rw [e0, en]
  have hQ : ∀ σ', InvC σ' (if D 10 1 < 12 then (D 10 1, (dAddR D x1 x2 x3 x4 x5 x6, p, ([] : List PL))) else (-1006, (D, p, hs))).2 → frC σ σ' → Q (if D 10 1 < 12 then (D 10 1, (dAddR D x1 x2 x3 x4 x5 x6, p, ([] : List PL))) else (-1006, (D, p, hs))).1 σ' := hQ
  refine ⟨fun c => ?_, fun c => ?_⟩
  · rw [if_pos c] at hQ
    obtain ⟨P1, P2, P3, P4, P5, P6⟩ := id hP
    obtain ⟨b1, b2⟩ := id q3
    have hr12 : nrN D < 12 := by omega
    refine sp_kLoad hr12 (by omega) (by omega) ⟨by omega, by omega, ?_⟩
    have hxy : rXY D (stS (stS (stS σ 6 (2 * nrN D) x5) 6 (2 * nrN D + 1) (-x5)) 5 (nrN D) x6) := ⟨fun a ha => by have := hD.2.1 a ha; have := P5 a ha; simp [stS]; omega, fun a ha b hb => by rw [stS_ne (by omega), stS_ne (by omega), stS_ne (by omega)]; exact P6 a ha b hb⟩
    refine sp_kPlace hxy (i := 2 * nrN D) (by omega) (by omega) q1 (fun σ1 k1 hx1 => ⟨by omega, sp_kPlace hx1 (i := 2 * nrN D + 1) (by omega) (by omega) q2 (fun σ2 k2 hx2 => sp_kWin (s := 2 * nrN D) (by omega) (by omega) (sp_kWin (s := 2 * nrN D + 1) (by omega) (by omega) ⟨by omega, sp_forget (fun σ3 k3 h3 => ?_)⟩))⟩)
    generalize hs0 : stS (stS (stS σ 6 (2 * nrN D) x5) 6 (2 * nrN D + 1) (-x5)) 5 (nrN D) x6 = σ0 at *
    have k0 : ∀ k, k ≠ 5 → k ≠ 6 → σ0 k = σ k := fun k a b => by rw [← hs0]; funext j; rw [stS_ne a, stS_ne b, stS_ne b]
    have kb : ∀ k, 40 ≤ k → stS (stS (stS (stS (stS σ2 7 (2 * nrN D) 0) 8 (2 * nrN D) 5000) 7 (2 * nrN D + 1) 0) 8 (2 * nrN D + 1) 5000) 1 1 (D 10 1 + 1) k = σ k := fun k hk => by
      funext j
      rw [stS_ne (by omega), stS_ne (by omega), stS_ne (by omega), stS_ne (by omega), stS_ne (by omega), k2 k (by omega) (by omega) (by omega), k1 k (by omega) (by omega) (by omega), k0 k (by omega) (by omega)]
    generalize hs4 : stS (stS (stS (stS (stS σ2 7 (2 * nrN D) 0) 8 (2 * nrN D) 5000) 7 (2 * nrN D + 1) 0) 8 (2 * nrN D + 1) 5000) 1 1 (D 10 1 + 1) = σ4 at *
    have kk : ∀ k, 40 ≤ k → k ≠ 53 → σ3 k = σ k := fun k hk h53 => (k3 k h53).trans (kb k hk)
    refine hQ σ3 ⟨?_, rPl_k hp (fun k a b => kk k (by omega) (by omega)), h3 hs (rH_k hH (kb 53 (by omega)) (fun k hk => kb k (by omega)))⟩ (fun k a b => kk k (by omega) (by omega))
    have low : ∀ k, k < 40 → σ3 k = σ4 k := fun k hk => k3 k (by omega)
    have eL : ∀ k, k < 12 → k ≠ 9 → k ≠ 10 → σ2 k = σ0 k := fun k a b c => (k2 k b c (by omega)).trans (k1 k b c (by omega))
    have eL2 : ∀ k, k < 40 → k ≠ 1 → k ≠ 7 → k ≠ 8 → σ3 k = σ2 k := fun k a b c d => by
      rw [low k a, ← hs4]; funext j; rw [stS_ne b, stS_ne d, stS_ne c, stS_ne d, stS_ne c]
    have eD : ∀ a b, ds (dAddR D x1 x2 x3 x4 x5 x6) a b = ds (stS (stS (stS (stS D 1 (2 * nrN D) x1) 2 (2 * nrN D) x2) 1 (2 * nrN D + 1) x3) 2 (2 * nrN D + 1) x4) a b := fun a b => by unfold ds; simp [dAddR, stS]
    have n1 : ¬ 2 * nrN D = 2 * nrN D + 1 := by omega
    refine ⟨⟨?_, ?_, ?_⟩, fun v hv => ?_, fun r hr => ?_, fun s hs => ?_, fun a ha => ?_, fun a ha b hb => ?_⟩
    · rw [low 1 (by omega), ← hs4]; simp [stS]; rw [eL 1 (by omega) (by omega) (by omega), k0 1 (by omega) (by omega), P1.1]; simp [dAddR, stS]
    · rw [low 1 (by omega), ← hs4]; simp [stS, dAddR]
    · rw [low 1 (by omega), ← hs4]; simp [stS]; rw [eL 1 (by omega) (by omega) (by omega), k0 1 (by omega) (by omega), P1.2.2]; simp [dAddR, stS]
    · rw [eL2 2 (by omega) (by omega) (by omega) (by omega), eL2 3 (by omega) (by omega) (by omega) (by omega), eL2 4 (by omega) (by omega) (by omega) (by omega), eL 2 (by omega) (by omega) (by omega), eL 3 (by omega) (by omega) (by omega), eL 4 (by omega) (by omega) (by omega), k0 2 (by omega) (by omega), k0 3 (by omega) (by omega), k0 4 (by omega) (by omega)]
      have := P2 v hv
      simp [stS, dAddR]; exact this
    · rw [eL2 5 (by omega) (by omega) (by omega) (by omega), eL2 6 (by omega) (by omega) (by omega) (by omega), eL 5 (by omega) (by omega) (by omega), eL 6 (by omega) (by omega) (by omega), ← hs0]
      have := P3 r hr
      by_cases e : r = nrN D
      · subst e; simp [stS, dAddR, n1]
      · have m1 : ¬ 2 * r = 2 * nrN D + 1 := by omega
        have m2 : ¬ 2 * r = 2 * nrN D := by omega
        have m3 : ¬ 2 * r + 1 = 2 * nrN D := by omega
        simp [stS, dAddR, e, m1, m2, m3]; exact this
    · rw [low 7 (by omega), low 8 (by omega), ← hs4]
      have := P4 s hs
      have g7 : σ2 7 s = σ 7 s := by rw [eL 7 (by omega) (by omega) (by omega), k0 7 (by omega) (by omega)]
      have g8 : σ2 8 s = σ 8 s := by rw [eL 8 (by omega) (by omega) (by omega), k0 8 (by omega) (by omega)]
      by_cases e : s = 2 * nrN D
      · subst e; simp [stS, dAddR, n1]
      · by_cases e2 : s = 2 * nrN D + 1
        · subst e2; simp [stS, dAddR]
        · simp [stS, dAddR, e, e2, g7, g8]; exact this
    · have := hx2.1 a ha
      rw [eL2 9 (by omega) (by omega) (by omega) (by omega), eL2 10 (by omega) (by omega) (by omega) (by omega), this.1, this.2.1]
      simp [stS, dAddR]
    · rw [eL2 (12 + a) (by omega) (by omega) (by omega) (by omega), hx2.2 a ha b hb, eD]
  · rw [if_neg c] at hQ; exact hQ σ hI frC_r
end CLASSB
