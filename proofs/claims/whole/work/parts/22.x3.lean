/- the small questions -/
theorem mz_lc (x k : Int32) (v : Int) (hv : k.toInt = v) : (x < k ↔ x.toInt < v) ∧ (k < x ↔ v < x.toInt) ∧ (x ≤ k ↔ x.toInt ≤ v) ∧ (k ≤ x ↔ v ≤ x.toInt) := by
  subst hv
  exact ⟨Int32.lt_iff_toInt_lt, Int32.lt_iff_toInt_lt, Int32.le_iff_toInt_le, Int32.le_iff_toInt_le⟩
theorem mz_ofi {x : Int32} (h : 0 ≤ x.toInt) : x = nI x.toInt.toNat := by
  rw [← mz_zn, Int.toNat_of_nonneg h, mz_zt]
theorem mz_ofn {x : Int32} {n : Nat} (h : 0 ≤ x.toInt) (h' : x.toInt < n) : ∃ b : Nat, b < n ∧ x = nI b := ⟨x.toInt.toNat, by omega, mz_ofi h⟩
theorem mz_XisSlope (post : Int32 → Prop) (x : Int32) (hT : 0 ≤ x.toInt ∧ x.toInt ≤ 728 → post 1) (hF : ¬ (0 ≤ x.toInt ∧ x.toInt ≤ 728) → post 0) : wpX_isSlope post x := by
  have a := mz_lc x 0 0 (by decide)
  have b := mz_lc x 728 728 (by decide)
  by_cases h : x.toInt < 0
  · exact br_t (a.1.mpr h) (hF (by omega))
  · refine br_f (fun z => h (a.1.mp z)) ?_
    by_cases h' : 728 < x.toInt
    · exact br_t (b.2.1.mpr h') (hF (by omega))
    · exact br_f (fun z => h' (b.2.1.mp z)) (hT (by omega))
theorem mz_XisAxis (post : Int32 → Prop) (x : Int32) (hT : 0 ≤ x.toInt ∧ x.toInt < 3 → post 1) (hF : ¬ (0 ≤ x.toInt ∧ x.toInt < 3) → post 0) : wpX_isAxis post x := by
  have a := mz_lc x 0 0 (by decide)
  have b := mz_lc x 3 3 (by decide)
  by_cases h : x.toInt < 0
  · exact br_t (a.1.mpr h) (hF (by omega))
  · refine br_f (fun z => h (a.1.mp z)) ?_
    by_cases h' : 3 ≤ x.toInt
    · exact br_t (b.2.2.2.mpr h') (hF (by omega))
    · exact br_f (fun z => h' (b.2.2.2.mp z)) (hT (by omega))
theorem mz_XisScale (post : Int32 → Prop) (x : Int32) (hT : 1 ≤ x.toInt ∧ x.toInt ≤ 20 → post 1) (hF : ¬ (1 ≤ x.toInt ∧ x.toInt ≤ 20) → post 0) : wpX_isScale post x := by
  have a := mz_lc x 1 1 (by decide)
  have b := mz_lc x 20 20 (by decide)
  by_cases h : x.toInt < 1
  · exact br_t (a.1.mpr h) (hF (by omega))
  · refine br_f (fun z => h (a.1.mp z)) ?_
    by_cases h' : 20 < x.toInt
    · exact br_t (b.2.1.mpr h') (hF (by omega))
    · exact br_f (fun z => h' (b.2.1.mp z)) (hT (by omega))
theorem mz_XisWithin (post : Int32 → Prop) (x m : Int32) (v : Int) (h1 : m.toInt = v) (h2 : (-m).toInt = -v) (hT : -v ≤ x.toInt ∧ x.toInt ≤ v → post 1) (hF : ¬ (-v ≤ x.toInt ∧ x.toInt ≤ v) → post 0) : wpX_isWithin post x m := by
  have a := mz_lc x (-m) (-v) h2
  have b := mz_lc x m v h1
  by_cases h : x.toInt < -v
  · exact br_t (a.1.mpr h) (hF (by omega))
  · refine br_f (fun z => h (a.1.mp z)) ?_
    by_cases h' : v < x.toInt
    · exact br_t (b.2.1.mpr h') (hF (by omega))
    · exact br_f (fun z => h' (b.2.1.mp z)) (hT (by omega))
theorem mz_XisBound (post : Int32 → Prop) {c : Nat} (hc : c ≤ 7) (co : Int32) (F L T B : Nat → Int32) (x : Int32) (hT : 0 ≤ x.toInt ∧ x.toInt < c → post 1) (hF : ¬ (0 ≤ x.toInt ∧ x.toInt < c) → post 0) : wpX_isBound post (nI c, co, F, L, T, B) x := by
  have a := mz_lc x 0 0 (by decide)
  have b := mz_lc x (nI c) c (nI_toInt (by omega))
  by_cases h : x.toInt < 0
  · exact br_t (a.1.mpr h) (hF (by omega))
  · refine br_f (fun z => h (a.1.mp z)) ?_
    by_cases h' : (c : Int) ≤ x.toInt
    · exact br_t (b.2.2.2.mpr h') (hF (by omega))
    · exact br_f (fun z => h' (b.2.2.2.mp z)) (hT (by omega))
/- the reach -/
theorem mz_z64 (x : Int32) : x.toInt64 = mz_l x.toInt := by
  rw [← Int32.toInt_toInt64, mz_lt']
theorem mz_zd64 {a b : Int} (ha : mz_B a) (hb : mz_B b) (h1 : b ≠ -1) : (mz_z a / mz_z b).toInt64 = mz_l (a.tdiv b) := by
  have hb' : mz_z b ≠ -1 := by
    intro e
    have := congrArg Int32.toInt e
    rw [mz_ti hb] at this
    exact h1 (this.trans (by decide))
  have e := Int32.toInt_div_of_ne_right (mz_z a) (mz_z b) hb'
  rw [mz_ti ha, mz_ti hb] at e
  rw [mz_z64, e]
theorem mz_gz {a b : Int} (hb : 1 ≤ b ∧ b ≤ 384) : ¬ mz_z (mz_g a b) = 0 := by
  have h := mz_g1 (a := a) hb
  rw [← mz_z0, mz_zeq ⟨by omega, by omega⟩ ⟨by omega, by omega⟩]
  omega
theorem mz_Xrt (post : Int32 → SX → Prop) {c ax : Nat} {sg : Int} (hs : sg = 1 ∨ sg = -1) (p1 : Int32) (ep : p1 = mz_z sg) (hx : ax < 3) (hc : c ≤ 7) (co : Int32) (F L T B : Nat → Int32) (hR : ∀ e, e < 6 + c → mz_R 40 (mz_pl F L e))
    (hE : (∀ t, ¬ mz_C (mz_S (mz_pl F L) (mz_gd (6 + c) (-1))) t) → ∀ n T B, post (-2000000) (nI c, nI n, F, L, T, B))
    (hp : ∀ x a b, x.toInt64 = mz_l a → mz_Rc (mz_C (mz_S (mz_pl F L) (mz_gd (6 + c) (-1)))) ax sg a b → ∀ n T B, post x (nI c, nI n, F, L, T, B)) :
    wpX_reachTop post (nI c, co, F, L, T, B) (nI ax) p1 := by
  subst ep
  unfold wpX_reachTop
  dsimp only
  refine mz_XisAxis _ _ (fun _ => ?_) (fun h => absurd ⟨by rw [nI_toInt (by omega)]; omega, by rw [nI_toInt (by omega)]; omega⟩ h)
  refine br_f (by decide) ?_
  refine mz_Xfind _ hc co F L T B (-1) hR fun n T' B' hn hF => ?_
  have hQ : ∀ e, e < n → mz_Q (mz_pl T' B' e) := fun e he => mz_CQ (fun p ⟨q, hq, hqp⟩ => hqp ▸ hR q hq.1) (hF.1 e he)
  have hu : ∀ e, e < n → 1 ≤ (mz_pl T' B' e).2.2.2 := fun e he => mz_Cun (hF.1 e he)
  by_cases z : n = 0
  · subst z
    exact br_t rfl (hE ((mz_Fe hF).mp rfl) 0 T' B')
  · refine br_f (nI_ne0 (by omega) (by omega)) ?_
    refine mz_Xfar _ hs hx (by omega) hn F L T' B' hQ hu fun b hb hI => ?_
    have q := hQ b hb
    have u := hu b hb
    have e1 : T' (3 * b + ax) = mz_z (mz_co ax (mz_pl T' B' b)) := by rw [mz_plc T' B' b ax hx, mz_zt]
    have e2 : B' b = mz_z (mz_pl T' B' b).2.2.2 := (mz_zt (B' b)).symm
    refine ⟨mz_iv b ax (by omega) (by omega), nm_e ⟨vp_in_nI (by omega) (by omega), ?_⟩⟩
    dsimp only
    rw [mz_ic b ax (by omega), nI_clamp (show b < 2 ^ 31 by omega), e1, e2]
    have cb := mz_coQ q ax
    have qb := q.2.2.2
    have g := mz_g1 (a := mz_co ax (mz_pl T' B' b)) (b := (mz_pl T' B' b).2.2.2) ⟨u, qb.2⟩
    refine mz_Xgcd _ cb ⟨u, qb.2⟩ ⟨mz_gz ⟨u, qb.2⟩, ?_⟩
    exact hp _ _ _ (mz_zd64 ⟨by omega, by omega⟩ ⟨by omega, by omega⟩ (by omega)) (mz_FIe hI hF hb) n T' B'
theorem mz_Xrb (post : Int32 → SX → Prop) {c ax : Nat} {sg : Int} (hs : sg = 1 ∨ sg = -1) (p1 : Int32) (ep : p1 = mz_z sg) (hx : ax < 3) (hc : c ≤ 7) (co : Int32) (F L T B : Nat → Int32) (hR : ∀ e, e < 6 + c → mz_R 40 (mz_pl F L e))
    (hE : (∀ t, ¬ mz_C (mz_S (mz_pl F L) (mz_gd (6 + c) (-1))) t) → ∀ n T B, post 0 (nI c, nI n, F, L, T, B))
    (hp : ∀ x a b, x.toInt64 = mz_l b → mz_Rc (mz_C (mz_S (mz_pl F L) (mz_gd (6 + c) (-1)))) ax sg a b → ∀ n T B, post x (nI c, nI n, F, L, T, B)) :
    wpX_reachBottom post (nI c, co, F, L, T, B) (nI ax) p1 := by
  subst ep
  unfold wpX_reachBottom
  dsimp only
  refine mz_XisAxis _ _ (fun _ => ?_) (fun h => absurd ⟨by rw [nI_toInt (by omega)]; omega, by rw [nI_toInt (by omega)]; omega⟩ h)
  refine br_f (by decide) ?_
  refine mz_Xfind _ hc co F L T B (-1) hR fun n T' B' hn hF => ?_
  have hQ : ∀ e, e < n → mz_Q (mz_pl T' B' e) := fun e he => mz_CQ (fun p ⟨q, hq, hqp⟩ => hqp ▸ hR q hq.1) (hF.1 e he)
  have hu : ∀ e, e < n → 1 ≤ (mz_pl T' B' e).2.2.2 := fun e he => mz_Cun (hF.1 e he)
  by_cases z : n = 0
  · subst z
    exact br_t rfl (hE ((mz_Fe hF).mp rfl) 0 T' B')
  · refine br_f (nI_ne0 (by omega) (by omega)) ?_
    refine mz_Xfar _ hs hx (by omega) hn F L T' B' hQ hu fun b hb hI => ?_
    have q := hQ b hb
    have u := hu b hb
    have e1 : T' (3 * b + ax) = mz_z (mz_co ax (mz_pl T' B' b)) := by rw [mz_plc T' B' b ax hx, mz_zt]
    have e2 : B' b = mz_z (mz_pl T' B' b).2.2.2 := (mz_zt (B' b)).symm
    refine ⟨vp_in_nI (by omega) (by omega), nm_e ⟨mz_iv b ax (by omega) (by omega), ?_⟩⟩
    dsimp only
    rw [mz_ic b ax (by omega), nI_clamp (show b < 2 ^ 31 by omega), e1, e2]
    have cb := mz_coQ q ax
    have qb := q.2.2.2
    have g := mz_g1 (a := mz_co ax (mz_pl T' B' b)) (b := (mz_pl T' B' b).2.2.2) ⟨u, qb.2⟩
    refine mz_Xgcd _ cb ⟨u, qb.2⟩ ⟨mz_gz ⟨u, qb.2⟩, ?_⟩
    exact hp _ _ _ (mz_zd64 ⟨by omega, by omega⟩ ⟨by omega, by omega⟩ (by omega)) (mz_FIe hI hF hb) n T' B'
