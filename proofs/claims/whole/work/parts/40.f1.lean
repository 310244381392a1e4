/- the reference's small questions -/
theorem mz_YbadSlope (post : Int32 → Prop) (v : SY) (x : Int32) (hT : 0 ≤ x.toInt ∧ x.toInt ≤ 728 → post 0) (hF : ¬ (0 ≤ x.toInt ∧ x.toInt ≤ 728) → post 1) : wpY_badSlope post v x := by
  have a := mz_lc x 0 0 (by decide)
  have b := mz_lc x 728 728 (by decide)
  by_cases h : x.toInt < 0
  · exact br_t (a.1.mpr h) (hF (by omega))
  · refine br_f (fun z => h (a.1.mp z)) ?_
    by_cases h' : x.toInt ≤ 728
    · exact br_t (b.2.2.1.mpr h') (hT (by omega))
    · exact br_f (fun z => h' (b.2.2.1.mp z)) (hF (by omega))
theorem mz_Yfar (post : Int32 → Prop) (v : SY) (x : Int32) (hT : -400 ≤ x.toInt ∧ x.toInt ≤ 400 → post 0) (hF : ¬ (-400 ≤ x.toInt ∧ x.toInt ≤ 400) → post 1) : wpY_far post v x := by
  have a := mz_lc x (-400) (-400) (by decide)
  have b := mz_lc x 400 400 (by decide)
  by_cases h : x.toInt < -400
  · exact br_t (a.1.mpr h) (hF (by omega))
  · refine br_f (fun z => h (a.1.mp z)) ?_
    by_cases h' : x.toInt ≤ 400
    · exact br_t (b.2.2.1.mpr h') (hT (by omega))
    · exact br_f (fun z => h' (b.2.2.1.mp z)) (hF (by omega))
theorem mz_Ybad (post : Int32 → Prop) {N : Nat} (hN : N ≤ 7) (mn px py pz un an : Int32) (bt bb : Int64) (sl lm a b c d : Nat → Int32) (x : Int32) (hT : 0 ≤ x.toInt ∧ x.toInt < N → post 0) (hF : ¬ (0 ≤ x.toInt ∧ x.toInt < N) → post 1) : wpY_bad post (nI N, mn, px, py, pz, un, an, bt, bb, sl, lm, a, b, c, d) x := by
  have i0 := mz_lc x 0 0 (by decide)
  have i1 := mz_lc x (nI N) N (nI_toInt (by omega))
  have i2 := mz_lc x 6 6 (by decide)
  by_cases h : x.toInt < 0
  · exact br_t (i0.1.mpr h) (hF (by omega))
  · refine br_f (fun z => h (i0.1.mp z)) ?_
    by_cases h' : (N : Int) ≤ x.toInt
    · exact br_t (i1.2.2.2.mpr h') (hF (by omega))
    · refine br_f (fun z => h' (i1.2.2.2.mp z)) ?_
      exact br_t (i2.2.2.1.mpr (by omega)) (hT (by omega))
/- emptiness -/
theorem mz_Xempty (post : Int32 → SX → Prop) {N : Nat} {F L sl lm : Nat → Int32} (hr : mz_rel N F L sl lm) (co : Int32) (T B : Nat → Int32)
    (hp : ∀ u, mz_sx N F L u → post (nI (mz_zi (∀ t, ¬ mz_C (mz_U sl lm N (-1)) t))) u) : wpX_empty post (nI N, co, F, L, T, B) := by
  unfold wpX_empty
  dsimp only
  refine mz_Xfind _ hr.1 co F L T B (-1) (mz_relR hr) fun n T' B' hn hF => ?_
  rw [mz_U1 hr] at hF
  have h := hp _ (mz_sxI (nI n) T' B')
  by_cases z : n = 0
  · rw [mz_ziT ((mz_Fe hF).mp z)] at h
    subst z
    exact br_t rfl h
  · rw [mz_ziF (fun y => z ((mz_Fe hF).mpr y))] at h
    exact br_f (nI_ne0 (by omega) (by omega)) h
theorem mz_Yempty (post : Int32 → SY → Prop) {N : Nat} (hN : N ≤ 7) (mn px py pz un an : Int32) (bt bb : Int64) (sl lm a b c d : Nat → Int32) (hR : ∀ p, mz_U sl lm N (-1) p → mz_R 40 p)
    (hp : ∀ v, mz_sy N sl lm v → post (nI (mz_zi (∀ t, ¬ mz_C (mz_U sl lm N (-1)) t))) v) : wpY_empty post (nI N, mn, px, py, pz, un, an, bt, bb, sl, lm, a, b, c, d) := by
  unfold wpY_empty
  dsimp only
  refine mz_Ysearch _ hN (-1) 0 0 0 (0, 0, 0, 0) (D := 0) ⟨by decide, by decide, by decide, by decide⟩ mz_z0.symm mz_z0.symm mz_z0.symm mn px py pz un an bt bb sl lm a b c d hR fun m px py pz un any T B a b c d hG => ?_
  dsimp only
  have h := hp _ (mz_syI (nI m) px py pz un (nI any) (mz_l T) (mz_l B) a b c d)
  rcases mz_Gan hG with e | e
  · rw [mz_ziT ((mz_Ge hG).mp e)] at h
    subst e
    exact br_t rfl h
  · rw [mz_ziF (fun y => by have := (mz_Ge hG).mpr y; omega)] at h
    subst e
    exact br_f (by decide) h
/- a bound that follows -/
theorem mz_Xkeep (post : Int32 → SX → Prop) {N n P : Nat} {C : mz_P → Prop} (hn : n ≤ 286) (hP : P < 14) (F L T B : Nat → Int32) (hR : mz_R 1000 (mz_pl F L P)) (hF : mz_F C (mz_pl T B) n) (hQ : ∀ t, C t → mz_Q t)
    (hp : post (nI (mz_zi (∀ t, C t → mz_kp (mz_pl F L P) t))) (nI N, nI n, F, L, T, B)) :
    wpX_cornersKeep (fun r => ((r = 0 → post 0 (nI N, nI n, F, L, T, B)) ∧ (¬ r = 0 → post 1 (nI N, nI n, F, L, T, B)))) (nI N, nI n, F, L, T, B) (nI P) := by
  have k := mz_Fk hF (fun t => mz_kp (mz_pl F L P) t)
  refine mz_Xck _ hn hP F L T B hR (fun e he => hQ _ (hF.1 e he)) (fun h => ?_) (fun h => ?_)
  · rw [mz_ziT (k.mp h)] at hp
    exact br_f (by decide) hp
  · rw [mz_ziF (fun z => h (k.mpr z))] at hp
    exact br_t rfl hp
theorem mz_lcm2 {T B y : Int} (hT : -46080 ≤ T ∧ T ≤ 46080) (hB : 1 ≤ B ∧ B ≤ 384) (hy : -1000 ≤ y ∧ y ≤ 1000) : (mz_l y * mz_l B < mz_l T ↔ y * B < T) ∧ (mz_l T ≤ mz_l y * mz_l B ↔ T ≤ y * B) := by
  have b := mz_mb 1000 384 hy.1 hy.2 (show -((384 : Nat) : Int) ≤ B by omega) (show B ≤ ((384 : Nat) : Int) by omega)
  rw [mz_lm]
  exact ⟨mz_llt ⟨by omega, by omega⟩ ⟨by omega, by omega⟩, mz_lle ⟨by omega, by omega⟩ ⟨by omega, by omega⟩⟩
theorem mz_Xfol (post : Int32 → SX → Prop) {N s : Nat} {F L sl lm : Nat → Int32} (hr : mz_rel N F L sl lm) (hs : s < 729) (y : Int32) (hy : -1000 ≤ y.toInt ∧ y.toInt ≤ 1000) (co : Int32) (T B : Nat → Int32)
    (hp : ∀ F' L' u, mz_rel N F' L' sl lm → mz_sx N F' L' u → post (nI (mz_zi (∀ t, mz_C (mz_U sl lm N (-1)) t → mz_kp (mz_dc (nI s) y) t))) u) :
    wpX_setPlane (fun u => match u with | (f_count_6, f_corners_7, a_factors_8, a_limits_9, a_cornerTops_10, a_cornerBottoms_11) => (wpX_findCorners (fun u => match u with | (f_count_13, f_corners_14, a_factors_15, a_limits_16, a_cornerTops_17, a_cornerBottoms_18) => (wpX_cornersKeep (fun r_19 => (((r_19 = 0 → (post 0 (f_count_13, f_corners_14, a_factors_15, a_limits_16, a_cornerTops_17, a_cornerBottoms_18))) ∧ (¬ r_19 = 0 → (post 1 (f_count_13, f_corners_14, a_factors_15, a_limits_16, a_cornerTops_17, a_cornerBottoms_18)))))) (f_count_13, f_corners_14, a_factors_15, a_limits_16, a_cornerTops_17, a_cornerBottoms_18) 13)) (f_count_6, f_corners_7, a_factors_8, a_limits_9, a_cornerTops_10, a_cornerBottoms_11) (-1))) (nI N, co, F, L, T, B) 13 (nI s) y := by
  have hN := hr.1
  refine mz_XsetPlane _ 13 (by omega) (nI N) co F L T B (nI s) y ?_
  dsimp only
  have hr' : mz_rel N (upd (upd (upd F (3 * 13) (nI s / 81 - 4)) (3 * 13 + 1) (nI s / 9 - nI s / 9 / 9 * 9 - 4)) (3 * 13 + 2) (nI s - nI s / 9 * 9 - 4)) (upd L 13 y) sl lm := mz_relC hr fun e he => mz_plN (by omega)
  have hpl : mz_pl (upd (upd (upd F (3 * 13) (nI s / 81 - 4)) (3 * 13 + 1) (nI s / 9 - nI s / 9 / 9 * 9 - 4)) (3 * 13 + 2) (nI s - nI s / 9 * 9 - 4)) (upd L 13 y) 13 = mz_dc (nI s) y := mz_plS
  refine mz_Xfind _ hN co _ _ T B (-1) (mz_relR hr') fun n T' B' hn hF => ?_
  rw [mz_U1 hr'] at hF
  dsimp only
  refine mz_Xkeep post (P := 13) hn (by decide) _ _ T' B' ?_ hF (mz_UC (mz_UR hr')).1 ?_
  · rw [hpl]; exact mz_dcR (D := 1000) hs (by omega) (by omega)
  · rw [hpl]; exact hp _ _ _ hr' (mz_sxI _ _ _)
theorem mz_Yfol (post : Int32 → SY → Prop) {N s : Nat} (hN : N ≤ 7) (hs : s < 729) (y : Int32) (hy : -1000 ≤ y.toInt ∧ y.toInt ≤ 1000) (mn px py pz un an : Int32) (bt bb : Int64) (sl lm a b c d : Nat → Int32) (hR : ∀ p, mz_U sl lm N (-1) p → mz_R 40 p)
    (hp : ∀ v, mz_sy N sl lm v → post (nI (mz_zi (∀ t, mz_C (mz_U sl lm N (-1)) t → mz_kp (mz_dc (nI s) y) t))) v) : wpY_follows post (nI N, mn, px, py, pz, un, an, bt, bb, sl, lm, a, b, c, d) (nI s) y := by
  have i0 := mz_lc y (-1000) (-1000) (by decide)
  have i1 := mz_lc y 1000 1000 (by decide)
  have hu := mz_UC hR
  have es := nI_toInt (n := s) (by omega)
  unfold wpY_follows
  dsimp only
  refine mz_YbadSlope _ _ (nI s) (fun _ => ?_) (fun z => absurd ⟨by omega, by omega⟩ z)
  refine br_t rfl (br_f (fun z => by have := i0.1.mp z; omega) (br_t (i1.2.2.1.mpr hy.2) ?_))
  have hs' : mz_R 1000 (mz_dc (nI s) y) := mz_dcR hs (by omega) (by omega)
  refine mz_Ytow _ hN (-1) (nI s) y hs' mn px py pz un an bt bb sl lm a b c d hR fun m px py pz un any T B a b c d hG => ?_
  dsimp only
  have h := hp _ (mz_syI (nI m) px py pz un (nI any) (mz_l T) (mz_l B) a b c d)
  have k : (∀ t, mz_C (mz_U sl lm N (-1)) t → mz_kp (mz_dc (nI s) y) t) ↔ (any = 0 ∨ T ≤ y.toInt * B) := mz_Gk hu.2 hG y.toInt
  rcases mz_Gan hG with e | e
  · subst e
    rw [mz_ziT (k.mpr (Or.inl rfl))] at h
    exact br_t rfl h
  · subst e
    have bd := mz_GB hG (by decide) hs' hu.1 hu.2
    have cmp := (mz_lcm2 bd.1 bd.2 hy).1
    refine br_f (by decide) ?_
    rw [mz_z64]
    by_cases z : y.toInt * B < T
    · rw [mz_ziF (fun q => by have := k.mp q; omega)] at h
      exact br_t (cmp.mpr z) h
    · rw [mz_ziT (k.mpr (Or.inr (by omega)))] at h
      exact br_f (fun q => z (cmp.mp q)) h
/- a bound that can go -/
theorem mz_Xred (post : Int32 → SX → Prop) {N q : Nat} {F L sl lm : Nat → Int32} (hr : mz_rel N F L sl lm) (hq : q < N) (co : Int32) (T B : Nat → Int32)
    (hp : ∀ u, mz_sx N F L u → post (nI (mz_zi (∀ t, mz_C (mz_U sl lm N (nI q)) t → mz_kp (mz_dc (sl q) (lm q)) t))) u) : wpX_redundant post (nI N, co, F, L, T, B) (nI q) := by
  have hN := hr.1
  have es := nI_toInt (n := q) (by omega)
  have e6 : (6 : Int32) + nI q = nI (6 + q) := nI_add 6 q
  unfold wpX_redundant
  dsimp only
  refine mz_XisBound _ hN co F L T B (nI q) (fun _ => ?_) (fun z => absurd ⟨by omega, by omega⟩ z)
  refine br_f (by decide) ?_
  rw [e6]
  refine mz_Xfind _ hN co F L T B (nI (6 + q)) (mz_relR hr) fun n T' B' hn hF => ?_
  rw [mz_U2 hr hq] at hF
  dsimp only
  have hpl := (hr.2.2 q hq).2
  refine mz_Xkeep post hn (by omega) F L T' B' ?_ hF (mz_UC (mz_UR hr)).1 ?_
  · rw [hpl]; exact mz_RD (hr.2.2 q hq).1 (by omega)
  · rw [hpl]; exact hp _ (mz_sxI _ _ _)
theorem mz_Yred (post : Int32 → SY → Prop) {N q : Nat} (hN : N ≤ 7) (hq : q < N) (mn px py pz un an : Int32) (bt bb : Int64) (sl lm a b c d : Nat → Int32) (hs : mz_R 40 (mz_dc (sl q) (lm q))) (hR : ∀ p, mz_U sl lm N (nI q) p → mz_R 40 p)
    (hp : ∀ v, mz_sy N sl lm v → post (nI (mz_zi (∀ t, mz_C (mz_U sl lm N (nI q)) t → mz_kp (mz_dc (sl q) (lm q)) t))) v) : wpY_redundant post (nI N, mn, px, py, pz, un, an, bt, bb, sl, lm, a, b, c, d) (nI q) := by
  have hu := mz_UC hR
  have es := nI_toInt (n := q) (by omega)
  have vq := vp_in_nI (show q < 7 by omega) (show 7 < 2 ^ 31 by omega)
  unfold wpY_redundant
  dsimp only
  refine mz_Ybad _ hN mn px py pz un an bt bb sl lm a b c d (nI q) (fun _ => ?_) (fun z => absurd ⟨by omega, by omega⟩ z)
  refine br_t rfl ⟨vq, ?_⟩
  rw [nI_clamp (show q < 2 ^ 31 by omega)]
  refine mz_Ytow _ hN (nI q) (sl q) (lm q) hs mn px py pz un an bt bb sl lm a b c d hR fun m px py pz un any T B a b c d hG => ?_
  dsimp only
  have h := hp _ (mz_syI (nI m) px py pz un (nI any) (mz_l T) (mz_l B) a b c d)
  have k : (∀ t, mz_C (mz_U sl lm N (nI q)) t → mz_kp (mz_dc (sl q) (lm q)) t) ↔ (any = 0 ∨ T ≤ (lm q).toInt * B) := mz_Gk hu.2 hG (lm q).toInt
  rcases mz_Gan hG with e | e
  · subst e
    rw [mz_ziT (k.mpr (Or.inl rfl))] at h
    exact br_t rfl h
  · subst e
    have bd := mz_GB hG (by decide) hs hu.1 hu.2
    have hl : -40 ≤ (lm q).toInt ∧ (lm q).toInt ≤ 40 := hs.2.2.2
    have cmp := (mz_lcm2 bd.1 bd.2 (show -1000 ≤ (lm q).toInt ∧ (lm q).toInt ≤ 1000 by omega)).1
    refine br_f (by decide) ⟨vq, ?_⟩
    rw [mz_z64]
    by_cases z : (lm q).toInt * B < T
    · rw [mz_ziF (fun q => by have := k.mp q; omega)] at h
      exact br_t (cmp.mpr z) h
    · rw [mz_ziT (k.mpr (Or.inr (by omega)))] at h
      exact br_f (fun q => z (cmp.mp q)) h
