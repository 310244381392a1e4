theorem i_vc_bounds {k : Nat} {u : SX} {v : SY} (I : i_Rel k u v) (hk : k + 5 ≤ 2560) : wpX_bounds (fun r => wpY_bounds (fun r' => r' = r ∧ i_Rel (k + 5) u v) v) u := by
  obtain ⟨N, F, L, sl, lm, hr, ⟨co, T, B, rfl⟩, ⟨mn, px, py, pz, un, an, bt, bb, a, b, c, d, rfl⟩⟩ := I
  have hN := hr.1
  have hR := mz_UR (w := -1) hr
  exact ⟨rfl, mz_fin hr (mz_sxI _ _ _) (mz_syI _ _ _ _ _ _ _ _ _ _ _ _)⟩
theorem i_vc_empty {k : Nat} {u : SX} {v : SY} (I : i_Rel k u v) (hk : k + 5 ≤ 2560) : wpX_empty (fun r u' => wpY_empty (fun r' v' => r' = r ∧ i_Rel (k + 5) u' v') v) u := by
  obtain ⟨N, F, L, sl, lm, hr, ⟨co, T, B, rfl⟩, ⟨mn, px, py, pz, un, an, bt, bb, a, b, c, d, rfl⟩⟩ := I
  have hN := hr.1
  have hR := mz_UR (w := -1) hr
  exact mz_Xempty _ hr co T B fun u hu => mz_Yempty _ hN mn px py pz un an bt bb sl lm a b c d hR fun v hv => ⟨rfl, mz_fin hr hu hv⟩
theorem i_vc_mostTop {k : Nat} {u : SX} {v : SY} (I : i_Rel k u v) (hk : k + 5 ≤ 2560) (v1 : Int32) : wpX_mostTop (fun r u' => wpY_mostTop (fun r' v' => r' = r ∧ i_Rel (k + 5) u' v') v v1) u v1 := by
  obtain ⟨N, F, L, sl, lm, hr, ⟨co, T, B, rfl⟩, ⟨mn, px, py, pz, un, an, bt, bb, a, b, c, d, rfl⟩⟩ := I
  have hN := hr.1
  have hR := mz_UR (w := -1) hr
  have hu := mz_UC hR
  have i0 := mz_lc v1 0 0 (by decide)
  have i1 := mz_lc v1 2 2 (by decide)
  unfold wpX_mostTop
  dsimp only
  by_cases h1 : 0 ≤ v1.toInt ∧ v1.toInt < 3
  · obtain ⟨ax, hx, rfl⟩ := mz_ofn (n := 3) h1.1 h1.2
    refine mz_Xrt _ (sg := 1) (Or.inl rfl) 1 mz_z1.symm hx hN co F L T B (mz_relR hr) (fun hE n T' B' => ?_) (fun x ra rb ex hrc n T' B' => ?_)
    · rw [mz_U1 hr] at hE
      dsimp only
      unfold wpY_mostTop
      dsimp only
      refine mz_YextT _ hN hx (sg := 1) (Or.inl rfl) 1 mz_z1.symm mn px py pz un an bt bb sl lm a b c d hR (fun _ v hv => ?_) (fun a' b' hrc' v hv => ?_)
      · obtain ⟨mn, px, py, pz, un, an, bt, bb, a, b, c, d, rfl⟩ := hv
        exact ⟨by decide, mz_fin hr (mz_sxI _ _ _) (mz_syI _ _ _ _ _ _ _ _ _ _ _ _)⟩
      · obtain ⟨t, ht, _⟩ := hrc'
        exact absurd ht (hE t)
    · rw [mz_U1 hr] at hrc
      dsimp only
      unfold wpY_mostTop
      dsimp only
      refine mz_YextT _ hN hx (sg := 1) (Or.inl rfl) 1 mz_z1.symm mn px py pz un an bt bb sl lm a b c d hR (fun hE v hv => ?_) (fun a' b' hrc' v hv => ?_)
      · obtain ⟨t, ht, _⟩ := hrc
        exact absurd ht (hE t)
      · obtain ⟨mn, px, py, pz, un, an, bt, bb, a, b, c, d, rfl⟩ := hv
        have e := mz_Rc1 (Or.inl rfl) hu.2 hrc hrc'
        exact ⟨by rw [ex, e.1], mz_fin hr (mz_sxI _ _ _) (mz_syI _ _ _ _ _ _ _ _ _ _ _ _)⟩
  · unfold wpX_reachTop
    dsimp only
    refine mz_XisAxis _ v1 (fun q => absurd q h1) (fun _ => br_t rfl ?_)
    unfold wpY_mostTop
    dsimp only
    by_cases w : v1.toInt < 0
    · exact br_t (i0.1.mpr w) (br_f (by decide) ⟨by decide, mz_fin hr (mz_sxI _ _ _) (mz_syI _ _ _ _ _ _ _ _ _ _ _ _)⟩)
    · exact br_f (fun q => w (i0.1.mp q)) (br_f (fun q => h1 ⟨by omega, by have := i1.2.2.1.mp q; omega⟩) (br_f (by decide) ⟨by decide, mz_fin hr (mz_sxI _ _ _) (mz_syI _ _ _ _ _ _ _ _ _ _ _ _)⟩))
theorem i_vc_mostBottom {k : Nat} {u : SX} {v : SY} (I : i_Rel k u v) (hk : k + 5 ≤ 2560) (v1 : Int32) : wpX_mostBottom (fun r u' => wpY_mostBottom (fun r' v' => r' = r ∧ i_Rel (k + 5) u' v') v v1) u v1 := by
  obtain ⟨N, F, L, sl, lm, hr, ⟨co, T, B, rfl⟩, ⟨mn, px, py, pz, un, an, bt, bb, a, b, c, d, rfl⟩⟩ := I
  have hN := hr.1
  have hR := mz_UR (w := -1) hr
  have hu := mz_UC hR
  have i0 := mz_lc v1 0 0 (by decide)
  have i1 := mz_lc v1 2 2 (by decide)
  unfold wpX_mostBottom
  dsimp only
  by_cases h1 : 0 ≤ v1.toInt ∧ v1.toInt < 3
  · obtain ⟨ax, hx, rfl⟩ := mz_ofn (n := 3) h1.1 h1.2
    refine mz_Xrb _ (sg := 1) (Or.inl rfl) 1 mz_z1.symm hx hN co F L T B (mz_relR hr) (fun hE n T' B' => ?_) (fun x ra rb ex hrc n T' B' => ?_)
    · rw [mz_U1 hr] at hE
      dsimp only
      unfold wpY_mostBottom
      dsimp only
      refine mz_YextB _ hN hx (sg := 1) (Or.inl rfl) 1 mz_z1.symm mn px py pz un an bt bb sl lm a b c d hR (fun _ v hv => ?_) (fun a' b' hrc' v hv => ?_)
      · obtain ⟨mn, px, py, pz, un, an, bt, bb, a, b, c, d, rfl⟩ := hv
        exact ⟨by decide, mz_fin hr (mz_sxI _ _ _) (mz_syI _ _ _ _ _ _ _ _ _ _ _ _)⟩
      · obtain ⟨t, ht, _⟩ := hrc'
        exact absurd ht (hE t)
    · rw [mz_U1 hr] at hrc
      dsimp only
      unfold wpY_mostBottom
      dsimp only
      refine mz_YextB _ hN hx (sg := 1) (Or.inl rfl) 1 mz_z1.symm mn px py pz un an bt bb sl lm a b c d hR (fun hE v hv => ?_) (fun a' b' hrc' v hv => ?_)
      · obtain ⟨t, ht, _⟩ := hrc
        exact absurd ht (hE t)
      · obtain ⟨mn, px, py, pz, un, an, bt, bb, a, b, c, d, rfl⟩ := hv
        have e := mz_Rc1 (Or.inl rfl) hu.2 hrc hrc'
        exact ⟨by rw [ex, e.2], mz_fin hr (mz_sxI _ _ _) (mz_syI _ _ _ _ _ _ _ _ _ _ _ _)⟩
  · unfold wpX_reachBottom
    dsimp only
    refine mz_XisAxis _ v1 (fun q => absurd q h1) (fun _ => br_t rfl ?_)
    unfold wpY_mostBottom
    dsimp only
    by_cases w : v1.toInt < 0
    · exact br_t (i0.1.mpr w) (br_t rfl ⟨by decide, mz_fin hr (mz_sxI _ _ _) (mz_syI _ _ _ _ _ _ _ _ _ _ _ _)⟩)
    · exact br_f (fun q => w (i0.1.mp q)) (br_f (fun q => h1 ⟨by omega, by have := i1.2.2.1.mp q; omega⟩) (br_t rfl ⟨by decide, mz_fin hr (mz_sxI _ _ _) (mz_syI _ _ _ _ _ _ _ _ _ _ _ _)⟩))
theorem i_vc_leastTop {k : Nat} {u : SX} {v : SY} (I : i_Rel k u v) (hk : k + 5 ≤ 2560) (v1 : Int32) : wpX_leastTop (fun r u' => wpY_leastTop (fun r' v' => r' = r ∧ i_Rel (k + 5) u' v') v v1) u v1 := by
  obtain ⟨N, F, L, sl, lm, hr, ⟨co, T, B, rfl⟩, ⟨mn, px, py, pz, un, an, bt, bb, a, b, c, d, rfl⟩⟩ := I
  have hN := hr.1
  have hR := mz_UR (w := -1) hr
  have hu := mz_UC hR
  have i0 := mz_lc v1 0 0 (by decide)
  have i1 := mz_lc v1 2 2 (by decide)
  unfold wpX_leastTop
  dsimp only
  by_cases h1 : 0 ≤ v1.toInt ∧ v1.toInt < 3
  · obtain ⟨ax, hx, rfl⟩ := mz_ofn (n := 3) h1.1 h1.2
    refine mz_Xrt _ (sg := -1) (Or.inr rfl) (-1) mz_zm1.symm hx hN co F L T B (mz_relR hr) (fun hE n T' B' => ?_) (fun x ra rb ex hrc n T' B' => ?_)
    · rw [mz_U1 hr] at hE
      dsimp only
      unfold wpY_leastTop
      dsimp only
      refine mz_YextT _ hN hx (sg := -1) (Or.inr rfl) (-1) mz_zm1.symm mn px py pz un an bt bb sl lm a b c d hR (fun _ v hv => ?_) (fun a' b' hrc' v hv => ?_)
      · obtain ⟨mn, px, py, pz, un, an, bt, bb, a, b, c, d, rfl⟩ := hv
        exact ⟨by decide, mz_fin hr (mz_sxI _ _ _) (mz_syI _ _ _ _ _ _ _ _ _ _ _ _)⟩
      · obtain ⟨t, ht, _⟩ := hrc'
        exact absurd ht (hE t)
    · rw [mz_U1 hr] at hrc
      dsimp only
      unfold wpY_leastTop
      dsimp only
      refine mz_YextT _ hN hx (sg := -1) (Or.inr rfl) (-1) mz_zm1.symm mn px py pz un an bt bb sl lm a b c d hR (fun hE v hv => ?_) (fun a' b' hrc' v hv => ?_)
      · obtain ⟨t, ht, _⟩ := hrc
        exact absurd ht (hE t)
      · obtain ⟨mn, px, py, pz, un, an, bt, bb, a, b, c, d, rfl⟩ := hv
        have e := mz_Rc1 (Or.inr rfl) hu.2 hrc hrc'
        exact ⟨by rw [ex, e.1], mz_fin hr (mz_sxI _ _ _) (mz_syI _ _ _ _ _ _ _ _ _ _ _ _)⟩
  · unfold wpX_reachTop
    dsimp only
    refine mz_XisAxis _ v1 (fun q => absurd q h1) (fun _ => br_t rfl ?_)
    unfold wpY_leastTop
    dsimp only
    by_cases w : v1.toInt < 0
    · exact br_t (i0.1.mpr w) (br_f (by decide) ⟨by decide, mz_fin hr (mz_sxI _ _ _) (mz_syI _ _ _ _ _ _ _ _ _ _ _ _)⟩)
    · exact br_f (fun q => w (i0.1.mp q)) (br_f (fun q => h1 ⟨by omega, by have := i1.2.2.1.mp q; omega⟩) (br_f (by decide) ⟨by decide, mz_fin hr (mz_sxI _ _ _) (mz_syI _ _ _ _ _ _ _ _ _ _ _ _)⟩))
theorem i_vc_leastBottom {k : Nat} {u : SX} {v : SY} (I : i_Rel k u v) (hk : k + 5 ≤ 2560) (v1 : Int32) : wpX_leastBottom (fun r u' => wpY_leastBottom (fun r' v' => r' = r ∧ i_Rel (k + 5) u' v') v v1) u v1 := by
  obtain ⟨N, F, L, sl, lm, hr, ⟨co, T, B, rfl⟩, ⟨mn, px, py, pz, un, an, bt, bb, a, b, c, d, rfl⟩⟩ := I
  have hN := hr.1
  have hR := mz_UR (w := -1) hr
  have hu := mz_UC hR
  have i0 := mz_lc v1 0 0 (by decide)
  have i1 := mz_lc v1 2 2 (by decide)
  unfold wpX_leastBottom
  dsimp only
  by_cases h1 : 0 ≤ v1.toInt ∧ v1.toInt < 3
  · obtain ⟨ax, hx, rfl⟩ := mz_ofn (n := 3) h1.1 h1.2
    refine mz_Xrb _ (sg := -1) (Or.inr rfl) (-1) mz_zm1.symm hx hN co F L T B (mz_relR hr) (fun hE n T' B' => ?_) (fun x ra rb ex hrc n T' B' => ?_)
    · rw [mz_U1 hr] at hE
      dsimp only
      unfold wpY_leastBottom
      dsimp only
      refine mz_YextB _ hN hx (sg := -1) (Or.inr rfl) (-1) mz_zm1.symm mn px py pz un an bt bb sl lm a b c d hR (fun _ v hv => ?_) (fun a' b' hrc' v hv => ?_)
      · obtain ⟨mn, px, py, pz, un, an, bt, bb, a, b, c, d, rfl⟩ := hv
        exact ⟨by decide, mz_fin hr (mz_sxI _ _ _) (mz_syI _ _ _ _ _ _ _ _ _ _ _ _)⟩
      · obtain ⟨t, ht, _⟩ := hrc'
        exact absurd ht (hE t)
    · rw [mz_U1 hr] at hrc
      dsimp only
      unfold wpY_leastBottom
      dsimp only
      refine mz_YextB _ hN hx (sg := -1) (Or.inr rfl) (-1) mz_zm1.symm mn px py pz un an bt bb sl lm a b c d hR (fun hE v hv => ?_) (fun a' b' hrc' v hv => ?_)
      · obtain ⟨t, ht, _⟩ := hrc
        exact absurd ht (hE t)
      · obtain ⟨mn, px, py, pz, un, an, bt, bb, a, b, c, d, rfl⟩ := hv
        have e := mz_Rc1 (Or.inr rfl) hu.2 hrc hrc'
        exact ⟨by rw [ex, e.2], mz_fin hr (mz_sxI _ _ _) (mz_syI _ _ _ _ _ _ _ _ _ _ _ _)⟩
  · unfold wpX_reachBottom
    dsimp only
    refine mz_XisAxis _ v1 (fun q => absurd q h1) (fun _ => br_t rfl ?_)
    unfold wpY_leastBottom
    dsimp only
    by_cases w : v1.toInt < 0
    · exact br_t (i0.1.mpr w) (br_t rfl ⟨by decide, mz_fin hr (mz_sxI _ _ _) (mz_syI _ _ _ _ _ _ _ _ _ _ _ _)⟩)
    · exact br_f (fun q => w (i0.1.mp q)) (br_f (fun q => h1 ⟨by omega, by have := i1.2.2.1.mp q; omega⟩) (br_t rfl ⟨by decide, mz_fin hr (mz_sxI _ _ _) (mz_syI _ _ _ _ _ _ _ _ _ _ _ _)⟩))
theorem i_vc_follows {k : Nat} {u : SX} {v : SY} (I : i_Rel k u v) (hk : k + 5 ≤ 2560) (v1 : Int32) (v2 : Int32) : wpX_follows (fun r u' => wpY_follows (fun r' v' => r' = r ∧ i_Rel (k + 5) u' v') v v1 v2) u v1 v2 := by
  obtain ⟨N, F, L, sl, lm, hr, ⟨co, T, B, rfl⟩, ⟨mn, px, py, pz, un, an, bt, bb, a, b, c, d, rfl⟩⟩ := I
  have hN := hr.1
  have hR := mz_UR (w := -1) hr
  have j0 := mz_lc v2 (-1000) (-1000) (by decide)
  have j1 := mz_lc v2 1000 1000 (by decide)
  unfold wpX_follows
  dsimp only
  refine mz_XisSlope _ v1 (fun h1 => br_f (by decide) ?_) (fun h1 => br_t rfl ?_)
  · refine mz_XisWithin _ v2 1000 1000 (by decide) (by decide) (fun h2 => br_f (by decide) ?_) (fun h2 => br_t rfl ?_)
    · obtain ⟨s, hs, rfl⟩ := mz_ofn (n := 729) h1.1 (by omega)
      exact mz_Xfol (fun r u' => wpY_follows (fun r' v' => r' = r ∧ i_Rel (k + 5) u' v') (nI N, mn, px, py, pz, un, an, bt, bb, sl, lm, a, b, c, d) (nI s) v2) hr hs v2 h2 co T B fun F' L' u hr' hu => mz_Yfol _ hN hs v2 h2 mn px py pz un an bt bb sl lm a b c d hR fun v hv => ⟨rfl, mz_fin hr' hu hv⟩
    · unfold wpY_follows
      dsimp only
      refine mz_YbadSlope _ _ v1 (fun _ => br_t rfl ?_) (fun q => absurd h1 q)
      by_cases w : v2.toInt < -1000
      · exact br_t (j0.1.mpr w) ⟨rfl, mz_fin hr (mz_sxI _ _ _) (mz_syI _ _ _ _ _ _ _ _ _ _ _ _)⟩
      · exact br_f (fun q => w (j0.1.mp q)) (br_f (fun q => h2 ⟨by omega, j1.2.2.1.mp q⟩) ⟨rfl, mz_fin hr (mz_sxI _ _ _) (mz_syI _ _ _ _ _ _ _ _ _ _ _ _)⟩)
  · unfold wpY_follows
    dsimp only
    exact mz_YbadSlope _ _ v1 (fun q => absurd q h1) (fun _ => br_f (by decide) ⟨rfl, mz_fin hr (mz_sxI _ _ _) (mz_syI _ _ _ _ _ _ _ _ _ _ _ _)⟩)
theorem i_vc_support {k : Nat} {u : SX} {v : SY} (I : i_Rel k u v) (hk : k + 5 ≤ 2560) (v1 : Int32) : wpX_support (fun r u' => wpY_support (fun r' v' => r' = r ∧ i_Rel (k + 5) u' v') v v1) u v1 := by
  obtain ⟨N, F, L, sl, lm, hr, ⟨co, T, B, rfl⟩, ⟨mn, px, py, pz, un, an, bt, bb, a, b, c, d, rfl⟩⟩ := I
  have hN := hr.1
  have hR := mz_UR (w := -1) hr
  have hu := mz_UC hR
  by_cases h1 : 0 ≤ v1.toInt ∧ v1.toInt ≤ 728
  · obtain ⟨s, hs, rfl⟩ := mz_ofn (n := 729) h1.1 (by omega)
    refine mz_Xsup _ hr hs co T B (fun hE u hu' => ?_) (fun r F' L' u hsup hr' hu' => ?_)
    · exact mz_Ysup _ hN hs mn px py pz un an bt bb sl lm a b c d hR (fun _ v hv => ⟨rfl, mz_fin hr hu' hv⟩) (fun r' v hsup hv => hsup.2.elim fun t ht => absurd ht.1 (hE t))
    · exact mz_Ysup _ hN hs mn px py pz un an bt bb sl lm a b c d hR (fun hE v hv => hsup.2.elim fun t ht => absurd ht.1 (hE t)) (fun r' v hsup' hv => ⟨by rw [mz_Sup1 hu.2 hsup hsup'], mz_fin hr' hu' hv⟩)
  · unfold wpX_support
    dsimp only
    refine mz_XisSlope _ v1 (fun q => absurd q h1) (fun _ => br_t rfl ?_)
    unfold wpY_support
    dsimp only
    exact mz_YbadSlope _ _ v1 (fun q => absurd q h1) (fun _ => br_f (by decide) ⟨rfl, mz_fin hr (mz_sxI _ _ _) (mz_syI _ _ _ _ _ _ _ _ _ _ _ _)⟩)
theorem i_vc_redundant {k : Nat} {u : SX} {v : SY} (I : i_Rel k u v) (hk : k + 5 ≤ 2560) (v1 : Int32) : wpX_redundant (fun r u' => wpY_redundant (fun r' v' => r' = r ∧ i_Rel (k + 5) u' v') v v1) u v1 := by
  obtain ⟨N, F, L, sl, lm, hr, ⟨co, T, B, rfl⟩, ⟨mn, px, py, pz, un, an, bt, bb, a, b, c, d, rfl⟩⟩ := I
  have hN := hr.1
  have hR := mz_UR (w := -1) hr
  by_cases h1 : 0 ≤ v1.toInt ∧ v1.toInt < N
  · obtain ⟨q, hq, rfl⟩ := mz_ofn (n := N) h1.1 h1.2
    exact mz_Xred _ hr hq co T B fun u hu => mz_Yred _ hN hq mn px py pz un an bt bb sl lm a b c d (hr.2.2 q hq).1 (mz_UR hr) fun v hv => ⟨rfl, mz_fin hr hu hv⟩
  · unfold wpX_redundant
    dsimp only
    refine mz_XisBound _ hN co F L T B v1 (fun q => absurd q h1) (fun _ => br_t rfl ?_)
    unfold wpY_redundant
    dsimp only
    exact mz_Ybad _ hN mn px py pz un an bt bb sl lm a b c d v1 (fun q => absurd q h1) (fun _ => br_f (by decide) ⟨rfl, mz_fin hr (mz_sxI _ _ _) (mz_syI _ _ _ _ _ _ _ _ _ _ _ _)⟩)
theorem i_vc_has {k : Nat} {u : SX} {v : SY} (I : i_Rel k u v) (hk : k + 5 ≤ 2560) (v1 : Int32) (v2 : Int32) (v3 : Int32) (v4 : Int32) : wpX_has (fun r => wpY_has (fun r' v' => r' = r ∧ i_Rel (k + 5) u v') v v1 v2 v3 v4) u v1 v2 v3 v4 := by
  obtain ⟨N, F, L, sl, lm, hr, ⟨co, T, B, rfl⟩, ⟨mn, px, py, pz, un, an, bt, bb, a, b, c, d, rfl⟩⟩ := I
  have hN := hr.1
  have hR := mz_UR (w := -1) hr
  refine mz_Xhas1 _ hr co T B v1 v2 v3 v4 (fun h => ?_) (fun h h' => ?_) (fun h h' => ?_)
  · exact mz_Yhas1 _ hN mn px py pz un an bt bb sl lm a b c d hR v1 v2 v3 v4 (fun _ => ⟨rfl, mz_fin hr (mz_sxI _ _ _) (mz_syI _ _ _ _ _ _ _ _ _ _ _ _)⟩) (fun q => absurd q h) (fun q => absurd q h)
  · exact mz_Yhas1 _ hN mn px py pz un an bt bb sl lm a b c d hR v1 v2 v3 v4 (fun q => absurd h q) (fun _ _ => ⟨rfl, mz_fin hr (mz_sxI _ _ _) (mz_syI _ _ _ _ _ _ _ _ _ _ _ _)⟩) (fun _ q => absurd q h')
  · exact mz_Yhas1 _ hN mn px py pz un an bt bb sl lm a b c d hR v1 v2 v3 v4 (fun q => absurd h q) (fun _ q => absurd h' q) (fun _ _ v hv => ⟨rfl, mz_fin hr (mz_sxI _ _ _) hv⟩)
theorem i_vc_shadow {k : Nat} {u : SX} {v : SY} (I : i_Rel k u v) (hk : k + 5 ≤ 2560) (v1 : Int32) (v2 : Int32) (v3 : Int32) (v4 : Int32) : wpX_shadow (fun r => wpY_shadow (fun r' v' => r' = r ∧ i_Rel (k + 5) u v') v v1 v2 v3 v4) u v1 v2 v3 v4 := by
  obtain ⟨N, F, L, sl, lm, hr, ⟨co, T, B, rfl⟩, ⟨mn, px, py, pz, un, an, bt, bb, a, b, c, d, rfl⟩⟩ := I
  have hN := hr.1
  have hR := mz_UR (w := -1) hr
  refine mz_Xsh1 _ hr co T B v1 v2 v3 v4 (fun h => ?_) (fun h h' => ?_) (fun h h' h2 => ?_) (fun h h' h2 => ?_)
  · exact mz_Ysh1 _ hN mn px py pz un an bt bb sl lm a b c d hR v1 v2 v3 v4 (fun _ => ⟨rfl, mz_fin hr (mz_sxI _ _ _) (mz_syI _ _ _ _ _ _ _ _ _ _ _ _)⟩) (fun q => absurd q h) (fun q => absurd q h) (fun q => absurd q h)
  · exact mz_Ysh1 _ hN mn px py pz un an bt bb sl lm a b c d hR v1 v2 v3 v4 (fun q => absurd h q) (fun _ _ => ⟨rfl, mz_fin hr (mz_sxI _ _ _) (mz_syI _ _ _ _ _ _ _ _ _ _ _ _)⟩) (fun _ q => absurd q h') (fun _ q => absurd q h')
  · exact mz_Ysh1 _ hN mn px py pz un an bt bb sl lm a b c d hR v1 v2 v3 v4 (fun q => absurd h q) (fun _ q => absurd h' q) (fun _ _ _ => ⟨rfl, mz_fin hr (mz_sxI _ _ _) (mz_syI _ _ _ _ _ _ _ _ _ _ _ _)⟩) (fun _ _ q => absurd q h2)
  · exact mz_Ysh1 _ hN mn px py pz un an bt bb sl lm a b c d hR v1 v2 v3 v4 (fun q => absurd h q) (fun _ q => absurd h' q) (fun _ _ q => absurd h2 q) (fun _ _ _ v hv => ⟨rfl, mz_fin hr (mz_sxI _ _ _) hv⟩)
theorem i_vc_shadowGrid {k : Nat} {u : SX} {v : SY} (I : i_Rel k u v) (hk : k + 5 ≤ 2560) (v1 : Int32) : wpX_shadowGrid (fun r => wpY_shadowGrid (fun r' v' => r' = r ∧ i_Rel (k + 5) u v') v v1) u v1 := by
  obtain ⟨N, F, L, sl, lm, hr, ⟨co, T, B, rfl⟩, ⟨mn, px, py, pz, un, an, bt, bb, a, b, c, d, rfl⟩⟩ := I
  have hN := hr.1
  have hR := mz_UR (w := -1) hr
  refine mz_Xgr _ hr co T B v1 (fun h => ?_) (fun h => ?_)
  · exact mz_Ygr _ hN mn px py pz un an bt bb sl lm a b c d hR v1 (fun _ => ⟨rfl, mz_fin hr (mz_sxI _ _ _) (mz_syI _ _ _ _ _ _ _ _ _ _ _ _)⟩) (fun q => absurd q h)
  · exact mz_Ygr _ hN mn px py pz un an bt bb sl lm a b c d hR v1 (fun q => absurd h q) (fun _ v hv => ⟨rfl, mz_fin hr (mz_sxI _ _ _) hv⟩)
theorem i_vc_single {k : Nat} {u : SX} {v : SY} (I : i_Rel k u v) (hk : k + 5 ≤ 2560) : wpX_single (fun r u' => wpY_single (fun r' v' => r' = r ∧ i_Rel (k + 5) u' v') v) u := by
  obtain ⟨N, F, L, sl, lm, hr, ⟨co, T, B, rfl⟩, ⟨mn, px, py, pz, un, an, bt, bb, a, b, c, d, rfl⟩⟩ := I
  have hN := hr.1
  have hR := mz_UR (w := -1) hr
  exact mz_Xsingle _ hr co T B fun u hu => mz_Ysingle _ hN mn px py pz un an bt bb sl lm a b c d hR fun v hv => ⟨rfl, mz_fin hr hu hv⟩
