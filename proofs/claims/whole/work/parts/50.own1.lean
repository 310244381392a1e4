/- the owed statements -/
/-- the same count of bounds; the component's planes are the reference's walls and bounds; all else is free -/
def i_Rel (k : Nat) (u : SX) (v : SY) : Prop := ∃ (N : Nat) (F L sl lm : Nat → Int32), mz_rel N F L sl lm ∧ mz_sx N F L u ∧ mz_sy N sl lm v
theorem i_up {k : Nat} {u : SX} {v : SY} (h : i_Rel k u v) : i_Rel (k + 5) u v := h
theorem i_vc0 : wpX_init (fun u => wpY_init (fun v => i_Rel 0 u v)) := by
  unfold wpX_init
  refine mz_XsetPlane _ 0 (by omega) 0 0 _ _ _ _ 445 10 ?_
  dsimp only
  refine mz_XsetPlane _ 1 (by omega) 0 0 _ _ _ _ 283 10 ?_
  dsimp only
  refine mz_XsetPlane _ 2 (by omega) 0 0 _ _ _ _ 373 10 ?_
  dsimp only
  refine mz_XsetPlane _ 3 (by omega) 0 0 _ _ _ _ 355 10 ?_
  dsimp only
  refine mz_XsetPlane _ 4 (by omega) 0 0 _ _ _ _ 365 10 ?_
  dsimp only
  refine mz_XsetPlane _ 5 (by omega) 0 0 _ _ _ _ 363 10 ?_
  dsimp only
  refine ⟨0, _, _, _, _, ⟨by omega, fun e he => ?_, fun i hi => absurd hi (Nat.not_lt_zero i)⟩, mz_sxI _ _ _, mz_syI _ _ _ _ _ _ _ _ _ _ _ _⟩
  have h : e = 0 ∨ e = 1 ∨ e = 2 ∨ e = 3 ∨ e = 4 ∨ e = 5 := by omega
  rcases h with h | h | h | h | h | h <;> subst h
  · exact (mz_plN (by omega)).trans ((mz_plN (by omega)).trans ((mz_plN (by omega)).trans ((mz_plN (by omega)).trans ((mz_plN (by omega)).trans (mz_plS.trans mz_w0)))))
  · exact (mz_plN (by omega)).trans ((mz_plN (by omega)).trans ((mz_plN (by omega)).trans ((mz_plN (by omega)).trans (mz_plS.trans mz_w1))))
  · exact (mz_plN (by omega)).trans ((mz_plN (by omega)).trans ((mz_plN (by omega)).trans (mz_plS.trans mz_w2)))
  · exact (mz_plN (by omega)).trans ((mz_plN (by omega)).trans (mz_plS.trans mz_w3))
  · exact (mz_plN (by omega)).trans (mz_plS.trans mz_w4)
  · exact mz_plS.trans mz_w5
theorem mz_fin {k N : Nat} {F L sl lm : Nat → Int32} (hr : mz_rel N F L sl lm) {u : SX} {v : SY} (hu : mz_sx N F L u) (hv : mz_sy N sl lm v) : i_Rel k u v := ⟨N, F, L, sl, lm, hr, hu, hv⟩
theorem i_vc_add {k : Nat} {u : SX} {v : SY} (I : i_Rel k u v) (hk : k + 5 ≤ 2560) (v1 : Int32) (v2 : Int32) : wpX_add (fun r u' => wpY_add (fun r' v' => r' = r ∧ i_Rel (k + 5) u' v') v v1 v2) u v1 v2 := by
  obtain ⟨N, F, L, sl, lm, hr, ⟨co, T, B, rfl⟩, ⟨mn, px, py, pz, un, an, bt, bb, a, b, c, d, rfl⟩⟩ := I
  have hN := hr.1
  have hR := mz_UR (w := -1) hr
  have j0 := mz_lc v2 (-40) (-40) (by decide)
  have j1 := mz_lc v2 40 40 (by decide)
  unfold wpX_add
  dsimp only
  refine mz_XisSlope _ v1 (fun h1 => br_f (by decide) ?_) (fun h1 => br_t rfl ?_)
  · refine mz_XisWithin _ v2 40 40 (by decide) (by decide) (fun h2 => br_f (by decide) ?_) (fun h2 => br_t rfl ?_)
    · by_cases z : N < 7
      · refine br_t (nI_lt (b := 7) z (by decide)) ?_
        obtain ⟨s, hs, rfl⟩ := mz_ofn (n := 729) h1.1 (by omega)
        rw [show (6 : Int32) + nI N = nI (6 + N) from nI_add 6 N]
        refine mz_XsetPlane _ (6 + N) (by omega) (nI N) co F L T B (nI s) v2 ?_
        refine nm_r (nI_1 N) ?_
        rw [nI_pred]
        unfold wpY_add
        dsimp only
        have v := vp_in_nI z (show 7 < 2 ^ 31 by omega)
        refine mz_YbadSlope _ _ (nI s) (fun _ => br_t rfl ?_) (fun q => absurd h1 q)
        refine br_f (fun w => by have := j0.1.mp w; omega) (br_t (j1.2.2.1.mpr h2.2) (br_t (nI_le (b := 6) (by omega) (by decide)) ?_))
        refine ⟨v, nm_e ⟨v, nm_e (nm_r (nI_1 N) ⟨rfl, ?_⟩)⟩⟩
        rw [nI_clamp (show N < 2 ^ 31 by omega)]
        exact mz_fin (mz_relA hr z (mz_dcR hs (by omega) (by omega)) (fun e he => mz_plN (by omega)) mz_plS) (mz_sxI _ _ _) (mz_syI _ _ _ _ _ _ _ _ _ _ _ _)
      · have e7 : N = 7 := by omega
        refine br_f (nI_nlt (b := 7) (by omega) (by omega)) ?_
        unfold wpY_add
        dsimp only
        refine mz_YbadSlope _ _ v1 (fun _ => br_t rfl ?_) (fun q => absurd h1 q)
        refine br_f (fun w => by have := j0.1.mp w; omega) (br_t (j1.2.2.1.mpr h2.2) (br_f (nI_ge (a := 6) (by omega) (by omega)) ?_))
        exact ⟨rfl, mz_fin hr (mz_sxI _ _ _) (mz_syI _ _ _ _ _ _ _ _ _ _ _ _)⟩
    · unfold wpY_add
      dsimp only
      refine mz_YbadSlope _ _ v1 (fun _ => br_t rfl ?_) (fun q => absurd h1 q)
      by_cases w : v2.toInt < -40
      · exact br_t (j0.1.mpr w) ⟨rfl, mz_fin hr (mz_sxI _ _ _) (mz_syI _ _ _ _ _ _ _ _ _ _ _ _)⟩
      · exact br_f (fun q => w (j0.1.mp q)) (br_f (fun q => h2 ⟨by omega, j1.2.2.1.mp q⟩) ⟨rfl, mz_fin hr (mz_sxI _ _ _) (mz_syI _ _ _ _ _ _ _ _ _ _ _ _)⟩)
  · unfold wpY_add
    dsimp only
    exact mz_YbadSlope _ _ v1 (fun q => absurd q h1) (fun _ => br_f (by decide) ⟨rfl, mz_fin hr (mz_sxI _ _ _) (mz_syI _ _ _ _ _ _ _ _ _ _ _ _)⟩)
theorem i_vc_remove {k : Nat} {u : SX} {v : SY} (I : i_Rel k u v) (hk : k + 5 ≤ 2560) (v1 : Int32) : wpX_remove (fun r u' => wpY_remove (fun r' v' => r' = r ∧ i_Rel (k + 5) u' v') v v1) u v1 := by
  obtain ⟨N, F, L, sl, lm, hr, ⟨co, T, B, rfl⟩, ⟨mn, px, py, pz, un, an, bt, bb, a, b, c, d, rfl⟩⟩ := I
  have hN := hr.1
  have hR := mz_UR (w := -1) hr
  unfold wpX_remove
  dsimp only
  refine mz_XisBound _ hN co F L T B v1 (fun h1 => br_f (by decide) ?_) (fun h1 => br_t rfl ?_)
  · obtain ⟨q, hq, rfl⟩ := mz_ofn (n := N) h1.1 h1.2
    obtain ⟨M, rfl⟩ : ∃ M, N = M + 1 := ⟨N - 1, by omega⟩
    refine nm_r (nI_pred M) (nm_r (nI_add 6 q) ?_)
    refine ⟨M + 1, mz_Xrem _ (c := M) (b := q) (by omega) (by omega) co F L T B (fun F' L' g1 g2 => ?_) (M + 1) q F L (by omega) (by omega) (by omega) (fun _ _ => rfl) (fun i h h' => by omega) (fun _ _ => rfl)⟩
    unfold wpY_remove
    dsimp only
    refine mz_Ybad _ hN mn px py pz un an bt bb sl lm a b c d (nI q) (fun _ => br_t rfl ?_) (fun w => absurd h1 w)
    refine ⟨M + 1, mz_Yrem _ (N := M) (q := q) (by omega) (by omega) mn px py pz un an bt bb sl lm a b c d (fun sl' lm' g3 g4 => ⟨rfl, ?_⟩) (M + 1) q sl lm (by omega) (by omega) (by omega) (fun _ _ => ⟨rfl, rfl⟩) (fun i h h' => by omega) (fun _ _ => ⟨rfl, rfl⟩)⟩
    exact mz_fin (mz_relD hr (by omega) g1 g2 g3 g4) (mz_sxI _ _ _) (mz_syI _ _ _ _ _ _ _ _ _ _ _ _)
  · unfold wpY_remove
    dsimp only
    exact mz_Ybad _ hN mn px py pz un an bt bb sl lm a b c d v1 (fun q => absurd q h1) (fun _ => br_f (by decide) ⟨rfl, mz_fin hr (mz_sxI _ _ _) (mz_syI _ _ _ _ _ _ _ _ _ _ _ _)⟩)
theorem i_vc_move {k : Nat} {u : SX} {v : SY} (I : i_Rel k u v) (hk : k + 5 ≤ 2560) (v1 : Int32) (v2 : Int32) : wpX_move (fun r u' => wpY_move (fun r' v' => r' = r ∧ i_Rel (k + 5) u' v') v v1 v2) u v1 v2 := by
  obtain ⟨N, F, L, sl, lm, hr, ⟨co, T, B, rfl⟩, ⟨mn, px, py, pz, un, an, bt, bb, a, b, c, d, rfl⟩⟩ := I
  have hN := hr.1
  have hR := mz_UR (w := -1) hr
  have j0 := mz_lc v2 (-40) (-40) (by decide)
  have j1 := mz_lc v2 40 40 (by decide)
  unfold wpX_move
  dsimp only
  refine mz_XisBound _ hN co F L T B v1 (fun h1 => br_f (by decide) ?_) (fun h1 => br_t rfl ?_)
  · refine mz_XisWithin _ v2 40 40 (by decide) (by decide) (fun h2 => br_f (by decide) ?_) (fun h2 => br_t rfl ?_)
    · obtain ⟨q, hq, rfl⟩ := mz_ofn (n := N) h1.1 h1.2
      have e6 : (6 : Int32) + nI q = nI (6 + q) := nI_add 6 q
      rw [e6, nI_clamp (show 6 + q < 2 ^ 31 by omega)]
      have v := vp_in_nI (show 6 + q < 14 by omega) (show 14 < 2 ^ 31 by omega)
      refine ⟨v, nm_e ⟨v, nm_e ?_⟩⟩
      unfold wpY_move
      dsimp only
      refine mz_Ybad _ hN mn px py pz un an bt bb sl lm a b c d (nI q) (fun _ => br_t rfl ?_) (fun w => absurd h1 w)
      have v' := vp_in_nI (show q < 7 by omega) (show 7 < 2 ^ 31 by omega)
      refine br_f (fun w => by have := j0.1.mp w; omega) (br_t (j1.2.2.1.mpr h2.2) ⟨v', nm_e ⟨v', nm_e ⟨?_, ?_⟩⟩⟩)
      · rw [nI_clamp (show q < 2 ^ 31 by omega)]
        have g := congrArg (fun p : mz_P => p.2.2.2) (hr.2.2 q hq).2
        exact (Int32.toInt_inj.mp g).symm
      · rw [nI_clamp (show q < 2 ^ 31 by omega)]
        exact mz_fin (mz_relM hr hq h2 (fun e he hne => mz_plM hne) mz_plL) (mz_sxI _ _ _) (mz_syI _ _ _ _ _ _ _ _ _ _ _ _)
    · unfold wpY_move
      dsimp only
      refine mz_Ybad _ hN mn px py pz un an bt bb sl lm a b c d v1 (fun _ => br_t rfl ?_) (fun q => absurd h1 q)
      by_cases w : v2.toInt < -40
      · exact br_t (j0.1.mpr w) ⟨rfl, mz_fin hr (mz_sxI _ _ _) (mz_syI _ _ _ _ _ _ _ _ _ _ _ _)⟩
      · exact br_f (fun q => w (j0.1.mp q)) (br_f (fun q => h2 ⟨by omega, j1.2.2.1.mp q⟩) ⟨rfl, mz_fin hr (mz_sxI _ _ _) (mz_syI _ _ _ _ _ _ _ _ _ _ _ _)⟩)
  · unfold wpY_move
    dsimp only
    exact mz_Ybad _ hN mn px py pz un an bt bb sl lm a b c d v1 (fun q => absurd q h1) (fun _ => br_f (by decide) ⟨rfl, mz_fin hr (mz_sxI _ _ _) (mz_syI _ _ _ _ _ _ _ _ _ _ _ _)⟩)
