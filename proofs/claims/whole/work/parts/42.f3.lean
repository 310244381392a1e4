/- has -/
theorem mz_Xhas1 (post : Int32 → Prop) {N : Nat} {F L sl lm : Nat → Int32} (hr : mz_rel N F L sl lm) (co : Int32) (T B : Nat → Int32) (x1 x2 x3 x4 : Int32) (hA : ¬ (1 ≤ x4.toInt ∧ x4.toInt ≤ 20) → post (-1)) (hB : (1 ≤ x4.toInt ∧ x4.toInt ≤ 20) → ¬ ((-400 ≤ x1.toInt ∧ x1.toInt ≤ 400) ∧ (-400 ≤ x2.toInt ∧ x2.toInt ≤ 400) ∧ (-400 ≤ x3.toInt ∧ x3.toInt ≤ 400)) → post (-2)) (h : (1 ≤ x4.toInt ∧ x4.toInt ≤ 20) → (-400 ≤ x1.toInt ∧ x1.toInt ≤ 400) ∧ (-400 ≤ x2.toInt ∧ x2.toInt ≤ 400) ∧ (-400 ≤ x3.toInt ∧ x3.toInt ≤ 400) → post (nI (mz_zi (∀ s, mz_U sl lm N (-1) s → mz_kp s (x1.toInt, x2.toInt, x3.toInt, x4.toInt))))) :
    wpX_has post (nI N, co, F, L, T, B) x1 x2 x3 x4 := by
  have hN := hr.1
  unfold wpX_has
  dsimp only
  refine mz_XisScale _ x4 (fun h4 => ?_) (fun h4 => br_t rfl (hA h4))
  refine br_f (by decide) (mz_XisWithin _ x1 400 400 (by decide) (by decide) (fun h1 => ?_) (fun h1 => br_t rfl (hB h4 fun w => h1 w.1)))
  refine br_f (by decide) (mz_XisWithin _ x2 400 400 (by decide) (by decide) (fun h2 => ?_) (fun h2 => br_t rfl (hB h4 fun w => h2 w.2.1)))
  refine br_f (by decide) (mz_XisWithin _ x3 400 400 (by decide) (by decide) (fun h3 => ?_) (fun h3 => br_t rfl (hB h4 fun w => h3 w.2.2)))
  refine br_f (by decide) ?_
  have g := h h4 ⟨h1, h2, h3⟩
  rw [← mz_U1 hr] at g
  have k := mz_Xhas post hN co F L T B h1 h2 h3 h4 (mz_relR hr) g (6 + N + 1) 0 (by omega) (by omega) (fun e he => absurd he (Nat.not_lt_zero e))
  rw [mz_zt, mz_zt, mz_zt, mz_zt] at k
  exact ⟨6 + N + 1, k⟩
theorem mz_Yhas1 (post : Int32 → SY → Prop) {N : Nat} (hN : N ≤ 7) (mn px py pz un an : Int32) (bt bb : Int64) (sl lm a b c d : Nat → Int32) (hR : ∀ p, mz_U sl lm N (-1) p → mz_R 40 p) (x1 x2 x3 x4 : Int32) (hA : ¬ (1 ≤ x4.toInt ∧ x4.toInt ≤ 20) → post (-1) (nI N, mn, px, py, pz, un, an, bt, bb, sl, lm, a, b, c, d)) (hB : (1 ≤ x4.toInt ∧ x4.toInt ≤ 20) → ¬ ((-400 ≤ x1.toInt ∧ x1.toInt ≤ 400) ∧ (-400 ≤ x2.toInt ∧ x2.toInt ≤ 400) ∧ (-400 ≤ x3.toInt ∧ x3.toInt ≤ 400)) → post (-2) (nI N, mn, px, py, pz, un, an, bt, bb, sl, lm, a, b, c, d)) (h : (1 ≤ x4.toInt ∧ x4.toInt ≤ 20) → (-400 ≤ x1.toInt ∧ x1.toInt ≤ 400) ∧ (-400 ≤ x2.toInt ∧ x2.toInt ≤ 400) ∧ (-400 ≤ x3.toInt ∧ x3.toInt ≤ 400) → ∀ v, mz_sy N sl lm v → post (nI (mz_zi (∀ s, mz_U sl lm N (-1) s → mz_kp s (x1.toInt, x2.toInt, x3.toInt, x4.toInt)))) v) :
    wpY_has post (nI N, mn, px, py, pz, un, an, bt, bb, sl, lm, a, b, c, d) x1 x2 x3 x4 := by
  have i0 := mz_lc x4 1 1 (by decide)
  have i1 := mz_lc x4 20 20 (by decide)
  unfold wpY_has
  dsimp only
  by_cases z : x4.toInt < 1
  · exact br_t (i0.1.mpr z) (hA (by omega))
  · refine br_f (fun w => z (i0.1.mp w)) ?_
    by_cases y : x4.toInt ≤ 20
    · have h4 : 1 ≤ x4.toInt ∧ x4.toInt ≤ 20 := by omega
      refine br_t (i1.2.2.1.mpr y) ?_
      refine mz_Yfar _ _ x1 (fun h1 => br_t rfl ?_) (fun h1 => br_f (by decide) (hB h4 fun w => h1 w.1))
      refine mz_Yfar _ _ x2 (fun h2 => br_t rfl ?_) (fun h2 => br_f (by decide) (hB h4 fun w => h2 w.2.1))
      refine mz_Yfar _ _ x3 (fun h3 => br_t rfl ?_) (fun h3 => br_f (by decide) (hB h4 fun w => h3 w.2.2))
      refine mz_Ytake _ hN (-1) mn px py pz un an bt bb sl lm a b c d fun m a b c d g1 g2 g3 => ?_
      dsimp only
      have g := h h4 ⟨h1, h2, h3⟩ _ (mz_syI (nI m) px py pz un an bt bb a b c d)
      rw [← g3] at g
      have k := mz_Yhas post g2 (nI N) px py pz un an bt bb sl lm a b c d h1 h2 h3 h4 (fun e he => hR _ (by rw [← g3]; exact ⟨e, he, rfl⟩)) g (m + 1) 0 (by omega) (by omega) (fun e he => absurd he (Nat.not_lt_zero e))
      rw [mz_zt, mz_zt, mz_zt, mz_zt] at k
      exact ⟨m + 1, k⟩
    · exact br_f (fun w => y (i1.2.2.1.mp w)) (hA (by omega))
/- shadow -/
theorem mz_zi01 {Z : Prop} {post : Int32 → Prop} (h : post (nI (mz_zi Z))) : (nI (mz_zi Z) = 0 → post 0) ∧ (¬ nI (mz_zi Z) = 0 → post 1) := by
  by_cases z : Z
  · rw [mz_ziT z] at h ⊢
    exact br_f (by decide) h
  · rw [mz_ziF z] at h ⊢
    exact br_t rfl h
theorem mz_Xsh1 (post : Int32 → Prop) {N : Nat} {F L sl lm : Nat → Int32} (hr : mz_rel N F L sl lm) (co : Int32) (T B : Nat → Int32) (x1 x2 x3 x4 : Int32) (hA : ¬ (0 ≤ x1.toInt ∧ x1.toInt < 3) → post (-1)) (hB : (0 ≤ x1.toInt ∧ x1.toInt < 3) → ¬ (1 ≤ x4.toInt ∧ x4.toInt ≤ 20) → post (-2)) (hC : (0 ≤ x1.toInt ∧ x1.toInt < 3) → (1 ≤ x4.toInt ∧ x4.toInt ≤ 20) → ¬ ((-400 ≤ x2.toInt ∧ x2.toInt ≤ 400) ∧ (-400 ≤ x3.toInt ∧ x3.toInt ≤ 400)) → post (-3)) (h : (0 ≤ x1.toInt ∧ x1.toInt < 3) → (1 ≤ x4.toInt ∧ x4.toInt ≤ 20) → (-400 ≤ x2.toInt ∧ x2.toInt ≤ 400) ∧ (-400 ≤ x3.toInt ∧ x3.toInt ≤ 400) → post (nI (mz_zi (mz_Z (mz_U sl lm N (-1)) (mz_co x1.toInt.toNat) (mz_rs x1.toInt.toNat x2.toInt x3.toInt x4.toInt))))) :
    wpX_shadow post (nI N, co, F, L, T, B) x1 x2 x3 x4 := by
  have hN := hr.1
  unfold wpX_shadow
  dsimp only
  refine mz_XisAxis _ x1 (fun h1 => ?_) (fun h1 => br_t rfl (hA h1))
  refine br_f (by decide) (mz_XisScale _ x4 (fun h4 => ?_) (fun h4 => br_t rfl (hB h1 h4)))
  refine br_f (by decide) (mz_XisWithin _ x2 400 400 (by decide) (by decide) (fun h2 => ?_) (fun h2 => br_t rfl (hC h1 h4 fun w => h2 w.1)))
  refine br_f (by decide) (mz_XisWithin _ x3 400 400 (by decide) (by decide) (fun h3 => ?_) (fun h3 => br_t rfl (hC h1 h4 fun w => h3 w.2)))
  refine br_f (by decide) ?_
  have g := h h1 h4 ⟨h2, h3⟩
  rw [← mz_U1 hr] at g
  have k := mz_Xline (fun r => (r = 0 → post 0) ∧ (¬ r = 0 → post 1)) hN (ax := x1.toInt.toNat) (by omega) co F L T B h2 h3 h4 (mz_relR hr) (fun e he => by rw [mz_U1 hr]; exact mz_Uw e he) (mz_zi01 g)
  rw [mz_zt, mz_zt, mz_zt, ← mz_ofi h1.1] at k
  exact k
theorem mz_Ysh1 (post : Int32 → SY → Prop) {N : Nat} (hN : N ≤ 7) (mn px py pz un an : Int32) (bt bb : Int64) (sl lm a b c d : Nat → Int32) (hR : ∀ p, mz_U sl lm N (-1) p → mz_R 40 p) (x1 x2 x3 x4 : Int32) (hA : ¬ (0 ≤ x1.toInt ∧ x1.toInt < 3) → post (-1) (nI N, mn, px, py, pz, un, an, bt, bb, sl, lm, a, b, c, d)) (hB : (0 ≤ x1.toInt ∧ x1.toInt < 3) → ¬ (1 ≤ x4.toInt ∧ x4.toInt ≤ 20) → post (-2) (nI N, mn, px, py, pz, un, an, bt, bb, sl, lm, a, b, c, d)) (hC : (0 ≤ x1.toInt ∧ x1.toInt < 3) → (1 ≤ x4.toInt ∧ x4.toInt ≤ 20) → ¬ ((-400 ≤ x2.toInt ∧ x2.toInt ≤ 400) ∧ (-400 ≤ x3.toInt ∧ x3.toInt ≤ 400)) → post (-3) (nI N, mn, px, py, pz, un, an, bt, bb, sl, lm, a, b, c, d)) (h : (0 ≤ x1.toInt ∧ x1.toInt < 3) → (1 ≤ x4.toInt ∧ x4.toInt ≤ 20) → (-400 ≤ x2.toInt ∧ x2.toInt ≤ 400) ∧ (-400 ≤ x3.toInt ∧ x3.toInt ≤ 400) → ∀ v, mz_sy N sl lm v → post (nI (mz_zi (mz_Z (mz_U sl lm N (-1)) (mz_co x1.toInt.toNat) (mz_rs x1.toInt.toNat x2.toInt x3.toInt x4.toInt)))) v) :
    wpY_shadow post (nI N, mn, px, py, pz, un, an, bt, bb, sl, lm, a, b, c, d) x1 x2 x3 x4 := by
  have i0 := mz_lc x4 1 1 (by decide)
  have i1 := mz_lc x4 20 20 (by decide)
  have j0 := mz_lc x1 0 0 (by decide)
  have j1 := mz_lc x1 2 2 (by decide)
  unfold wpY_shadow
  dsimp only
  by_cases u : x1.toInt < 0
  · exact br_t (j0.1.mpr u) (hA (by omega))
  · refine br_f (fun w => u (j0.1.mp w)) ?_
    by_cases v : x1.toInt ≤ 2
    · have h1 : 0 ≤ x1.toInt ∧ x1.toInt < 3 := by omega
      refine br_t (j1.2.2.1.mpr v) ?_
      by_cases z : x4.toInt < 1
      · exact br_t (i0.1.mpr z) (hB h1 (by omega))
      · refine br_f (fun w => z (i0.1.mp w)) ?_
        by_cases y : x4.toInt ≤ 20
        · have h4 : 1 ≤ x4.toInt ∧ x4.toInt ≤ 20 := by omega
          refine br_t (i1.2.2.1.mpr y) ?_
          refine mz_Yfar _ _ x2 (fun h2 => br_t rfl ?_) (fun h2 => br_f (by decide) (hC h1 h4 fun w => h2 w.1))
          refine mz_Yfar _ _ x3 (fun h3 => br_t rfl ?_) (fun h3 => br_f (by decide) (hC h1 h4 fun w => h3 w.2))
          refine mz_Ytake _ hN (-1) mn px py pz un an bt bb sl lm a b c d fun m a b c d g1 g2 g3 => ?_
          dsimp only
          have g := h h1 h4 ⟨h2, h3⟩ _ (mz_syI (nI m) px py pz un an bt bb a b c d)
          rw [← g3] at g
          have k := mz_Yshades (fun r => (r = 0 → post 0 (nI N, nI m, px, py, pz, un, an, bt, bb, sl, lm, a, b, c, d)) ∧ (¬ r = 0 → post 1 (nI N, nI m, px, py, pz, un, an, bt, bb, sl, lm, a, b, c, d))) g2 (ax := x1.toInt.toNat) (by omega) (nI N) px py pz un an bt bb sl lm a b c d h2 h3 h4 (fun e he => hR _ (by rw [← g3]; exact ⟨e, he, rfl⟩)) (fun e he => by rw [g3]; exact mz_Uw e he) (mz_zi01 (post := fun r => post r (nI N, nI m, px, py, pz, un, an, bt, bb, sl, lm, a, b, c, d)) g)
          rw [mz_zt, mz_zt, mz_zt, ← mz_ofi h1.1] at k
          exact k
        · exact br_f (fun w => y (i1.2.2.1.mp w)) (hB h1 (by omega))
    · exact br_f (fun w => v (j1.2.2.1.mp w)) (hA (by omega))
/- the grid of shadows -/
theorem mz_Xgr (post : Int32 → Prop) {N : Nat} {F L sl lm : Nat → Int32} (hr : mz_rel N F L sl lm) (co : Int32) (T B : Nat → Int32) (x1 : Int32) (hA : ¬ (0 ≤ x1.toInt ∧ x1.toInt < 3) → post (-1)) (h : (0 ≤ x1.toInt ∧ x1.toInt < 3) → post (nI (0 + mz_row (fun i => mz_row (mz_gr (mz_U sl lm N (-1)) x1.toInt.toNat i) 21) 21))) : wpX_shadowGrid post (nI N, co, F, L, T, B) x1 := by
  have hN := hr.1
  unfold wpX_shadowGrid
  dsimp only
  refine mz_XisAxis _ x1 (fun h1 => ?_) (fun h1 => br_t rfl (hA h1))
  refine br_f (by decide) ?_
  have g := h h1
  rw [← mz_U1 hr] at g
  have k := mz_Xg14 post hN (ax := x1.toInt.toNat) (by omega) co F L T B (mz_relR hr) (fun e he => by rw [mz_U1 hr]; exact mz_Uw e he) g 22 0 (by omega) (by omega)
  rw [← mz_ofi h1.1, show mz_z (((0 : Nat) : Int) - 10) = -10 by decide] at k
  exact ⟨22, k⟩
theorem mz_Ygr (post : Int32 → SY → Prop) {N : Nat} (hN : N ≤ 7) (mn px py pz un an : Int32) (bt bb : Int64) (sl lm a b c d : Nat → Int32) (hR : ∀ p, mz_U sl lm N (-1) p → mz_R 40 p) (x1 : Int32) (hA : ¬ (0 ≤ x1.toInt ∧ x1.toInt < 3) → post (-1) (nI N, mn, px, py, pz, un, an, bt, bb, sl, lm, a, b, c, d)) (h : (0 ≤ x1.toInt ∧ x1.toInt < 3) → ∀ v, mz_sy N sl lm v → post (nI (0 + mz_row (fun i => mz_row (mz_gr (mz_U sl lm N (-1)) x1.toInt.toNat i) 21) 21)) v) : wpY_shadowGrid post (nI N, mn, px, py, pz, un, an, bt, bb, sl, lm, a, b, c, d) x1 := by
  have j0 := mz_lc x1 0 0 (by decide)
  have j1 := mz_lc x1 2 2 (by decide)
  unfold wpY_shadowGrid
  dsimp only
  by_cases u : x1.toInt < 0
  · exact br_t (j0.1.mpr u) (hA (by omega))
  · refine br_f (fun w => u (j0.1.mp w)) ?_
    by_cases v : x1.toInt ≤ 2
    · have h1 : 0 ≤ x1.toInt ∧ x1.toInt < 3 := by omega
      refine br_t (j1.2.2.1.mpr v) ?_
      refine mz_Ytake _ hN (-1) mn px py pz un an bt bb sl lm a b c d fun m a b c d g1 g2 g3 => ?_
      dsimp only
      have g := h h1 _ (mz_syI (nI m) px py pz un an bt bb a b c d)
      rw [← g3] at g
      have k := mz_Yg21 post g2 (ax := x1.toInt.toNat) (by omega) (nI N) px py pz un an bt bb sl lm a b c d (fun e he => hR _ (by rw [← g3]; exact ⟨e, he, rfl⟩)) (fun e he => by rw [g3]; exact mz_Uw e he) g 22 0 (by omega) (by omega)
      rw [← mz_ofi h1.1, show mz_z (((0 : Nat) : Int) - 10) = -10 by decide] at k
      exact ⟨22, k⟩
    · exact br_f (fun w => v (j1.2.2.1.mp w)) (hA (by omega))
/- removing, the reference's -/
theorem mz_Yrem (post : Int32 → SY → Prop) {N q : Nat} (hN : N < 7) (hq : q ≤ N) (mn px py pz un an : Int32) (bt bb : Int64) (sl0 lm0 a b c d : Nat → Int32)
    (hp : ∀ sl lm, (∀ i, i < q → sl i = sl0 i ∧ lm i = lm0 i) → (∀ i, q ≤ i → i < N → sl i = sl0 (i + 1) ∧ lm i = lm0 (i + 1)) → post (nI N) (nI N, mn, px, py, pz, un, an, bt, bb, sl, lm, a, b, c, d)) :
    ∀ f i sl lm, q ≤ i → i ≤ N → N - i < f → (∀ e, e < q → sl e = sl0 e ∧ lm e = lm0 e) → (∀ e, q ≤ e → e < i → sl e = sl0 (e + 1) ∧ lm e = lm0 (e + 1)) → (∀ e, i ≤ e → sl e = sl0 e ∧ lm e = lm0 e) →
      wY_remove_12 post (nI (N + 1)) mn px py pz un an bt bb f (nI i) sl lm a b c d := by
  intro f
  induction f with
  | zero => intro i sl lm _ _ h; omega
  | succ f ih =>
    intro i sl lm hqi hi hf h1 h2 h3
    have ep : nI (N + 1) - 1 = nI N := nI_pred N
    by_cases z : i = N
    · subst z
      exact br_t (by rw [ep]; exact nI_le (Nat.le_refl _) (by omega)) (nm_r ep (hp sl lm h1 h2))
    · refine br_f (by rw [ep]; exact nI_ge (by omega) (by omega)) (br_f (nI_ge (b := 6) (by omega) (by decide)) ?_)
      have v := vp_in_nI (show i < 7 by omega) (show 7 < 2 ^ 31 by omega)
      have v' : vp_in (nI i + 1) 7 := by rw [nI_1]; exact vp_in_nI (by omega) (by omega)
      have e1 : (nI i).toNatClampNeg = i := nI_clamp (by omega)
      have e2 : (nI i + 1).toNatClampNeg = i + 1 := by rw [nI_1]; exact nI_clamp (by omega)
      refine ⟨v', v, nm_e ⟨v', v, nm_e (nm_r (nI_1 i) ?_)⟩⟩
      rw [e1, e2]
      refine ih (i + 1) _ _ (by omega) (by omega) (by omega) (fun e he => ?_) (fun e he hl => ?_) (fun e he => ?_)
      · rw [pk_un (by omega), pk_un (by omega)]; exact h1 e he
      · by_cases y : e = i
        · subst y
          rw [pk_us, pk_us]; exact h3 (e + 1) (by omega)
        · rw [pk_un y, pk_un y]; exact h2 e he (by omega)
      · rw [pk_un (by omega), pk_un (by omega)]; exact h3 e (by omega)
