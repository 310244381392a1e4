/- indices -/
theorem mz_iv (i a : Nat) {N : Nat} (h : 3 * i + a < N) (hN : N < 2 ^ 31) : vp_in ((3 : Int32) * nI i + nI a) N := by
  rw [mz_i3]; exact vp_in_nI h hN
theorem mz_iv0 (i : Nat) {N : Nat} (h : 3 * i < N) (hN : N < 2 ^ 31) : vp_in ((3 : Int32) * nI i) N := by
  rw [mz_i0]; exact vp_in_nI h hN
theorem mz_ic (i a : Nat) (h : 3 * i + a < 2 ^ 31) : ((3 : Int32) * nI i + nI a).toNatClampNeg = 3 * i + a := by
  rw [mz_i3, nI_clamp h]
theorem mz_icn (i : Nat) (h : 3 * i < 2 ^ 31) : ((3 : Int32) * nI i).toNatClampNeg = 3 * i := by
  rw [mz_i0, nI_clamp h]
theorem mz_ic0 (i : Nat) (h : 3 * i < 2 ^ 31) : ((3 : Int32) * nI i + 0).toNatClampNeg = 3 * i := mz_ic i 0 h
theorem mz_ic1 (i : Nat) (h : 3 * i + 1 < 2 ^ 31) : ((3 : Int32) * nI i + 1).toNatClampNeg = 3 * i + 1 := mz_ic i 1 h
theorem mz_ic2 (i : Nat) (h : 3 * i + 2 < 2 ^ 31) : ((3 : Int32) * nI i + 2).toNatClampNeg = 3 * i + 2 := mz_ic i 2 h
theorem mz_XsetPlane (post : SX → Prop) (P : Nat) (hP : P < 14) (cn co : Int32) (F L T B : Nat → Int32) (x d : Int32)
    (h : post (cn, co, upd (upd (upd F (3 * P) (x / 81 - 4)) (3 * P + 1) (x / 9 - x / 9 / 9 * 9 - 4)) (3 * P + 2) (x - x / 9 * 9 - 4), upd L P d, T, B)) : wpX_setPlane post (cn, co, F, L, T, B) (nI P) x d := by
  unfold wpX_setPlane
  dsimp only
  refine ⟨by decide, mz_iv0 P (by omega) (by omega), nm_e ?_⟩
  refine ⟨by decide, by decide, mz_iv P 1 (by omega) (by omega), nm_e ?_⟩
  refine ⟨by decide, mz_iv P 2 (by omega) (by omega), nm_e ?_⟩
  refine ⟨vp_in_nI hP (by omega), nm_e ?_⟩
  rw [mz_icn P (by omega), mz_ic1 P (by omega), mz_ic2 P (by omega), nI_clamp (by omega)]
  exact h
theorem mz_Xcross (post : Int32 → Prop) {i j : Nat} (hi : i < 14) (hj : j < 14) (cn co : Int32) (F L T B : Nat → Int32) (ax : Nat) (hx : ax < 3)
    (h : post (mz_z (mz_cr ax (mz_pl F L i) (mz_pl F L j)))) : wpX_cross post (cn, co, F, L, T, B) (nI i) (nI j) (nI ax) := by
  have e : ax = 0 ∨ ax = 1 ∨ ax = 2 := by omega
  unfold wpX_cross
  dsimp only
  rcases e with e | e | e <;> subst e
  · rw [← mz_vcx] at h
    refine ⟨by decide, nm_r (e' := 1) (by decide) ⟨by decide, nm_r (e' := 2) (by decide) ⟨mz_iv i 1 (by omega) (by omega), mz_iv j 2 (by omega) (by omega), mz_iv i 2 (by omega) (by omega), mz_iv j 1 (by omega) (by omega), ?_⟩⟩⟩
    rw [mz_ic1 i (by omega), mz_ic2 i (by omega), mz_ic1 j (by omega), mz_ic2 j (by omega)]
    exact h
  · rw [← mz_vcy] at h
    refine ⟨by decide, nm_r (e' := 2) (by decide) ⟨by decide, nm_r (e' := 0) (by decide) ⟨mz_iv i 2 (by omega) (by omega), mz_iv j 0 (by omega) (by omega), mz_iv i 0 (by omega) (by omega), mz_iv j 2 (by omega) (by omega), ?_⟩⟩⟩
    rw [mz_ic0 i (by omega), mz_ic2 i (by omega), mz_ic0 j (by omega), mz_ic2 j (by omega)]
    exact h
  · rw [← mz_vcz] at h
    refine ⟨by decide, nm_r (e' := 0) (by decide) ⟨by decide, nm_r (e' := 1) (by decide) ⟨mz_iv i 0 (by omega) (by omega), mz_iv j 1 (by omega) (by omega), mz_iv i 1 (by omega) (by omega), mz_iv j 0 (by omega) (by omega), ?_⟩⟩⟩
    rw [mz_ic0 i (by omega), mz_ic1 i (by omega), mz_ic0 j (by omega), mz_ic1 j (by omega)]
    exact h
theorem mz_Xdet (post : Int32 → Prop) {i j k : Nat} (hi : i < 14) (hj : j < 14) (hk : k < 14) (cn co : Int32) (F L T B : Nat → Int32)
    (h : post (mz_z (mz_det (mz_pl F L i) (mz_pl F L j) (mz_pl F L k)))) : wpX_determinant post (cn, co, F, L, T, B) (nI i) (nI j) (nI k) := by
  rw [← mz_vdet] at h
  refine ⟨4, ?_⟩
  refine br_f (by decide) ⟨mz_iv i 0 (by omega) (by omega), ?_⟩
  refine mz_Xcross _ hj hk cn co F L T B 0 (by omega) ?_
  refine nm_e (nm_r (e' := 1) (by decide) ?_)
  refine br_f (by decide) ⟨mz_iv i 1 (by omega) (by omega), ?_⟩
  refine mz_Xcross _ hj hk cn co F L T B 1 (by omega) ?_
  refine nm_e (nm_r (e' := 2) (by decide) ?_)
  refine br_f (by decide) ⟨mz_iv i 2 (by omega) (by omega), ?_⟩
  refine mz_Xcross _ hj hk cn co F L T B 2 (by omega) ?_
  refine nm_e (nm_r (e' := 3) (by decide) ?_)
  refine br_t (by decide) ?_
  rw [mz_ic0 i (by omega), mz_ic1 i (by omega), mz_ic2 i (by omega)]
  exact h
theorem mz_Xtop (post : Int32 → Prop) {i j k : Nat} (hi : i < 14) (hj : j < 14) (hk : k < 14) (cn co : Int32) (F L T B : Nat → Int32) (ax : Nat) (hx : ax < 3)
    (h : post (mz_z (mz_tp ax (mz_pl F L i) (mz_pl F L j) (mz_pl F L k)))) : wpX_crossingTop post (cn, co, F, L, T, B) (nI i) (nI j) (nI k) (nI ax) := by
  rw [← mz_vtop F L i j k ax hx] at h
  unfold wpX_crossingTop
  dsimp only
  refine ⟨vp_in_nI hi (by omega), ?_⟩
  refine mz_Xcross _ hj hk cn co F L T B ax hx ?_
  refine ⟨vp_in_nI hj (by omega), ?_⟩
  refine mz_Xcross _ hk hi cn co F L T B ax hx ?_
  refine ⟨vp_in_nI hk (by omega), ?_⟩
  refine mz_Xcross _ hi hj cn co F L T B ax hx ?_
  rw [nI_clamp (show i < 2 ^ 31 by omega), nI_clamp (show j < 2 ^ 31 by omega), nI_clamp (show k < 2 ^ 31 by omega)]
  exact h
theorem mz_Xkeeps (post : Int32 → Prop) {c p : Nat} (hc : c < 286) (hp : p < 14) (cn co : Int32) (F L T B : Nat → Int32) (hR : mz_R 1000 (mz_pl F L p)) (hQ : mz_Q (mz_pl T B c))
    (hT : mz_kp (mz_pl F L p) (mz_pl T B c) → post 1) (hF : ¬ mz_kp (mz_pl F L p) (mz_pl T B c) → post 0) : wpX_cornerKeeps post (cn, co, F, L, T, B) (nI c) (nI p) := by
  have k := mz_vkp hR hQ
  refine ⟨4, ?_⟩
  refine br_f (by decide) ⟨mz_iv p 0 (by omega) (by omega), mz_iv c 0 (by omega) (by omega), nm_e (nm_r (e' := 1) (by decide) ?_)⟩
  refine br_f (by decide) ⟨mz_iv p 1 (by omega) (by omega), mz_iv c 1 (by omega) (by omega), nm_e (nm_r (e' := 2) (by decide) ?_)⟩
  refine br_f (by decide) ⟨mz_iv p 2 (by omega) (by omega), mz_iv c 2 (by omega) (by omega), nm_e (nm_r (e' := 3) (by decide) ?_)⟩
  refine br_t (by decide) ⟨vp_in_nI hp (by omega), vp_in_nI hc (by omega), ?_⟩
  rw [mz_ic0 p (by omega), mz_ic1 p (by omega), mz_ic2 p (by omega), mz_ic0 c (by omega), mz_ic1 c (by omega), mz_ic2 c (by omega), nI_clamp (show p < 2 ^ 31 by omega), nI_clamp (show c < 2 ^ 31 by omega), mz_vvl F L T B p c]
  have e : L p * B c = mz_z ((mz_pl F L p).2.2.2 * (mz_pl T B c).2.2.2) := by
    show _ = mz_z ((L p).toInt * (B c).toInt)
    rw [← mz_zm, mz_zt, mz_zt]
  rw [e]
  by_cases z : mz_kp (mz_pl F L p) (mz_pl T B c)
  · exact br_f (Int32.not_lt.mpr (k.mpr z)) (hT z)
  · exact br_t (Int32.not_le.mp fun y => z (k.mp y)) (hF z)
theorem mz_Bof {x A : Int} (h : -A ≤ x ∧ x ≤ A) (hA : A < 1000000) : mz_B x := ⟨by omega, by omega⟩
/- trying three planes: the planes that the crossing must keep -/
theorem mz_Xtry99 (post : SX → Prop) {c n : Nat} (hc : c ≤ 7) (hn : n < 286) (F L T B : Nat → Int32) (w : Int32) (hR : ∀ e, e < 6 + c → mz_R 40 (mz_pl F L e)) (hQ : mz_Q (mz_pl T B n))
    (hT : (∀ e, mz_gd (6 + c) w e → mz_kp (mz_pl F L e) (mz_pl T B n)) → post (nI c, nI (n + 1), F, L, T, B))
    (hF : (∃ e, mz_gd (6 + c) w e ∧ ¬ mz_kp (mz_pl F L e) (mz_pl T B n)) → post (nI c, nI n, F, L, T, B)) :
    ∀ f e, e ≤ 6 + c → 6 + c - e < f → (∀ e', e' < e → ¬ nI e' = w → mz_kp (mz_pl F L e') (mz_pl T B n)) → wX_tryCorner_99 post w (nI c) (nI n) F L T B f (nI e) := by
  have e6 : (6 : Int32) + nI c = nI (6 + c) := nI_add 6 c
  intro f
  induction f with
  | zero => intro e _ h; omega
  | succ f ih =>
    intro e he hf hk
    by_cases z : e = 6 + c
    · subst z
      have t : (6 : Int32) + nI c ≤ nI (6 + c) := by rw [e6]; exact nI_le (Nat.le_refl _) (by omega)
      refine br_t t (nm_r (nI_1 n) (hT fun e' g => hk e' g.1 g.2))
    · have t : ¬ (6 : Int32) + nI c ≤ nI e := by rw [e6]; exact nI_ge (by omega) (by omega)
      refine br_f t ?_
      by_cases y : nI e = w
      · refine br_t y (nm_r (nI_1 e) (ih (e + 1) (by omega) (by omega) fun e' h' => ?_))
        intro g
        rcases Nat.lt_or_ge e' e with a | a
        · exact hk e' a g
        · have : e' = e := by omega
          subst this; exact absurd y g
      · refine br_f y ?_
        refine mz_Xkeeps _ hn (by omega) (nI c) (nI n) F L T B (mz_RD (hR e (by omega)) (by omega)) hQ (fun kp => ?_) (fun kp => ?_)
        · refine br_f (by decide) (nm_r (nI_1 e) (ih (e + 1) (by omega) (by omega) fun e' h' g => ?_))
          rcases Nat.lt_or_ge e' e with a | a
          · exact hk e' a g
          · have : e' = e := by omega
            subst this; exact kp
        · exact br_t rfl (hF ⟨e, ⟨by omega, y⟩, kp⟩)
theorem mz_Xtry (post : SX → Prop) {c n i j k : Nat} (hc : c ≤ 7) (hn : n < 286) (hi : i < 6 + c) (hj : j < 6 + c) (hk : k < 6 + c) (F L T B : Nat → Int32) (w : Int32) (hR : ∀ e, e < 6 + c → mz_R 40 (mz_pl F L e))
    (hY : ∀ T' B', (∀ e, e < n → mz_pl T' B' e = mz_pl T B e) → mz_pl T' B' n = mz_cor (mz_pl F L i) (mz_pl F L j) (mz_pl F L k) → mz_Yc (mz_pl F L) (mz_gd (6 + c) w) i j k → post (nI c, nI (n + 1), F, L, T', B'))
    (hN : ∀ T' B', (∀ e, e < n → mz_pl T' B' e = mz_pl T B e) → mz_Nc (mz_pl F L) (mz_gd (6 + c) w) i j k → post (nI c, nI n, F, L, T', B')) :
    wpX_tryCorner post (nI c, nI n, F, L, T, B) (nI i) (nI j) (nI k) w := by
  have hd := mz_detb (hR i hi) (hR j hj) (hR k hk)
  have hs := mz_vsg hd
  unfold wpX_tryCorner
  dsimp only
  refine mz_Xdet _ (by omega) (by omega) (by omega) (nI c) (nI n) F L T B ?_
  by_cases z : mz_det (mz_pl F L i) (mz_pl F L j) (mz_pl F L k) = 0
  · exact br_t (hs.2.mpr z) (hN T B (fun _ _ => rfl) (Or.inl z))
  · refine br_f (fun y => z (hs.2.mp y)) ?_
    refine br_t (nI_lt (b := 286) hn (by decide)) ?_
    have main : ∀ s : Int32, s = mz_z (mz_sg (mz_det (mz_pl F L i) (mz_pl F L j) (mz_pl F L k))) →
        wX_tryCorner_35 post (nI i) (nI j) (nI k) w (mz_z (mz_det (mz_pl F L i) (mz_pl F L j) (mz_pl F L k))) s (nI c) (nI n) F L T B := by
      intro s es
      subst es
      refine ⟨vp_in_nI hn (by omega), nm_e ?_⟩
      rw [nI_clamp (show n < 2 ^ 31 by omega), mz_zm]
      refine ⟨4, ?_⟩
      refine br_f (by decide) ?_
      refine mz_Xtop _ (by omega) (by omega) (by omega) (nI c) (nI n) F L T _ 0 (by omega) ?_
      refine ⟨mz_iv n 0 (by omega) (by omega), nm_e (nm_r (e' := 1) (by decide) ?_)⟩
      refine br_f (by decide) ?_
      refine mz_Xtop _ (by omega) (by omega) (by omega) (nI c) (nI n) F L _ _ 1 (by omega) ?_
      refine ⟨mz_iv n 1 (by omega) (by omega), nm_e (nm_r (e' := 2) (by decide) ?_)⟩
      refine br_f (by decide) ?_
      refine mz_Xtop _ (by omega) (by omega) (by omega) (nI c) (nI n) F L _ _ 2 (by omega) ?_
      refine ⟨mz_iv n 2 (by omega) (by omega), nm_e (nm_r (e' := 3) (by decide) ?_)⟩
      refine br_t (by decide) ?_
      rw [mz_ic0 n (by omega), mz_ic1 n (by omega), mz_ic2 n (by omega), mz_zm, mz_zm, mz_zm]
      have hQ := mz_corQ (hR i hi) (hR j hj) (hR k hk)
      have e0 : mz_pl (upd (upd (upd T (3 * n) (mz_z (mz_sg (mz_det (mz_pl F L i) (mz_pl F L j) (mz_pl F L k)) * mz_tp 0 (mz_pl F L i) (mz_pl F L j) (mz_pl F L k)))) (3 * n + 1) (mz_z (mz_sg (mz_det (mz_pl F L i) (mz_pl F L j) (mz_pl F L k)) * mz_tp 1 (mz_pl F L i) (mz_pl F L j) (mz_pl F L k)))) (3 * n + 2) (mz_z (mz_sg (mz_det (mz_pl F L i) (mz_pl F L j) (mz_pl F L k)) * mz_tp 2 (mz_pl F L i) (mz_pl F L j) (mz_pl F L k)))) (upd B n (mz_z (mz_sg (mz_det (mz_pl F L i) (mz_pl F L j) (mz_pl F L k)) * mz_det (mz_pl F L i) (mz_pl F L j) (mz_pl F L k)))) n = mz_cor (mz_pl F L i) (mz_pl F L j) (mz_pl F L k) := by
        rw [mz_plS, mz_ti (x := mz_sg (mz_det (mz_pl F L i) (mz_pl F L j) (mz_pl F L k)) * mz_tp 0 (mz_pl F L i) (mz_pl F L j) (mz_pl F L k)) (mz_Bof hQ.1 (by omega)),
          mz_ti (x := mz_sg (mz_det (mz_pl F L i) (mz_pl F L j) (mz_pl F L k)) * mz_tp 1 (mz_pl F L i) (mz_pl F L j) (mz_pl F L k)) (mz_Bof hQ.2.1 (by omega)),
          mz_ti (x := mz_sg (mz_det (mz_pl F L i) (mz_pl F L j) (mz_pl F L k)) * mz_tp 2 (mz_pl F L i) (mz_pl F L j) (mz_pl F L k)) (mz_Bof hQ.2.2.1 (by omega)),
          mz_ti (x := mz_sg (mz_det (mz_pl F L i) (mz_pl F L j) (mz_pl F L k)) * mz_det (mz_pl F L i) (mz_pl F L j) (mz_pl F L k)) (mz_Bof hQ.2.2.2 (by omega))]
        rfl
      refine ⟨6 + c + 1, mz_Xtry99 post hc hn F L _ _ w hR ?_ ?_ ?_ (6 + c + 1) 0 (by omega) (by omega) (fun e' h' => absurd h' (Nat.not_lt_zero e'))⟩
      · rw [e0]; exact hQ
      · intro hk'
        refine hY _ _ (fun e he => mz_plN (by omega)) e0 ⟨z, fun e ge => ?_⟩
        have := hk' e ge
        rw [e0] at this; exact this
      · rintro ⟨e, ge, hk'⟩
        refine hN _ _ (fun e he => mz_plN (by omega)) (Or.inr ⟨e, ge, ?_⟩)
        rw [e0] at hk'; exact hk'
    by_cases y : mz_det (mz_pl F L i) (mz_pl F L j) (mz_pl F L k) < 0
    · exact br_f (fun x => Int32.not_lt.mpr x (hs.1.mpr y)) (main _ (mz_sgT y).symm)
    · exact br_t (Int32.not_lt.mp fun x => y (hs.1.mp x)) (main _ (mz_sgF y).symm)
