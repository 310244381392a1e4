/- the reference: putting and taking planes -/
theorem mz_Yput (post : SY → Prop) {m : Nat} (hm : m < 13) (cn px py pz un an : Int32) (bt bb : Int64) (sl lm a b c d : Nat → Int32) (x y : Int32)
    (h : post (cn, nI (m + 1), px, py, pz, un, an, bt, bb, sl, lm, upd a m (x / 81 - 4), upd b m (x / 9 - x / 9 / 9 * 9 - 4), upd c m (x - x / 9 * 9 - 4), upd d m y)) : wpY_put post (cn, nI m, px, py, pz, un, an, bt, bb, sl, lm, a, b, c, d) x y := by
  unfold wpY_put
  dsimp only
  have v := vp_in_nI hm (show 13 < 2 ^ 31 by omega)
  refine ⟨by decide, v, nm_e ⟨by decide, by decide, v, nm_e ⟨by decide, v, nm_e ⟨v, nm_e (nm_r (nI_1 m) ?_)⟩⟩⟩⟩
  rw [nI_clamp (by omega)]
  exact h
def mz_Uk (sl lm : Nat → Int32) (c : Nat) (w : Int32) (k : Nat) (p : mz_P) : Prop := (∃ i, i < c ∧ ¬ nI i = w ∧ mz_dc (sl i) (lm i) = p) ∨ ∃ e, e < k ∧ mz_wl e = p
theorem mz_ptw {pl pl' : Nat → mz_P} {m k N : Nat} {sl lm : Nat → Int32} {w : Int32} (h : mz_pt pl m (mz_Uk sl lm N w k)) (he : ∀ e, e < m → pl' e = pl e) (h0 : pl' m = mz_wl k) : mz_pt pl' (m + 1) (mz_Uk sl lm N w (k + 1)) := by
  refine mz_pt1 h he h0 fun p => ?_
  constructor
  · rintro (z | ⟨e, he', ep⟩)
    · exact Or.inl (Or.inl z)
    · rcases Nat.lt_or_ge e k with y | y
      · exact Or.inl (Or.inr ⟨e, y, ep⟩)
      · have : e = k := by omega
        subst this; exact Or.inr ep
  · rintro ((z | ⟨e, he', ep⟩) | z)
    · exact Or.inl z
    · exact Or.inr ⟨e, by omega, ep⟩
    · exact Or.inr ⟨k, by omega, z⟩
theorem mz_qaD {a b c d : Nat → Int32} {m : Nat} {x y : Int32} : mz_qa (upd a m (x / 81 - 4)) (upd b m (x / 9 - x / 9 / 9 * 9 - 4)) (upd c m (x - x / 9 * 9 - 4)) (upd d m y) m = mz_dc x y := mz_qaS
theorem mz_Yt48 (post : SY → Prop) {m N : Nat} (hm : m ≤ 7) (w : Int32) (cn px py pz un an : Int32) (bt bb : Int64) (sl lm a b c d : Nat → Int32)
    (h : mz_pt (mz_qa a b c d) m (mz_Uk sl lm N w 0))
    (hp : ∀ m a b c d, 6 ≤ m → m ≤ 13 → mz_pt (mz_qa a b c d) m (mz_U sl lm N w) → post (cn, nI m, px, py, pz, un, an, bt, bb, sl, lm, a, b, c, d)) :
    wY_take_48 post cn (nI m) px py pz un an bt bb sl lm a b c d := by
  unfold wY_take_48
  refine mz_Yput _ (by omega) cn px py pz un an bt bb sl lm _ _ _ _ 445 10 ?_
  dsimp only
  refine mz_Yput _ (by omega) cn px py pz un an bt bb sl lm _ _ _ _ 283 10 ?_
  dsimp only
  refine mz_Yput _ (by omega) cn px py pz un an bt bb sl lm _ _ _ _ 373 10 ?_
  dsimp only
  refine mz_Yput _ (by omega) cn px py pz un an bt bb sl lm _ _ _ _ 355 10 ?_
  dsimp only
  refine mz_Yput _ (by omega) cn px py pz un an bt bb sl lm _ _ _ _ 365 10 ?_
  dsimp only
  refine mz_Yput _ (by omega) cn px py pz un an bt bb sl lm _ _ _ _ 363 10 ?_
  refine hp _ _ _ _ _ (by omega) (by omega) ?_
  have h0 := mz_ptw (pl' := mz_qa (upd a m (445 / 81 - 4)) (upd b m (445 / 9 - 445 / 9 / 9 * 9 - 4)) (upd c m (445 - 445 / 9 * 9 - 4)) (upd d m 10)) h (fun e he => mz_qaN (by omega)) (mz_qaD.trans mz_w0)
  have h1 := mz_ptw (pl' := mz_qa (upd _ (m + 1) (283 / 81 - 4)) (upd _ (m + 1) (283 / 9 - 283 / 9 / 9 * 9 - 4)) (upd _ (m + 1) (283 - 283 / 9 * 9 - 4)) (upd _ (m + 1) 10)) h0 (fun e he => mz_qaN (by omega)) (mz_qaD.trans mz_w1)
  have h2 := mz_ptw (pl' := mz_qa (upd _ (m + 2) (373 / 81 - 4)) (upd _ (m + 2) (373 / 9 - 373 / 9 / 9 * 9 - 4)) (upd _ (m + 2) (373 - 373 / 9 * 9 - 4)) (upd _ (m + 2) 10)) h1 (fun e he => mz_qaN (by omega)) (mz_qaD.trans mz_w2)
  have h3 := mz_ptw (pl' := mz_qa (upd _ (m + 3) (355 / 81 - 4)) (upd _ (m + 3) (355 / 9 - 355 / 9 / 9 * 9 - 4)) (upd _ (m + 3) (355 - 355 / 9 * 9 - 4)) (upd _ (m + 3) 10)) h2 (fun e he => mz_qaN (by omega)) (mz_qaD.trans mz_w3)
  have h4 := mz_ptw (pl' := mz_qa (upd _ (m + 4) (365 / 81 - 4)) (upd _ (m + 4) (365 / 9 - 365 / 9 / 9 * 9 - 4)) (upd _ (m + 4) (365 - 365 / 9 * 9 - 4)) (upd _ (m + 4) 10)) h3 (fun e he => mz_qaN (by omega)) (mz_qaD.trans mz_w4)
  have h5 := mz_ptw (pl' := mz_qa (upd _ (m + 5) (363 / 81 - 4)) (upd _ (m + 5) (363 / 9 - 363 / 9 / 9 * 9 - 4)) (upd _ (m + 5) (363 - 363 / 9 * 9 - 4)) (upd _ (m + 5) 10)) h4 (fun e he => mz_qaN (by omega)) (mz_qaD.trans mz_w5)
  exact h5
theorem mz_Yt7 (post : SY → Prop) {N : Nat} (hN : N ≤ 7) (w px py pz un an : Int32) (bt bb : Int64) (sl lm : Nat → Int32)
    (hp : ∀ m a b c d, 6 ≤ m → m ≤ 13 → mz_pt (mz_qa a b c d) m (mz_U sl lm N w) → post (nI N, nI m, px, py, pz, un, an, bt, bb, sl, lm, a, b, c, d)) :
    ∀ f i m a b c d, i ≤ N → m ≤ i → N - i < f → mz_pt (mz_qa a b c d) m (mz_Uk sl lm i w 0) → wY_take_7 post w f (nI i) (nI N) (nI m) px py pz un an bt bb sl lm a b c d := by
  intro f
  induction f with
  | zero => intro i m a b c d _ _ h; omega
  | succ f ih =>
    intro i m a b c d hi hm hf hI
    by_cases z : i = N
    · subst z
      exact br_t (nI_le (Nat.le_refl _) (by omega)) (mz_Yt48 post (by omega) w (nI i) px py pz un an bt bb sl lm a b c d hI hp)
    · refine br_f (nI_ge (by omega) (by omega)) ?_
      refine br_f (nI_ge (b := 7) (by omega) (by decide)) ?_
      by_cases y : nI i = w
      · refine br_t y (nm_r (nI_1 i) (ih (i + 1) m a b c d (by omega) (by omega) (by omega) fun p => (hI p).trans ?_))
        constructor
        · rintro (⟨e, he, x⟩ | ⟨e, he, _⟩)
          · exact Or.inl ⟨e, by omega, x⟩
          · omega
        · rintro (⟨e, he, x⟩ | ⟨e, he, _⟩)
          · refine Or.inl ⟨e, ?_, x⟩
            have : e ≠ i := fun q => x.1 (q ▸ y)
            omega
          · omega
      · have v := vp_in_nI (show i < 7 by omega) (show 7 < 2 ^ 31 by omega)
        refine br_f y ⟨v, v, ?_⟩
        rw [nI_clamp (by omega)]
        refine mz_Yput _ (by omega) (nI N) px py pz un an bt bb sl lm a b c d (sl i) (lm i) ?_
        refine nm_r (nI_1 i) (ih (i + 1) (m + 1) _ _ _ _ (by omega) (by omega) (by omega) ?_)
        refine mz_pt1 hI (fun e he => mz_qaN (by omega)) mz_qaD fun p => ?_
        constructor
        · rintro (⟨e, he, x⟩ | ⟨e, he, _⟩)
          · rcases Nat.lt_or_ge e i with q | q
            · exact Or.inl (Or.inl ⟨e, q, x⟩)
            · have : e = i := by omega
              subst this; exact Or.inr x.2
          · omega
        · rintro ((⟨e, he, x⟩ | ⟨e, he, _⟩) | x)
          · exact Or.inl ⟨e, by omega, x⟩
          · omega
          · exact Or.inl ⟨i, by omega, y, x⟩
theorem mz_Ytake (post : SY → Prop) {N : Nat} (hN : N ≤ 7) (w mn px py pz un an : Int32) (bt bb : Int64) (sl lm a b c d : Nat → Int32)
    (hp : ∀ m a b c d, 6 ≤ m → m ≤ 13 → mz_S (mz_qa a b c d) (mz_ltm m) = mz_U sl lm N w → post (nI N, nI m, px, py, pz, un, an, bt, bb, sl, lm, a, b, c, d)) :
    wpY_take post (nI N, mn, px, py, pz, un, an, bt, bb, sl, lm, a, b, c, d) w := by
  refine ⟨N + 1, mz_Yt7 post hN w px py pz un an bt bb sl lm (fun m a b c d h1 h2 h3 => hp m a b c d h1 h2 (funext fun p => propext (h3 p))) (N + 1) 0 0 a b c d (by omega) (by omega) (by omega) fun p => ?_⟩
  constructor
  · rintro ⟨e, he, _⟩
    exact absurd he (Nat.not_lt_zero e)
  · rintro (⟨e, he, _⟩ | ⟨e, he, _⟩) <;> omega
/- three planes -/
theorem mz_Yth3 (post : Int32 → Prop) {i j k : Nat} (hi : i < 13) (hj : j < 13) (hk : k < 13) (cn mn px py pz un an : Int32) (bt bb : Int64) (sl lm a b c d : Nat → Int32)
    (h : post (mz_z (mz_det (mz_qa a b c d i) (mz_qa a b c d j) (mz_qa a b c d k)))) : wpY_three post (cn, mn, px, py, pz, un, an, bt, bb, sl, lm, a, b, c, d) (nI i) (nI j) (nI k) 3 := by
  have vi := vp_in_nI hi (show 13 < 2 ^ 31 by omega)
  have vj := vp_in_nI hj (show 13 < 2 ^ 31 by omega)
  have vk := vp_in_nI hk (show 13 < 2 ^ 31 by omega)
  rw [← mz_v3] at h
  refine br_f (by decide) ⟨vi, ?_⟩
  refine br_f (by decide) ⟨vj, ?_⟩
  refine br_f (by decide) ⟨vk, ?_⟩
  refine br_f (by decide) ⟨vi, ?_⟩
  refine br_f (by decide) ⟨vj, ?_⟩
  refine br_f (by decide) ⟨vk, ?_⟩
  refine br_f (by decide) ⟨vi, ?_⟩
  refine br_f (by decide) ⟨vj, ?_⟩
  refine br_f (by decide) ⟨vk, ?_⟩
  unfold wY_three_202
  rw [nI_clamp (show i < 2 ^ 31 by omega), nI_clamp (show j < 2 ^ 31 by omega), nI_clamp (show k < 2 ^ 31 by omega)]
  exact h
theorem mz_Yth0 (post : Int32 → Prop) {i j k : Nat} (hi : i < 13) (hj : j < 13) (hk : k < 13) (cn mn px py pz un an : Int32) (bt bb : Int64) (sl lm a b c d : Nat → Int32)
    (h : post (mz_z (mz_tx (mz_qa a b c d i) (mz_qa a b c d j) (mz_qa a b c d k)))) : wpY_three post (cn, mn, px, py, pz, un, an, bt, bb, sl, lm, a, b, c, d) (nI i) (nI j) (nI k) 0 := by
  have vi := vp_in_nI hi (show 13 < 2 ^ 31 by omega)
  have vj := vp_in_nI hj (show 13 < 2 ^ 31 by omega)
  have vk := vp_in_nI hk (show 13 < 2 ^ 31 by omega)
  rw [← mz_v30] at h
  refine br_t rfl ⟨vi, ?_⟩
  refine br_t rfl ⟨vj, ?_⟩
  refine br_t rfl ⟨vk, ?_⟩
  refine br_f (by decide) ⟨vi, ?_⟩
  refine br_f (by decide) ⟨vj, ?_⟩
  refine br_f (by decide) ⟨vk, ?_⟩
  refine br_f (by decide) ⟨vi, ?_⟩
  refine br_f (by decide) ⟨vj, ?_⟩
  refine br_f (by decide) ⟨vk, ?_⟩
  unfold wY_three_202
  rw [nI_clamp (show i < 2 ^ 31 by omega), nI_clamp (show j < 2 ^ 31 by omega), nI_clamp (show k < 2 ^ 31 by omega)]
  exact h
theorem mz_Yth1 (post : Int32 → Prop) {i j k : Nat} (hi : i < 13) (hj : j < 13) (hk : k < 13) (cn mn px py pz un an : Int32) (bt bb : Int64) (sl lm a b c d : Nat → Int32)
    (h : post (mz_z (mz_ty (mz_qa a b c d i) (mz_qa a b c d j) (mz_qa a b c d k)))) : wpY_three post (cn, mn, px, py, pz, un, an, bt, bb, sl, lm, a, b, c, d) (nI i) (nI j) (nI k) 1 := by
  have vi := vp_in_nI hi (show 13 < 2 ^ 31 by omega)
  have vj := vp_in_nI hj (show 13 < 2 ^ 31 by omega)
  have vk := vp_in_nI hk (show 13 < 2 ^ 31 by omega)
  rw [← mz_v31] at h
  refine br_f (by decide) ⟨vi, ?_⟩
  refine br_f (by decide) ⟨vj, ?_⟩
  refine br_f (by decide) ⟨vk, ?_⟩
  refine br_t rfl ⟨vi, ?_⟩
  refine br_t rfl ⟨vj, ?_⟩
  refine br_t rfl ⟨vk, ?_⟩
  refine br_f (by decide) ⟨vi, ?_⟩
  refine br_f (by decide) ⟨vj, ?_⟩
  refine br_f (by decide) ⟨vk, ?_⟩
  unfold wY_three_202
  rw [nI_clamp (show i < 2 ^ 31 by omega), nI_clamp (show j < 2 ^ 31 by omega), nI_clamp (show k < 2 ^ 31 by omega)]
  exact h
theorem mz_Yth2 (post : Int32 → Prop) {i j k : Nat} (hi : i < 13) (hj : j < 13) (hk : k < 13) (cn mn px py pz un an : Int32) (bt bb : Int64) (sl lm a b c d : Nat → Int32)
    (h : post (mz_z (mz_tz (mz_qa a b c d i) (mz_qa a b c d j) (mz_qa a b c d k)))) : wpY_three post (cn, mn, px, py, pz, un, an, bt, bb, sl, lm, a, b, c, d) (nI i) (nI j) (nI k) 2 := by
  have vi := vp_in_nI hi (show 13 < 2 ^ 31 by omega)
  have vj := vp_in_nI hj (show 13 < 2 ^ 31 by omega)
  have vk := vp_in_nI hk (show 13 < 2 ^ 31 by omega)
  rw [← mz_v32] at h
  refine br_f (by decide) ⟨vi, ?_⟩
  refine br_f (by decide) ⟨vj, ?_⟩
  refine br_f (by decide) ⟨vk, ?_⟩
  refine br_f (by decide) ⟨vi, ?_⟩
  refine br_f (by decide) ⟨vj, ?_⟩
  refine br_f (by decide) ⟨vk, ?_⟩
  refine br_t rfl ⟨vi, ?_⟩
  refine br_t rfl ⟨vj, ?_⟩
  refine br_t rfl ⟨vk, ?_⟩
  unfold wY_three_202
  rw [nI_clamp (show i < 2 ^ 31 by omega), nI_clamp (show j < 2 ^ 31 by omega), nI_clamp (show k < 2 ^ 31 by omega)]
  exact h
theorem mz_vqt (a b c d : Nat → Int32) (e : Nat) (t : mz_P) : a e * mz_z t.1 + b e * mz_z t.2.1 + c e * mz_z t.2.2.1 = mz_z (mz_vl (mz_qa a b c d e) t) := by
  simp only [mz_vl, mz_qa, ← mz_za, ← mz_zm, mz_zt]
theorem mz_vdt (a b c d : Nat → Int32) (e : Nat) (u : Int) : d e * mz_z u = mz_z ((mz_qa a b c d e).2.2.2 * u) := by
  simp only [mz_qa, ← mz_zm, mz_zt]
theorem mz_Yc86 (post : Int32 → SY → Prop) {m : Nat} (hm : m ≤ 13) (t : mz_P) (hQ : mz_Q t) (cn an : Int32) (bt bb : Int64) (sl lm a b c d : Nat → Int32) (hR : ∀ e, e < m → mz_R 40 (mz_qa a b c d e))
    (hT : (∀ e, mz_ltm m e → mz_kp (mz_qa a b c d e) t) → post 1 (cn, nI m, mz_z t.1, mz_z t.2.1, mz_z t.2.2.1, mz_z t.2.2.2, an, bt, bb, sl, lm, a, b, c, d))
    (hF : (∃ e, mz_ltm m e ∧ ¬ mz_kp (mz_qa a b c d e) t) → post 0 (cn, nI m, mz_z t.1, mz_z t.2.1, mz_z t.2.2.1, mz_z t.2.2.2, an, bt, bb, sl, lm, a, b, c, d)) :
    ∀ f e, e ≤ m → m - e < f → (∀ e', e' < e → mz_kp (mz_qa a b c d e') t) → wY_corner_86 post cn (nI m) (mz_z t.1) (mz_z t.2.1) (mz_z t.2.2.1) (mz_z t.2.2.2) an bt bb sl lm a b c d f (nI e) := by
  intro f
  induction f with
  | zero => intro e _ h; omega
  | succ f ih =>
    intro e he hf hI
    by_cases z : e = m
    · subst z
      exact br_t (nI_le (Nat.le_refl _) (by omega)) (hT hI)
    · refine br_f (nI_ge (by omega) (by omega)) ?_
      refine br_f (nI_ge (b := 13) (by omega) (by decide)) ?_
      have v := vp_in_nI (show e < 13 by omega) (show 13 < 2 ^ 31 by omega)
      refine ⟨v, v, v, v, ?_⟩
      rw [nI_clamp (by omega), mz_vqt a b c d e t, mz_vdt a b c d e]
      have k := mz_vkp (mz_RD (hR e (by omega)) (by omega)) hQ
      by_cases y : mz_kp (mz_qa a b c d e) t
      · exact br_t (k.mpr y) (nm_r (nI_1 e) (ih (e + 1) (by omega) (by omega) (lt_s hI y)))
      · exact br_f (fun q => y (k.mp q)) (hF ⟨e, by unfold mz_ltm; omega, y⟩)
theorem mz_Ycor (post : Int32 → SY → Prop) {m i j k : Nat} (hm : m ≤ 13) (hi : i < m) (hj : j < m) (hk : k < m) (cn px py pz un an : Int32) (bt bb : Int64) (sl lm a b c d : Nat → Int32) (hR : ∀ e, e < m → mz_R 40 (mz_qa a b c d e)) (t : mz_P) (et : t = mz_cor (mz_qa a b c d i) (mz_qa a b c d j) (mz_qa a b c d k))
    (hY : mz_Yc (mz_qa a b c d) (mz_ltm m) i j k → post 1 (cn, nI m, mz_z t.1, mz_z t.2.1, mz_z t.2.2.1, mz_z t.2.2.2, an, bt, bb, sl, lm, a, b, c, d))
    (hN : mz_Nc (mz_qa a b c d) (mz_ltm m) i j k → ∀ px py pz un, post 0 (cn, nI m, px, py, pz, un, an, bt, bb, sl, lm, a, b, c, d)) :
    wpY_corner post (cn, nI m, px, py, pz, un, an, bt, bb, sl, lm, a, b, c, d) (nI i) (nI j) (nI k) := by
  have hd := mz_detb (hR i hi) (hR j hj) (hR k hk)
  have hs := mz_vsg hd
  have hQ := mz_corQ (hR i hi) (hR j hj) (hR k hk)
  rw [← et] at hQ
  unfold wpY_corner
  dsimp only
  refine mz_Yth3 _ (by omega) (by omega) (by omega) cn (nI m) px py pz un an bt bb sl lm a b c d ?_
  by_cases z : mz_det (mz_qa a b c d i) (mz_qa a b c d j) (mz_qa a b c d k) = 0
  · exact br_t (hs.2.mpr z) (hN (Or.inl z) px py pz un)
  · refine br_f (fun y => z (hs.2.mp y)) ?_
    have main : ∀ s : Int32, s = mz_z (mz_sg (mz_det (mz_qa a b c d i) (mz_qa a b c d j) (mz_qa a b c d k))) →
        wY_corner_27 post (nI i) (nI j) (nI k) (mz_z (mz_det (mz_qa a b c d i) (mz_qa a b c d j) (mz_qa a b c d k))) s cn (nI m) px py pz un an bt bb sl lm a b c d := by
      intro s es
      subst es
      refine nm_r (e' := mz_z t.2.2.2) (by rw [mz_zm, et]; rfl) ?_
      refine mz_Yth0 _ (by omega) (by omega) (by omega) cn (nI m) px py pz _ an bt bb sl lm a b c d ?_
      refine nm_r (e' := mz_z t.1) (by rw [mz_zm, et]; rfl) ?_
      refine mz_Yth1 _ (by omega) (by omega) (by omega) cn (nI m) _ py pz _ an bt bb sl lm a b c d ?_
      refine nm_r (e' := mz_z t.2.1) (by rw [mz_zm, et]; rfl) ?_
      refine mz_Yth2 _ (by omega) (by omega) (by omega) cn (nI m) _ _ pz _ an bt bb sl lm a b c d ?_
      refine nm_r (e' := mz_z t.2.2.1) (by rw [mz_zm, et]; rfl) ?_
      refine ⟨m + 1, mz_Yc86 post hm t hQ cn an bt bb sl lm a b c d hR ?_ ?_ (m + 1) 0 (by omega) (by omega) (fun e' h' => absurd h' (Nat.not_lt_zero e'))⟩
      · intro h
        exact hY ⟨z, fun e ge => by rw [← et]; exact h e ge⟩
      · rintro ⟨e, ge, h⟩
        exact hN (Or.inr ⟨e, ge, by rw [← et]; exact h⟩) _ _ _ _
    by_cases y : mz_det (mz_qa a b c d i) (mz_qa a b c d j) (mz_qa a b c d k) < 0
    · exact br_f (fun x => Int32.not_lt.mpr x (hs.1.mpr y)) (main _ (mz_sgT y).symm)
    · exact br_t (Int32.not_lt.mp fun x => y (hs.1.mp x)) (main _ (mz_sgF y).symm)
