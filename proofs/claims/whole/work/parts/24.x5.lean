/- one point, the component's -/
theorem mz_Xifc (post : Int32 → Prop) {c n e : Nat} (hn : n ≤ 286) (he : e < n) (F L T B : Nat → Int32) (hQ : ∀ e, e < n → mz_Q (mz_pl T B e))
    (hT : (∀ ax, ax < 3 → mz_co ax (mz_pl T B e) * (mz_pl T B 0).2.2.2 = mz_co ax (mz_pl T B 0) * (mz_pl T B e).2.2.2) → post 1)
    (hF : (¬ ∀ ax, ax < 3 → mz_co ax (mz_pl T B e) * (mz_pl T B 0).2.2.2 = mz_co ax (mz_pl T B 0) * (mz_pl T B e).2.2.2) → post 0) :
    wpX_isFirstCorner post (nI c, nI n, F, L, T, B) (nI e) := by
  have key : ∀ f ax, ax ≤ 3 → 3 - ax < f → (∀ a, a < ax → mz_co a (mz_pl T B e) * (mz_pl T B 0).2.2.2 = mz_co a (mz_pl T B 0) * (mz_pl T B e).2.2.2) → wX_isFirstCorner_2 post (nI e) (nI c) (nI n) F L T B f (nI ax) := by
    intro f
    induction f with
    | zero => intro ax _ h; omega
    | succ f ih =>
      intro ax hx hf hI
      by_cases z : ax = 3
      · subst z
        exact br_t (nI_le (b := 3) (Nat.le_refl 3) (by decide)) (hT hI)
      · refine br_f (nI_ge (b := 3) (by omega) (by decide)) ?_
        have hx' : ax < 3 := by omega
        have e1 : T ((3 : Int32) * nI e + nI ax).toNatClampNeg * B 0 = mz_z (mz_co ax (mz_pl T B e) * (mz_pl T B 0).2.2.2) := by
          rw [mz_ic e ax (by omega), mz_plc T B e ax hx']
          show _ = mz_z ((T (3 * e + ax)).toInt * (B 0).toInt)
          rw [← mz_zm, mz_zt, mz_zt]
        have e2 : T (nI ax).toNatClampNeg * B (nI e).toNatClampNeg = mz_z (mz_co ax (mz_pl T B 0) * (mz_pl T B e).2.2.2) := by
          rw [nI_clamp (show ax < 2 ^ 31 by omega), nI_clamp (show e < 2 ^ 31 by omega), mz_plc T B 0 ax hx', show 3 * 0 + ax = ax by omega]
          show _ = mz_z ((T ax).toInt * (B e).toInt)
          rw [← mz_zm, mz_zt, mz_zt]
        have cmp := mz_zeq (mz_fs (hQ e he) (hQ 0 (by omega)) ax) (mz_fs (hQ 0 (by omega)) (hQ e he) ax)
        refine ⟨mz_iv e ax (by omega) (by omega), nm_r e1 ⟨vp_in_nI (by omega) (by omega), vp_in_nI (by omega) (by omega), nm_r e2 ?_⟩⟩
        by_cases y : mz_co ax (mz_pl T B e) * (mz_pl T B 0).2.2.2 = mz_co ax (mz_pl T B 0) * (mz_pl T B e).2.2.2
        · exact br_t (cmp.mpr y) (nm_r (nI_1 ax) (ih (ax + 1) (by omega) (by omega) (lt_s hI y)))
        · exact br_f (fun q => y (cmp.mp q)) (hF fun h => y (h ax hx'))
  exact ⟨4, key 4 0 (by omega) (by omega) (fun a h => absurd h (Nat.not_lt_zero a))⟩
theorem mz_Xs16 (post : Int32 → SX → Prop) {c n : Nat} (hn : n ≤ 286) (F L T B : Nat → Int32) (hQ : ∀ e, e < n → mz_Q (mz_pl T B e))
    (hT : (∀ e, e < n → ∀ ax, ax < 3 → mz_co ax (mz_pl T B e) * (mz_pl T B 0).2.2.2 = mz_co ax (mz_pl T B 0) * (mz_pl T B e).2.2.2) → post 1 (nI c, nI n, F, L, T, B))
    (hF : (¬ ∀ e, e < n → ∀ ax, ax < 3 → mz_co ax (mz_pl T B e) * (mz_pl T B 0).2.2.2 = mz_co ax (mz_pl T B 0) * (mz_pl T B e).2.2.2) → post 0 (nI c, nI n, F, L, T, B)) :
    ∀ f e, e ≤ n → n - e < f → (∀ e', e' < e → ∀ ax, ax < 3 → mz_co ax (mz_pl T B e') * (mz_pl T B 0).2.2.2 = mz_co ax (mz_pl T B 0) * (mz_pl T B e').2.2.2) → wX_single_16 post (nI c) (nI n) F L T B f (nI e) := by
  intro f
  induction f with
  | zero => intro e _ h; omega
  | succ f ih =>
    intro e he hf hI
    by_cases z : e = n
    · subst z
      exact br_t (nI_le (Nat.le_refl _) (by omega)) (hT hI)
    · refine br_f (nI_ge (by omega) (by omega)) ?_
      refine mz_Xifc _ hn (by omega) F L T B hQ (fun h => ?_) (fun h => ?_)
      · exact br_f (by decide) (nm_r (nI_1 e) (ih (e + 1) (by omega) (by omega) (lt_s hI h)))
      · exact br_t rfl (hF fun h' => h (h' e (by omega)))
/- copying and removing planes -/
theorem mz_Xcopy (post : SX → Prop) {a b : Nat} (ha : a < 14) (hb : b < 14) (cn co : Int32) (F L T B : Nat → Int32)
    (h : post (cn, co, upd (upd (upd F (3 * b) (F (3 * a))) (3 * b + 1) (F (3 * a + 1))) (3 * b + 2) (F (3 * a + 2)), upd L b (L a), T, B)) : wpX_copyPlane post (cn, co, F, L, T, B) (nI a) (nI b) := by
  refine ⟨4, ?_⟩
  refine br_f (by decide) ⟨mz_iv a 0 (by omega) (by omega), mz_iv b 0 (by omega) (by omega), nm_e (nm_r (e' := 1) (by decide) ?_)⟩
  refine br_f (by decide) ⟨mz_iv a 1 (by omega) (by omega), mz_iv b 1 (by omega) (by omega), nm_e (nm_r (e' := 2) (by decide) ?_)⟩
  refine br_f (by decide) ⟨mz_iv a 2 (by omega) (by omega), mz_iv b 2 (by omega) (by omega), nm_e (nm_r (e' := 3) (by decide) ?_)⟩
  refine br_t (by decide) ⟨vp_in_nI ha (by omega), vp_in_nI hb (by omega), nm_e ?_⟩
  rw [mz_ic0 a (by omega), mz_ic1 a (by omega), mz_ic2 a (by omega), mz_ic0 b (by omega), mz_ic1 b (by omega), mz_ic2 b (by omega), nI_clamp (show a < 2 ^ 31 by omega), nI_clamp (show b < 2 ^ 31 by omega)]
  rw [pk_un (show 3 * a + 2 ≠ 3 * b + 1 by omega), pk_un (show 3 * a + 2 ≠ 3 * b by omega), pk_un (show 3 * a + 1 ≠ 3 * b by omega)]
  exact h
theorem mz_plcp {F L : Nat → Int32} {a b : Nat} : mz_pl (upd (upd (upd F (3 * b) (F (3 * a))) (3 * b + 1) (F (3 * a + 1))) (3 * b + 2) (F (3 * a + 2))) (upd L b (L a)) b = mz_pl F L a := mz_plS
theorem mz_Xrem (post : Int32 → SX → Prop) {c b : Nat} (hc : c < 7) (hb : b ≤ c) (co : Int32) (F0 L0 T B : Nat → Int32)
    (hp : ∀ F L, (∀ e, e < 6 + b → mz_pl F L e = mz_pl F0 L0 e) → (∀ i, b ≤ i → i < c → mz_pl F L (6 + i) = mz_pl F0 L0 (6 + (i + 1))) → post (nI c) (nI c, co, F, L, T, B)) :
    ∀ f i F L, b ≤ i → i ≤ c → c - i < f → (∀ e, e < 6 + b → mz_pl F L e = mz_pl F0 L0 e) → (∀ i', b ≤ i' → i' < i → mz_pl F L (6 + i') = mz_pl F0 L0 (6 + (i' + 1))) → (∀ i', i ≤ i' → mz_pl F L (6 + i') = mz_pl F0 L0 (6 + i')) →
      wX_remove_25 post f (nI (6 + i)) (nI c) co F L T B := by
  have e6 : (6 : Int32) + nI c = nI (6 + c) := nI_add 6 c
  intro f
  induction f with
  | zero => intro i F L _ _ h; omega
  | succ f ih =>
    intro i F L hbi hi hf h1 h2 h3
    by_cases z : i = c
    · subst z
      exact br_t (by rw [e6]; exact nI_le (Nat.le_refl _) (by omega)) (hp F L h1 h2)
    · refine br_f (by rw [e6]; exact nI_ge (by omega) (by omega)) ?_
      rw [nI_1]
      refine mz_Xcopy _ (by omega) (by omega) (nI c) co F L T B ?_
      refine nm_e ?_
      refine ih (i + 1) _ _ (by omega) (by omega) (by omega) (fun e he => ?_) (fun i' hi' hl => ?_) (fun i' hi' => ?_)
      · rw [mz_plN (by omega)]; exact h1 e he
      · by_cases y : i' = i
        · subst y
          rw [mz_plcp]; exact h3 (i' + 1) (by omega)
        · rw [mz_plN (by omega)]; exact h2 i' hi' (by omega)
      · rw [mz_plN (by omega)]; exact h3 i' (by omega)
