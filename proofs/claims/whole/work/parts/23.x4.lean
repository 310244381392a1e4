/- a line against the planes, the component's -/
theorem mz_Xl125 (post : Int32 → Prop) (J46 : Int32 → Int32 → Int32 → Int32 → Int32 → Prop) (x1 x2 x3 x4 x5 x6 cn co : Int32) (F L T B : Nat → Int32) {o r lt lb ht hb : Int} {e : Nat}
    (ho : -4 ≤ o ∧ o ≤ 4) (hr : -5600 ≤ r ∧ r ≤ 5600) (b : (-1000000 ≤ lt ∧ lt ≤ 1000000) ∧ (1 ≤ lb ∧ lb ≤ 4) ∧ (-1000000 ≤ ht ∧ ht ≤ 1000000) ∧ (1 ≤ hb ∧ hb ≤ 4))
    (hJ : ∀ lt' lb' ht' hb', ((mz_nh o r ht hb ∧ ht' = r ∧ hb' = o) ∨ (¬ mz_nh o r ht hb ∧ ht' = ht ∧ hb' = hb)) → ((mz_nl o r lt lb ∧ lt' = -r ∧ lb' = -o) ∨ (¬ mz_nl o r lt lb ∧ lt' = lt ∧ lb' = lb)) → J46 (mz_z lt') (mz_z lb') (mz_z ht') (mz_z hb') (nI (e + 1))) :
    wX_lineMeetsBody_125 post J46 x1 x2 x3 x4 x5 x6 (mz_z lt) (mz_z lb) (mz_z ht) (mz_z hb) (nI e) (mz_z o) (mz_z r) cn co F L T B := by
  have q0 := mz_q0 ho
  have q2 := mz_q2 ho hr b.2.2.1 b.2.2.2
  have q3 := mz_q3 ho hr b.1 b.2.1
  have s : ∀ ht' hb', ((mz_nh o r ht hb ∧ ht' = r ∧ hb' = o) ∨ (¬ mz_nh o r ht hb ∧ ht' = ht ∧ hb' = hb)) →
      wX_lineMeetsBody_151 post J46 x1 x2 x3 x4 x5 x6 (mz_z lt) (mz_z lb) (mz_z ht') (mz_z hb') (nI e) (mz_z o) (mz_z r) cn co F L T B := by
    intro ht' hb' hh
    by_cases y : 0 ≤ o
    · exact br_t (q0.2.2.mpr y) (nm_r (nI_1 e) (hJ lt lb ht' hb' hh (Or.inr ⟨fun z => by have := z.1; omega, rfl, rfl⟩)))
    · refine br_f (fun z => y (q0.2.2.mp z)) ?_
      by_cases x : -r * lb ≤ lt * -o
      · exact br_t (q3.mpr x) (nm_r (nI_1 e) (hJ lt lb ht' hb' hh (Or.inr ⟨fun z => by have := z.2; omega, rfl, rfl⟩)))
      · exact br_f (fun z => x (q3.mp z)) (nm_r (mz_zg r) (nm_r (mz_zg o) (nm_r (nI_1 e) (hJ (-r) (-o) ht' hb' hh (Or.inl ⟨⟨by omega, by omega⟩, rfl, rfl⟩)))))
  by_cases y : o ≤ 0
  · exact br_t (q0.2.1.mpr y) (s ht hb (Or.inr ⟨fun z => by have := z.1; omega, rfl, rfl⟩))
  · refine br_f (fun z => y (q0.2.1.mp z)) ?_
    by_cases x : ht * o ≤ r * hb
    · exact br_t (q2.mpr x) (s ht hb (Or.inr ⟨fun z => by have := z.2; omega, rfl, rfl⟩))
    · exact br_f (fun z => x (q2.mp z)) (s r o (Or.inl ⟨⟨by omega, by omega⟩, rfl, rfl⟩))
theorem mz_Xl46 (post : Int32 → Prop) {c ax A Q : Nat} (hc : c ≤ 7) (hx : ax < 3) (hA : A < 3) (hQ : Q < 3) (co : Int32) (F L T B : Nat → Int32) {p q k : Int} (hp : -400 ≤ p ∧ p ≤ 400) (hq : -400 ≤ q ∧ q ≤ 400) (hk : 1 ≤ k ∧ k ≤ 20)
    (hR : ∀ e, e < 6 + c → mz_R 40 (mz_pl F L e)) (hW : ∀ e, e < 6 → mz_S (mz_pl F L) (mz_gd (6 + c) (-1)) (mz_wl e))
    (hrest : ∀ e, L e * mz_z k - F (3 * e + A) * mz_z p - F (3 * e + Q) * mz_z q = mz_z (mz_rs ax p q k (mz_pl F L e)))
    (h : post (nI (mz_zi (mz_Z (mz_S (mz_pl F L) (mz_gd (6 + c) (-1))) (mz_co ax) (mz_rs ax p q k))))) :
    ∀ f e lt lb ht hb, e ≤ 6 + c → 6 + c - e < f → mz_ZI (mz_S (mz_pl F L) (mz_gd (6 + c) (-1))) (fun s => ∃ e', e' < e ∧ mz_pl F L e' = s) (mz_co ax) (mz_rs ax p q k) (10 * k) lt lb ht hb →
      wX_lineMeetsBody_46 post (nI ax) (mz_z p) (mz_z q) (mz_z k) (nI A) (nI Q) (nI c) co F L T B f (mz_z lt) (mz_z lb) (mz_z ht) (mz_z hb) (nI e) := by
  have e6 : (6 : Int32) + nI c = nI (6 + c) := nI_add 6 c
  have hS : ∀ s, mz_S (mz_pl F L) (mz_gd (6 + c) (-1)) s → mz_R 40 s := fun s ⟨e, g, he⟩ => he ▸ hR e g.1
  intro f
  induction f with
  | zero => intro e lt lb ht hb _ h; omega
  | succ f ih =>
    intro e lt lb ht hb he hf hI
    have b := mz_ZIb hI (fun s hs => ⟨mz_cob (hS s hs), mz_rsb (hS s hs) hp hq hk⟩) (by omega)
    by_cases z : e = 6 + c
    · subst z
      have fin := mz_ZIe hI (fun s ⟨e, g, he⟩ => ⟨e, g.1, he⟩) (Int.le_refl (10 * k)) ⟨mz_wl (2 * ax + 1), hW _ (by omega), mz_wlo ax p q k hx⟩ ⟨mz_wl (2 * ax), hW _ (by omega), mz_whi ax p q k hx⟩
      have q4 := mz_q4 b.1 b.2.1 b.2.2.1 b.2.2.2
      refine br_t (by rw [e6]; exact nI_le (Nat.le_refl _) (by omega)) ?_
      by_cases y : lt * hb ≤ ht * lb
      · rw [mz_ziT (fin.mp y)] at h
        exact br_f (fun x => by have := q4.2.mp x; omega) h
      · rw [mz_ziF (fun x => y (fin.mpr x))] at h
        exact br_t (q4.2.mpr (by omega)) h
    · refine br_f (by rw [e6]; exact nI_ge (by omega) (by omega)) ?_
      have Se : mz_S (mz_pl F L) (mz_gd (6 + c) (-1)) (mz_pl F L e) := ⟨e, ⟨by omega, mz_nm1 (by omega)⟩, rfl⟩
      have ho := mz_cob (ax := ax) (hR e (by omega))
      have hr := mz_rsb (ax := ax) (hR e (by omega)) hp hq hk
      have q0 := mz_q0 ho
      have q1 := mz_q1 hr
      have e1 : F ((3 : Int32) * nI e + nI ax).toNatClampNeg = mz_z (mz_co ax (mz_pl F L e)) := by rw [mz_ic e ax (by omega), mz_plc F L e ax hx, mz_zt]
      have e2 : L (nI e).toNatClampNeg * mz_z k - F ((3 : Int32) * nI e + nI A).toNatClampNeg * mz_z p - F ((3 : Int32) * nI e + nI Q).toNatClampNeg * mz_z q = mz_z (mz_rs ax p q k (mz_pl F L e)) := by
        rw [mz_ic e A (by omega), mz_ic e Q (by omega), nI_clamp (by omega), hrest]
      refine ⟨mz_iv e ax (by omega) (by omega), nm_r e1 ⟨vp_in_nI (by omega) (by omega), mz_iv e A (by omega) (by omega), mz_iv e Q (by omega) (by omega), nm_r e2 ?_⟩⟩
      have go : (mz_co ax (mz_pl F L e) = 0 → 0 ≤ mz_rs ax p q k (mz_pl F L e)) → wX_lineMeetsBody_125 post (wX_lineMeetsBody_46 post (nI ax) (mz_z p) (mz_z q) (mz_z k) (nI A) (nI Q) (nI c) co F L T B f) (nI ax) (mz_z p) (mz_z q) (mz_z k) (nI A) (nI Q) (mz_z lt) (mz_z lb) (mz_z ht) (mz_z hb) (nI e) (mz_z (mz_co ax (mz_pl F L e))) (mz_z (mz_rs ax p q k (mz_pl F L e))) (nI c) co F L T B := by
        intro h0
        refine mz_Xl125 post _ _ _ _ _ _ _ _ _ F L T B ho hr b fun lt' lb' ht' hb' hh hl => ?_
        refine ih (e + 1) lt' lb' ht' hb' (by omega) (by omega) (mz_ZIs hI Se (fun s ⟨e', h', es⟩ => ?_) h0 hh hl)
        rcases Nat.lt_or_ge e' e with a | a
        · exact Or.inl ⟨e', a, es⟩
        · have : e' = e := by omega
          subst this; exact Or.inr es.symm
      by_cases y : mz_co ax (mz_pl F L e) = 0
      · refine br_t (q0.1.mpr y) ?_
        by_cases x : 0 ≤ mz_rs ax p q k (mz_pl F L e)
        · exact br_t (q1.mpr x) (go fun _ => x)
        · rw [mz_ziF (fun w => x (w.1 _ Se y))] at h
          exact br_f (fun w => x (q1.mp w)) h
      · exact br_f (fun w => y (q0.1.mp w)) (go fun w => absurd w y)
theorem mz_Xrest (F L : Nat → Int32) (p q k : Int) : (∀ e, L e * mz_z k - F (3 * e + 1) * mz_z p - F (3 * e + 2) * mz_z q = mz_z (mz_rs 0 p q k (mz_pl F L e))) ∧
    (∀ e, L e * mz_z k - F (3 * e + 0) * mz_z p - F (3 * e + 2) * mz_z q = mz_z (mz_rs 1 p q k (mz_pl F L e))) ∧
    (∀ e, L e * mz_z k - F (3 * e + 0) * mz_z p - F (3 * e + 1) * mz_z q = mz_z (mz_rs 2 p q k (mz_pl F L e))) := by
  refine ⟨fun e => ?_, fun e => ?_, fun e => ?_⟩
  · have : mz_rs 0 p q k (mz_pl F L e) = (L e).toInt * k - (F (3 * e + 1)).toInt * p - (F (3 * e + 2)).toInt * q := by simp [mz_rs, mz_lx3, mz_pl]
    rw [this, ← mz_zs, ← mz_zs, ← mz_zm, ← mz_zm, ← mz_zm, mz_zt, mz_zt, mz_zt]
  · have : mz_rs 1 p q k (mz_pl F L e) = (L e).toInt * k - (F (3 * e + 0)).toInt * p - (F (3 * e + 2)).toInt * q := by simp [mz_rs, mz_lx3, mz_pl]
    rw [this, ← mz_zs, ← mz_zs, ← mz_zm, ← mz_zm, ← mz_zm, mz_zt, mz_zt, mz_zt]
  · have : mz_rs 2 p q k (mz_pl F L e) = (L e).toInt * k - (F (3 * e + 0)).toInt * p - (F (3 * e + 1)).toInt * q := by simp [mz_rs, mz_lx3, mz_pl]
    rw [this, ← mz_zs, ← mz_zs, ← mz_zm, ← mz_zm, ← mz_zm, mz_zt, mz_zt, mz_zt]
theorem mz_Xline (post : Int32 → Prop) {c ax : Nat} (hc : c ≤ 7) (hx : ax < 3) (co : Int32) (F L T B : Nat → Int32) {p q k : Int} (hp : -400 ≤ p ∧ p ≤ 400) (hq : -400 ≤ q ∧ q ≤ 400) (hk : 1 ≤ k ∧ k ≤ 20)
    (hR : ∀ e, e < 6 + c → mz_R 40 (mz_pl F L e)) (hW : ∀ e, e < 6 → mz_S (mz_pl F L) (mz_gd (6 + c) (-1)) (mz_wl e))
    (h : post (nI (mz_zi (mz_Z (mz_S (mz_pl F L) (mz_gd (6 + c) (-1))) (mz_co ax) (mz_rs ax p q k))))) :
    wpX_lineMeetsBody post (nI c, co, F, L, T, B) (nI ax) (mz_z p) (mz_z q) (mz_z k) := by
  have fin : ∀ A Q : Nat, A < 3 → Q < 3 → (∀ e, L e * mz_z k - F (3 * e + A) * mz_z p - F (3 * e + Q) * mz_z q = mz_z (mz_rs ax p q k (mz_pl F L e))) →
      wX_lineMeetsBody_21 post (nI ax) (mz_z p) (mz_z q) (mz_z k) (nI A) (nI Q) (nI c) co F L T B := by
    intro A Q hA hQ hrest
    have e1 : (-10 : Int32) * mz_z k = mz_z (-(10 * k)) := by
      rw [show (-10 : Int32) = mz_z (-10) by decide, mz_zm, Int.neg_mul]
    have e2 : (10 : Int32) * mz_z k = mz_z (10 * k) := by
      rw [show (10 : Int32) = mz_z 10 by decide, mz_zm]
    refine nm_r e1 (nm_r e2 ?_)
    have := mz_Xl46 post hc hx hA hQ co F L T B hp hq hk hR hW hrest h (6 + c + 1) 0 (-(10 * k)) 1 (10 * k) 1 (by omega) (by omega) (mz_ZI0 fun s ⟨e', h', _⟩ => Nat.not_lt_zero _ h')
    rw [mz_z1] at this
    exact ⟨6 + c + 1, this⟩
  have R := mz_Xrest F L p q k
  have e : ax = 0 ∨ ax = 1 ∨ ax = 2 := by omega
  rcases e with e | e | e <;> subst e
  · exact br_t rfl (br_f (by decide) (fin 1 2 (by omega) (by omega) R.1))
  · exact br_f (by decide) (br_f (by decide) (fin 0 2 (by omega) (by omega) R.2.1))
  · exact br_f (by decide) (br_t rfl (fin 0 1 (by omega) (by omega) R.2.2))
/- a point against the planes -/
theorem mz_Xhas (post : Int32 → Prop) {c : Nat} (hc : c ≤ 7) (co : Int32) (F L T B : Nat → Int32) {x y z k : Int} (hx : -400 ≤ x ∧ x ≤ 400) (hy : -400 ≤ y ∧ y ≤ 400) (hz : -400 ≤ z ∧ z ≤ 400) (hk : 1 ≤ k ∧ k ≤ 20)
    (hR : ∀ e, e < 6 + c → mz_R 40 (mz_pl F L e))
    (h : post (nI (mz_zi (∀ s, mz_S (mz_pl F L) (mz_gd (6 + c) (-1)) s → mz_kp s (x, y, z, k))))) :
    ∀ f e, e ≤ 6 + c → 6 + c - e < f → (∀ e', e' < e → mz_kp (mz_pl F L e') (x, y, z, k)) → wX_has_46 post (mz_z x) (mz_z y) (mz_z z) (mz_z k) (nI c) co F L T B f (nI e) := by
  have e6 : (6 : Int32) + nI c = nI (6 + c) := nI_add 6 c
  intro f
  induction f with
  | zero => intro e _ h; omega
  | succ f ih =>
    intro e he hf hI
    by_cases w : e = 6 + c
    · subst w
      rw [mz_ziT (fun s ⟨e, g, es⟩ => es ▸ hI e g.1)] at h
      exact br_t (by rw [e6]; exact nI_le (Nat.le_refl _) (by omega)) h
    · refine br_f (by rw [e6]; exact nI_ge (by omega) (by omega)) ?_
      have e1 : F (nI (3 * e)).toNatClampNeg * mz_z x + F (nI (3 * e) + 1).toNatClampNeg * mz_z y + F (nI (3 * e) + 2).toNatClampNeg * mz_z z = mz_z (mz_vl (mz_pl F L e) (x, y, z, k)) := by
        rw [nI_1, show nI (3 * e) + 2 = nI (3 * e + 2) from nI_add (3 * e) 2, nI_clamp (by omega), nI_clamp (by omega), nI_clamp (by omega)]
        show _ = mz_z ((F (3 * e)).toInt * x + (F (3 * e + 1)).toInt * y + (F (3 * e + 2)).toInt * z)
        rw [← mz_za, ← mz_za, ← mz_zm, ← mz_zm, ← mz_zm, mz_zt, mz_zt, mz_zt]
      have e2 : L (nI e).toNatClampNeg * mz_z k = mz_z ((mz_pl F L e).2.2.2 * k) := by
        rw [nI_clamp (by omega)]
        show _ = mz_z ((L e).toInt * k)
        rw [← mz_zm, mz_zt]
      have r := hR e (by omega)
      have b1 := mz_mb 4 400 r.1.1 r.1.2 hx.1 hx.2
      have b2 := mz_mb 4 400 r.2.1.1 r.2.1.2 hy.1 hy.2
      have b3 := mz_mb 4 400 r.2.2.1.1 r.2.2.1.2 hz.1 hz.2
      have b4 := mz_mb 40 20 r.2.2.2.1 r.2.2.2.2 (show -((20 : Nat) : Int) ≤ k by omega) (show k ≤ ((20 : Nat) : Int) by omega)
      have b5 : mz_B (mz_vl (mz_pl F L e) (x, y, z, k)) := by unfold mz_vl mz_B; dsimp only; omega
      have cmp := mz_zle b5 (show mz_B ((mz_pl F L e).2.2.2 * k) from ⟨by omega, by omega⟩)
      refine nm_r (mz_i0 e) ⟨vp_in_nI (by omega) (by omega), by rw [nI_1]; exact vp_in_nI (by omega) (by omega), by rw [show nI (3 * e) + 2 = nI (3 * e + 2) from nI_add (3 * e) 2]; exact vp_in_nI (by omega) (by omega), nm_r e1 ⟨vp_in_nI (by omega) (by omega), ?_⟩⟩
      rw [e2]
      by_cases v : mz_kp (mz_pl F L e) (x, y, z, k)
      · exact br_t (cmp.mpr v) (nm_r (nI_1 e) (ih (e + 1) (by omega) (by omega) (lt_s hI v)))
      · rw [mz_ziF (fun q => v (q _ ⟨e, ⟨by omega, mz_nm1 (by omega)⟩, rfl⟩))] at h
        exact br_f (fun q => v (cmp.mp q)) h
