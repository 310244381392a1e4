/- a line against the planes, the reference's -/
theorem mz_Yl171 (post : Int32 → Prop) (J60 : Int32 → Int32 → Int32 → Int32 → Int32 → Prop) (x1 x4 x5 x6 x7 mn : Int32) (cn px py pz un an : Int32) (bt bb : Int64) (sl lm a b c d : Nat → Int32) {o r lt lb ht hb : Int} {e : Nat}
    (ho : -4 ≤ o ∧ o ≤ 4) (hr : -5600 ≤ r ∧ r ≤ 5600) (bd : (-1000000 ≤ lt ∧ lt ≤ 1000000) ∧ (1 ≤ lb ∧ lb ≤ 4) ∧ (-1000000 ≤ ht ∧ ht ≤ 1000000) ∧ (1 ≤ hb ∧ hb ≤ 4))
    (hJ : ∀ lt' lb' ht' hb', ((mz_nh o r ht hb ∧ ht' = r ∧ hb' = o) ∨ (¬ mz_nh o r ht hb ∧ ht' = ht ∧ hb' = hb)) → ((mz_nl o r lt lb ∧ lt' = -r ∧ lb' = -o) ∨ (¬ mz_nl o r lt lb ∧ lt' = lt ∧ lb' = lb)) → J60 (mz_z lt') (mz_z lb') (mz_z ht') (mz_z hb') (nI (e + 1))) :
    wY_shades_171 post J60 x1 x4 x5 x6 x7 (mz_z lt) (mz_z lb) (mz_z ht) (mz_z hb) (nI e) (mz_z r) (mz_z o) cn mn px py pz un an bt bb sl lm a b c d := by
  have q0 := mz_q0 ho
  have q2 := mz_q2 ho hr bd.2.2.1 bd.2.2.2
  have q3 := mz_q3 ho hr bd.1 bd.2.1
  have s : ∀ ht' hb', ((mz_nh o r ht hb ∧ ht' = r ∧ hb' = o) ∨ (¬ mz_nh o r ht hb ∧ ht' = ht ∧ hb' = hb)) →
      wY_shades_197 post J60 x1 x4 x5 x6 x7 (mz_z lt) (mz_z lb) (mz_z ht') (mz_z hb') (nI e) (mz_z r) (mz_z o) cn mn px py pz un an bt bb sl lm a b c d := by
    intro ht' hb' hh
    by_cases y : 0 ≤ o
    · exact br_t (q0.2.2.mpr y) (nm_r (nI_1 e) (hJ lt lb ht' hb' hh (Or.inr ⟨fun z => by have := z.1; omega, rfl, rfl⟩)))
    · refine br_f (fun z => y (q0.2.2.mp z)) ?_
      by_cases x : -r * lb ≤ lt * -o
      · exact br_t (q3.mpr x) (nm_r (nI_1 e) (hJ lt lb ht' hb' hh (Or.inr ⟨fun z => by have := z.2; omega, rfl, rfl⟩)))
      · exact br_f (fun z => x (q3.mp z)) (nm_r (mz_zg r) (nm_r (mz_zg o) (nm_r (nI_1 e) (hJ (-r) (-o) ht' hb' hh (Or.inl ⟨⟨by omega, by omega⟩, rfl, rfl⟩)))))
  by_cases y : o ≤ 0
  · exact br_t (q0.2.1.mpr y) (s ht hb (Or.inr ⟨fun z => by have := z.1; omega, rfl, rfl⟩))
  · refine br_f (fun z => y (q0.2.1.mp z)) ?_
    by_cases x : ht * o ≤ r * hb
    · exact br_t (q2.mpr x) (s ht hb (Or.inr ⟨fun z => by have := z.2; omega, rfl, rfl⟩))
    · exact br_f (fun z => x (q2.mp z)) (s r o (Or.inl ⟨⟨by omega, by omega⟩, rfl, rfl⟩))
theorem mz_Yl60 (post : Int32 → Prop) {m ax : Nat} (hm : m ≤ 13) (hx : ax < 3) (X Y Z : Int32) (cn px py pz un an : Int32) (bt bb : Int64) (sl lm a b c d : Nat → Int32) {p q k : Int} (hp : -400 ≤ p ∧ p ≤ 400) (hq : -400 ≤ q ∧ q ≤ 400) (hk : 1 ≤ k ∧ k ≤ 20)
    (hR : ∀ e, e < m → mz_R 40 (mz_qa a b c d e)) (hW : ∀ e, e < 6 → mz_S (mz_qa a b c d) (mz_ltm m) (mz_wl e))
    (hrest : ∀ e, d e * mz_z k - a e * X - b e * Y - c e * Z = mz_z (mz_rs ax p q k (mz_qa a b c d e)))
    (h : post (nI (mz_zi (mz_Z (mz_S (mz_qa a b c d) (mz_ltm m)) (mz_co ax) (mz_rs ax p q k))))) :
    ∀ f e lt lb ht hb, e ≤ m → m - e < f → mz_ZI (mz_S (mz_qa a b c d) (mz_ltm m)) (fun s => ∃ e', e' < e ∧ mz_qa a b c d e' = s) (mz_co ax) (mz_rs ax p q k) 1000000 lt lb ht hb →
      wY_shades_60 post (nI ax) (mz_z k) X Y Z cn (nI m) px py pz un an bt bb sl lm a b c d f (mz_z lt) (mz_z lb) (mz_z ht) (mz_z hb) (nI e) := by
  have hS : ∀ s, mz_S (mz_qa a b c d) (mz_ltm m) s → mz_R 40 s := fun s ⟨e, g, he⟩ => he ▸ hR e g
  intro f
  induction f with
  | zero => intro e lt lb ht hb _ h; omega
  | succ f ih =>
    intro e lt lb ht hb he hf hI
    have bd := mz_ZIb hI (fun s hs => ⟨mz_cob (hS s hs), mz_rsb (hS s hs) hp hq hk⟩) (by omega)
    by_cases z : e = m
    · subst z
      have fin := mz_ZIe hI (fun s ⟨e, g, he⟩ => ⟨e, g, he⟩) (show 10 * k ≤ 1000000 by omega) ⟨mz_wl (2 * ax + 1), hW _ (by omega), mz_wlo ax p q k hx⟩ ⟨mz_wl (2 * ax), hW _ (by omega), mz_whi ax p q k hx⟩
      have q4 := mz_q4 bd.1 bd.2.1 bd.2.2.1 bd.2.2.2
      refine br_t (nI_le (Nat.le_refl _) (by omega)) ?_
      by_cases y : lt * hb ≤ ht * lb
      · rw [mz_ziT (fin.mp y)] at h
        exact br_f (fun x => by have := q4.2.mp x; omega) h
      · rw [mz_ziF (fun x => y (fin.mpr x))] at h
        exact br_t (q4.2.mpr (by omega)) h
    · refine br_f (nI_ge (by omega) (by omega)) ?_
      refine br_f (nI_ge (b := 13) (by omega) (by decide)) ?_
      have v := vp_in_nI (show e < 13 by omega) (show 13 < 2 ^ 31 by omega)
      have Se : mz_S (mz_qa a b c d) (mz_ltm m) (mz_qa a b c d e) := ⟨e, by unfold mz_ltm; omega, rfl⟩
      have ho := mz_cob (ax := ax) (hR e (by omega))
      have hr := mz_rsb (ax := ax) (hR e (by omega)) hp hq hk
      have q0 := mz_q0 ho
      have q1 := mz_q1 hr
      have ec : (nI e).toNatClampNeg = e := nI_clamp (by omega)
      have e2 : d (nI e).toNatClampNeg * mz_z k - a (nI e).toNatClampNeg * X - b (nI e).toNatClampNeg * Y - c (nI e).toNatClampNeg * Z = mz_z (mz_rs ax p q k (mz_qa a b c d e)) := by
        rw [ec, hrest]
      have fin : wY_shades_157 post (wY_shades_60 post (nI ax) (mz_z k) X Y Z cn (nI m) px py pz un an bt bb sl lm a b c d f) (nI ax) (mz_z k) X Y Z (mz_z lt) (mz_z lb) (mz_z ht) (mz_z hb) (nI e) (mz_z (mz_rs ax p q k (mz_qa a b c d e))) (mz_z (mz_co ax (mz_qa a b c d e))) cn (nI m) px py pz un an bt bb sl lm a b c d := by
        have go : (mz_co ax (mz_qa a b c d e) = 0 → 0 ≤ mz_rs ax p q k (mz_qa a b c d e)) → wY_shades_171 post (wY_shades_60 post (nI ax) (mz_z k) X Y Z cn (nI m) px py pz un an bt bb sl lm a b c d f) (nI ax) (mz_z k) X Y Z (mz_z lt) (mz_z lb) (mz_z ht) (mz_z hb) (nI e) (mz_z (mz_rs ax p q k (mz_qa a b c d e))) (mz_z (mz_co ax (mz_qa a b c d e))) cn (nI m) px py pz un an bt bb sl lm a b c d := by
          intro h0
          refine mz_Yl171 post _ _ _ _ _ _ _ _ _ _ _ _ _ _ _ _ _ _ _ _ _ ho hr bd fun lt' lb' ht' hb' hh hl => ?_
          refine ih (e + 1) lt' lb' ht' hb' (by omega) (by omega) (mz_ZIs hI Se (fun s ⟨e', h', es⟩ => ?_) h0 hh hl)
          rcases Nat.lt_or_ge e' e with g | g
          · exact Or.inl ⟨e', g, es⟩
          · have : e' = e := by omega
            subst this; exact Or.inr es.symm
        by_cases y : mz_co ax (mz_qa a b c d e) = 0
        · refine br_t (q0.1.mpr y) ?_
          by_cases x : 0 ≤ mz_rs ax p q k (mz_qa a b c d e)
          · exact br_t (q1.mpr x) (go fun _ => x)
          · rw [mz_ziF (fun w => x (w.1 _ Se y))] at h
            exact br_f (fun w => x (q1.mp w)) h
        · exact br_f (fun w => y (q0.1.mp w)) (go fun w => absurd w y)
      refine ⟨v, v, v, v, nm_r e2 ?_⟩
      rw [ec]
      have g : ax = 0 ∨ ax = 1 ∨ ax = 2 := by omega
      rcases g with g | g | g <;> subst g
      · have k0 : mz_z (mz_co 0 (mz_qa a b c d e)) = a e := mz_zt (a e)
        rw [k0] at fin
        exact br_t rfl ⟨v, fin⟩
      · have k0 : mz_z (mz_co 1 (mz_qa a b c d e)) = b e := mz_zt (b e)
        rw [k0] at fin
        exact br_f (by decide) (br_t rfl ⟨v, fin⟩)
      · have k0 : mz_z (mz_co 2 (mz_qa a b c d e)) = c e := mz_zt (c e)
        rw [k0] at fin
        exact br_f (by decide) (br_f (by decide) ⟨v, fin⟩)
theorem mz_Yrest (a b c d : Nat → Int32) (p q k : Int) : (∀ e, d e * mz_z k - a e * 0 - b e * mz_z p - c e * mz_z q = mz_z (mz_rs 0 p q k (mz_qa a b c d e))) ∧
    (∀ e, d e * mz_z k - a e * mz_z p - b e * 0 - c e * mz_z q = mz_z (mz_rs 1 p q k (mz_qa a b c d e))) ∧
    (∀ e, d e * mz_z k - a e * mz_z p - b e * mz_z q - c e * 0 = mz_z (mz_rs 2 p q k (mz_qa a b c d e))) := by
  refine ⟨fun e => ?_, fun e => ?_, fun e => ?_⟩
  · show _ = mz_z ((d e).toInt * k - (a e).toInt * 0 - (b e).toInt * p - (c e).toInt * q)
    rw [← mz_zs, ← mz_zs, ← mz_zs, ← mz_zm, ← mz_zm, ← mz_zm, ← mz_zm, mz_zt, mz_zt, mz_zt, mz_zt, mz_z0]
  · show _ = mz_z ((d e).toInt * k - (a e).toInt * p - (b e).toInt * 0 - (c e).toInt * q)
    rw [← mz_zs, ← mz_zs, ← mz_zs, ← mz_zm, ← mz_zm, ← mz_zm, ← mz_zm, mz_zt, mz_zt, mz_zt, mz_zt, mz_z0]
  · show _ = mz_z ((d e).toInt * k - (a e).toInt * p - (b e).toInt * q - (c e).toInt * 0)
    rw [← mz_zs, ← mz_zs, ← mz_zs, ← mz_zm, ← mz_zm, ← mz_zm, ← mz_zm, mz_zt, mz_zt, mz_zt, mz_zt, mz_z0]
theorem mz_Yshades (post : Int32 → Prop) {m ax : Nat} (hm : m ≤ 13) (hx : ax < 3) (cn px py pz un an : Int32) (bt bb : Int64) (sl lm a b c d : Nat → Int32) {p q k : Int} (hp : -400 ≤ p ∧ p ≤ 400) (hq : -400 ≤ q ∧ q ≤ 400) (hk : 1 ≤ k ∧ k ≤ 20)
    (hR : ∀ e, e < m → mz_R 40 (mz_qa a b c d e)) (hW : ∀ e, e < 6 → mz_S (mz_qa a b c d) (mz_ltm m) (mz_wl e))
    (h : post (nI (mz_zi (mz_Z (mz_S (mz_qa a b c d) (mz_ltm m)) (mz_co ax) (mz_rs ax p q k))))) :
    wpY_shades post (cn, nI m, px, py, pz, un, an, bt, bb, sl, lm, a, b, c, d) (nI ax) (mz_z p) (mz_z q) (mz_z k) := by
  have fin : ∀ X Y Z : Int32, (∀ e, d e * mz_z k - a e * X - b e * Y - c e * Z = mz_z (mz_rs ax p q k (mz_qa a b c d e))) → wY_shades_41 post (nI ax) (mz_z k) X Y Z cn (nI m) px py pz un an bt bb sl lm a b c d := by
    intro X Y Z hrest
    have k1 := mz_Yl60 post hm hx X Y Z cn px py pz un an bt bb sl lm a b c d hp hq hk hR hW hrest h (m + 1) 0 (-1000000) 1 1000000 1 (by omega) (by omega) (mz_ZI0 fun s ⟨e', h', _⟩ => Nat.not_lt_zero _ h')
    have c1 : mz_z (-1000000) = -1000000 := by decide
    have c2 : mz_z 1000000 = 1000000 := by decide
    rw [c1, c2] at k1
    have k2 := mz_z1 ▸ k1
    exact ⟨m + 1, k2⟩
  have R := mz_Yrest a b c d p q k
  have e : ax = 0 ∨ ax = 1 ∨ ax = 2 := by omega
  rcases e with e | e | e <;> subst e
  · exact br_t rfl (br_t rfl (br_f (by decide) (fin _ _ _ R.1)))
  · exact br_f (by decide) (br_f (by decide) (br_t rfl (br_f (by decide) (fin _ _ _ R.2.1))))
  · exact br_f (by decide) (br_f (by decide) (br_f (by decide) (br_t rfl (fin _ _ _ R.2.2))))
/- a point against the planes, the reference's -/
theorem mz_Yhas (post : Int32 → SY → Prop) {m : Nat} (hm : m ≤ 13) (cn px py pz un an : Int32) (bt bb : Int64) (sl lm a b c d : Nat → Int32) {x y z k : Int} (hx : -400 ≤ x ∧ x ≤ 400) (hy : -400 ≤ y ∧ y ≤ 400) (hz : -400 ≤ z ∧ z ≤ 400) (hk : 1 ≤ k ∧ k ≤ 20)
    (hR : ∀ e, e < m → mz_R 40 (mz_qa a b c d e))
    (h : post (nI (mz_zi (∀ s, mz_S (mz_qa a b c d) (mz_ltm m) s → mz_kp s (x, y, z, k)))) (cn, nI m, px, py, pz, un, an, bt, bb, sl, lm, a, b, c, d)) :
    ∀ f e, e ≤ m → m - e < f → (∀ e', e' < e → mz_kp (mz_qa a b c d e') (x, y, z, k)) → wY_has_50 post (mz_z x) (mz_z y) (mz_z z) (mz_z k) cn (nI m) px py pz un an bt bb sl lm a b c d f (nI e) := by
  intro f
  induction f with
  | zero => intro e _ h; omega
  | succ f ih =>
    intro e he hf hI
    by_cases w : e = m
    · subst w
      rw [mz_ziT (fun s ⟨e, g, es⟩ => es ▸ hI e g)] at h
      exact br_t (nI_le (Nat.le_refl _) (by omega)) h
    · refine br_f (nI_ge (by omega) (by omega)) ?_
      refine br_f (nI_ge (b := 13) (by omega) (by decide)) ?_
      have v := vp_in_nI (show e < 13 by omega) (show 13 < 2 ^ 31 by omega)
      refine ⟨v, v, v, v, ?_⟩
      rw [nI_clamp (show e < 2 ^ 31 by omega)]
      have e1 : a e * mz_z x + b e * mz_z y + c e * mz_z z = mz_z (mz_vl (mz_qa a b c d e) (x, y, z, k)) := mz_vqt a b c d e (x, y, z, k)
      rw [e1, mz_vdt a b c d e k]
      have r := hR e (by omega)
      have b1 := mz_mb 4 400 r.1.1 r.1.2 hx.1 hx.2
      have b2 := mz_mb 4 400 r.2.1.1 r.2.1.2 hy.1 hy.2
      have b3 := mz_mb 4 400 r.2.2.1.1 r.2.2.1.2 hz.1 hz.2
      have b4 := mz_mb 40 20 r.2.2.2.1 r.2.2.2.2 (show -((20 : Nat) : Int) ≤ k by omega) (show k ≤ ((20 : Nat) : Int) by omega)
      have b5 : mz_B (mz_vl (mz_qa a b c d e) (x, y, z, k)) := by unfold mz_vl mz_B; dsimp only; omega
      have cmp := mz_zle b5 (show mz_B ((mz_qa a b c d e).2.2.2 * k) from ⟨by omega, by omega⟩)
      by_cases u : mz_kp (mz_qa a b c d e) (x, y, z, k)
      · exact br_t (cmp.mpr u) (nm_r (nI_1 e) (ih (e + 1) (by omega) (by omega) (lt_s hI u)))
      · rw [mz_ziF (fun q => u (q _ ⟨e, by unfold mz_ltm; omega, rfl⟩))] at h
        exact br_f (fun q => u (cmp.mp q)) h
/- grids -/
noncomputable def mz_gr (S : mz_P → Prop) (ax i j : Nat) : Nat := mz_zi (mz_Z S (mz_co ax) (mz_rs ax ((i : Int) - 10) ((j : Int) - 10) 1))
theorem mz_st (i : Nat) : mz_z ((i : Int) - 10) + 1 = mz_z (((i + 1 : Nat) : Int) - 10) := by
  rw [← mz_z1, mz_za]; exact congrArg mz_z (by omega)
theorem mz_gn (n i : Nat) (f : Nat → Nat) : n + mz_row f (i + 1) = n + mz_row f i + f i := by
  show n + (mz_row f i + f i) = _
  omega
theorem mz_Xg24 (post : Int32 → Prop) (J14 : Int32 → Int32 → Prop) {N ax i n : Nat} (hN : N ≤ 7) (hx : ax < 3) (hi : i < 21) (co : Int32) (F L T B : Nat → Int32)
    (hR : ∀ e, e < 6 + N → mz_R 40 (mz_pl F L e)) (hW : ∀ e, e < 6 → mz_S (mz_pl F L) (mz_gd (6 + N) (-1)) (mz_wl e))
    (hJ : J14 (nI (n + mz_row (mz_gr (mz_S (mz_pl F L) (mz_gd (6 + N) (-1))) ax i) 21)) (mz_z (((i + 1 : Nat) : Int) - 10))) :
    ∀ f j, j ≤ 21 → 21 - j < f → wX_shadowGrid_24 post J14 (nI ax) (mz_z ((i : Int) - 10)) (nI N) co F L T B f (nI (n + mz_row (mz_gr (mz_S (mz_pl F L) (mz_gd (6 + N) (-1))) ax i) j)) (mz_z ((j : Int) - 10)) := by
  intro f
  induction f with
  | zero => intro j _ h; omega
  | succ f ih =>
    intro j hj hf
    have cmp : (10 : Int32) < mz_z ((j : Int) - 10) ↔ (10 : Int) < (j : Int) - 10 := by
      rw [show (10 : Int32) = mz_z 10 by decide]
      exact mz_zlt ⟨by omega, by omega⟩ ⟨by omega, by omega⟩
    by_cases z : j = 21
    · subst z
      exact br_t (cmp.mpr (by omega)) (nm_r (mz_st i) hJ)
    · refine br_f (fun w => by have := cmp.mp w; omega) ?_
      have k := ih (j + 1) (by omega) (by omega)
      rw [mz_gn] at k
      refine mz_z1 ▸ mz_Xline _ hN hx co F L T B (p := (i : Int) - 10) (q := (j : Int) - 10) (k := 1) (by omega) (by omega) (by omega) hR hW ?_
      by_cases y : mz_Z (mz_S (mz_pl F L) (mz_gd (6 + N) (-1))) (mz_co ax) (mz_rs ax ((i : Int) - 10) ((j : Int) - 10) 1)
      · have e1 : mz_gr (mz_S (mz_pl F L) (mz_gd (6 + N) (-1))) ax i j = 1 := mz_ziT y
        rw [e1] at k
        rw [mz_ziT y]
        exact br_f (by decide) (nm_r (nI_1 _) (nm_r (mz_st j) k))
      · have e1 : mz_gr (mz_S (mz_pl F L) (mz_gd (6 + N) (-1))) ax i j = 0 := mz_ziF y
        rw [e1] at k
        rw [mz_ziF y]
        exact br_t rfl (nm_r (mz_st j) k)
theorem mz_Xg14 (post : Int32 → Prop) {N ax : Nat} (hN : N ≤ 7) (hx : ax < 3) (co : Int32) (F L T B : Nat → Int32)
    (hR : ∀ e, e < 6 + N → mz_R 40 (mz_pl F L e)) (hW : ∀ e, e < 6 → mz_S (mz_pl F L) (mz_gd (6 + N) (-1)) (mz_wl e))
    (hp : post (nI (0 + mz_row (fun i => mz_row (mz_gr (mz_S (mz_pl F L) (mz_gd (6 + N) (-1))) ax i) 21) 21))) :
    ∀ f i, i ≤ 21 → 21 - i < f → wX_shadowGrid_14 post (nI ax) (nI N) co F L T B f (nI (0 + mz_row (fun i => mz_row (mz_gr (mz_S (mz_pl F L) (mz_gd (6 + N) (-1))) ax i) 21) i)) (mz_z ((i : Int) - 10)) := by
  intro f
  induction f with
  | zero => intro i _ h; omega
  | succ f ih =>
    intro i hi hf
    have cmp : (10 : Int32) < mz_z ((i : Int) - 10) ↔ (10 : Int) < (i : Int) - 10 := by
      rw [show (10 : Int32) = mz_z 10 by decide]
      exact mz_zlt ⟨by omega, by omega⟩ ⟨by omega, by omega⟩
    by_cases z : i = 21
    · subst z
      exact br_t (cmp.mpr (by omega)) hp
    · refine br_f (fun w => by have := cmp.mp w; omega) ?_
      have k := ih (i + 1) (by omega) (by omega)
      rw [mz_gn] at k
      have w := mz_Xg24 post _ hN hx (show i < 21 by omega) co F L T B hR hW k 22 0 (by omega) (by omega)
      rw [show mz_z (((0 : Nat) : Int) - 10) = -10 by decide] at w
      exact ⟨22, w⟩
theorem mz_Yg31 (post : Int32 → SY → Prop) (J21 : Int32 → Int32 → Prop) {m ax i n : Nat} (hm : m ≤ 13) (hx : ax < 3) (hi : i < 21) (cn px py pz un an : Int32) (bt bb : Int64) (sl lm a b c d : Nat → Int32)
    (hR : ∀ e, e < m → mz_R 40 (mz_qa a b c d e)) (hW : ∀ e, e < 6 → mz_S (mz_qa a b c d) (mz_ltm m) (mz_wl e))
    (hJ : J21 (nI (n + mz_row (mz_gr (mz_S (mz_qa a b c d) (mz_ltm m)) ax i) 21)) (mz_z (((i + 1 : Nat) : Int) - 10))) :
    ∀ f j, j ≤ 21 → 21 - j < f → wY_shadowGrid_31 post J21 (nI ax) (mz_z ((i : Int) - 10)) cn (nI m) px py pz un an bt bb sl lm a b c d f (nI (n + mz_row (mz_gr (mz_S (mz_qa a b c d) (mz_ltm m)) ax i) j)) (mz_z ((j : Int) - 10)) := by
  intro f
  induction f with
  | zero => intro j _ h; omega
  | succ f ih =>
    intro j hj hf
    have cmp : (11 : Int32) ≤ mz_z ((j : Int) - 10) ↔ (11 : Int) ≤ (j : Int) - 10 := by
      rw [show (11 : Int32) = mz_z 11 by decide]
      exact mz_zle ⟨by omega, by omega⟩ ⟨by omega, by omega⟩
    by_cases z : j = 21
    · subst z
      exact br_t (cmp.mpr (by omega)) (nm_r (mz_st i) hJ)
    · refine br_f (fun w => by have := cmp.mp w; omega) ?_
      have k := ih (j + 1) (by omega) (by omega)
      rw [mz_gn] at k
      refine mz_z1 ▸ mz_Yshades _ hm hx cn px py pz un an bt bb sl lm a b c d (p := (i : Int) - 10) (q := (j : Int) - 10) (k := 1) (by omega) (by omega) (by omega) hR hW ?_
      by_cases y : mz_Z (mz_S (mz_qa a b c d) (mz_ltm m)) (mz_co ax) (mz_rs ax ((i : Int) - 10) ((j : Int) - 10) 1)
      · have e1 : mz_gr (mz_S (mz_qa a b c d) (mz_ltm m)) ax i j = 1 := mz_ziT y
        rw [e1] at k
        rw [mz_ziT y]
        exact br_f (by decide) (nm_r (nI_1 _) (nm_r (mz_st j) k))
      · have e1 : mz_gr (mz_S (mz_qa a b c d) (mz_ltm m)) ax i j = 0 := mz_ziF y
        rw [e1] at k
        rw [mz_ziF y]
        exact br_t rfl (nm_r (mz_st j) k)
theorem mz_Yg21 (post : Int32 → SY → Prop) {m ax : Nat} (hm : m ≤ 13) (hx : ax < 3) (cn px py pz un an : Int32) (bt bb : Int64) (sl lm a b c d : Nat → Int32)
    (hR : ∀ e, e < m → mz_R 40 (mz_qa a b c d e)) (hW : ∀ e, e < 6 → mz_S (mz_qa a b c d) (mz_ltm m) (mz_wl e))
    (hp : post (nI (0 + mz_row (fun i => mz_row (mz_gr (mz_S (mz_qa a b c d) (mz_ltm m)) ax i) 21) 21)) (cn, nI m, px, py, pz, un, an, bt, bb, sl, lm, a, b, c, d)) :
    ∀ f i, i ≤ 21 → 21 - i < f → wY_shadowGrid_21 post (nI ax) cn (nI m) px py pz un an bt bb sl lm a b c d f (nI (0 + mz_row (fun i => mz_row (mz_gr (mz_S (mz_qa a b c d) (mz_ltm m)) ax i) 21) i)) (mz_z ((i : Int) - 10)) := by
  intro f
  induction f with
  | zero => intro i _ h; omega
  | succ f ih =>
    intro i hi hf
    have cmp : (11 : Int32) ≤ mz_z ((i : Int) - 10) ↔ (11 : Int) ≤ (i : Int) - 10 := by
      rw [show (11 : Int32) = mz_z 11 by decide]
      exact mz_zle ⟨by omega, by omega⟩ ⟨by omega, by omega⟩
    by_cases z : i = 21
    · subst z
      exact br_t (cmp.mpr (by omega)) hp
    · refine br_f (fun w => by have := cmp.mp w; omega) ?_
      have k := ih (i + 1) (by omega) (by omega)
      rw [mz_gn] at k
      have w := mz_Yg31 post _ hm hx (show i < 21 by omega) cn px py pz un an bt bb sl lm a b c d hR hW k 22 0 (by omega) (by omega)
      rw [show mz_z (((0 : Nat) : Int) - 10) = -10 by decide] at w
      exact ⟨22, w⟩
