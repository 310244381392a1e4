/- states that the relation allows -/
def mz_sy (N : Nat) (sl lm : Nat → Int32) (v : SY) : Prop := ∃ (mn px py pz un an : Int32) (bt bb : Int64) (a b c d : Nat → Int32), v = (nI N, mn, px, py, pz, un, an, bt, bb, sl, lm, a, b, c, d)
def mz_sx (N : Nat) (F L : Nat → Int32) (u : SX) : Prop := ∃ (co : Int32) (T B : Nat → Int32), u = (nI N, co, F, L, T, B)
theorem mz_syI {N : Nat} {sl lm : Nat → Int32} (mn px py pz un an : Int32) (bt bb : Int64) (a b c d : Nat → Int32) : mz_sy N sl lm (nI N, mn, px, py, pz, un, an, bt, bb, sl, lm, a, b, c, d) := ⟨mn, px, py, pz, un, an, bt, bb, a, b, c, d, rfl⟩
theorem mz_sxI {N : Nat} {F L : Nat → Int32} (co : Int32) (T B : Nat → Int32) : mz_sx N F L (nI N, co, F, L, T, B) := ⟨co, T, B, rfl⟩
theorem mz_unR {ax : Nat} {sg : Int} (hs : sg = 1 ∨ sg = -1) : mz_R 0 (mz_un1 ax sg) := by
  unfold mz_R mz_un1
  dsimp only
  refine ⟨?_, ?_, ?_, by omega, by omega⟩ <;> split <;> omega
/- along an axis -/
theorem mz_Yalong (post : SY → Prop) {N ax : Nat} (hN : N ≤ 7) (hx : ax < 3) {sg : Int} (hs : sg = 1 ∨ sg = -1) (p1 : Int32) (ep : p1 = mz_z sg) (mn px py pz un an : Int32) (bt bb : Int64) (sl lm a b c d : Nat → Int32) (hR : ∀ p, mz_U sl lm N (-1) p → mz_R 40 p)
    (hp : ∀ m px py pz un any T B a b c d, mz_G (mz_C (mz_U sl lm N (-1))) (mz_un1 ax sg) any T B → post (nI N, nI m, px, py, pz, un, nI any, mz_l T, mz_l B, sl, lm, a, b, c, d)) :
    wpY_along post (nI N, mn, px, py, pz, un, an, bt, bb, sl, lm, a, b, c, d) (nI ax) p1 := by
  have e : ax = 0 ∨ ax = 1 ∨ ax = 2 := by omega
  rcases e with e | e | e <;> subst e
  · refine br_t rfl (br_f (by decide) (br_f (by decide) ?_))
    exact mz_Ysearch _ hN (-1) _ _ _ (mz_un1 0 sg) (mz_unR hs) ep mz_z0.symm mz_z0.symm mn px py pz un an bt bb sl lm a b c d hR hp
  · refine br_f (by decide) (br_t rfl (br_f (by decide) ?_))
    exact mz_Ysearch _ hN (-1) _ _ _ (mz_un1 1 sg) (mz_unR hs) mz_z0.symm ep mz_z0.symm mn px py pz un an bt bb sl lm a b c d hR hp
  · refine br_f (by decide) (br_f (by decide) (br_t rfl ?_))
    exact mz_Ysearch _ hN (-1) _ _ _ (mz_un1 2 sg) (mz_unR hs) mz_z0.symm mz_z0.symm ep mn px py pz un an bt bb sl lm a b c d hR hp
/- Euclid -/
theorem mz_Yd20 (post : Int64 → Prop) (cn : Int32) (mn px py pz un an : Int32) (bt bb : Int64) (sl lm a b c d : Nat → Int32) : ∀ f i p q, i ≤ 100 → 100 - i < f → p < 1000000 → q < 1000000 → 1 ≤ mz_eu (100 - i) p q → post (lN (mz_eu (100 - i) p q)) → wY_divisor_20 post cn mn px py pz un an bt bb sl lm a b c d f (lN p) (lN q) (nI i) := by
  intro f
  induction f with
  | zero => intro i p q _ h; omega
  | succ f ih =>
    intro i p q hi hf hp hq h1 h
    by_cases z : i = 100
    · subst z
      refine br_t (nI_le (b := 100) (Nat.le_refl _) (by decide)) ?_
      have e : mz_eu (100 - 100) p q = p := rfl
      rw [e] at h h1
      exact br_t ((lN_le (a := 1) (b := p) (by omega) (by omega)).mpr h1) h
    · refine br_f (nI_ge (b := 100) (by omega) (by decide)) ?_
      obtain ⟨n, en⟩ : ∃ n, 100 - i = n + 1 := ⟨100 - i - 1, by omega⟩
      have en' : 100 - (i + 1) = n := by omega
      rw [en] at h h1
      by_cases y : q = 0
      · subst y
        have e : mz_eu (n + 1) p 0 = mz_eu n p 0 := by
          show (if 0 < 0 then mz_eu n 0 (p % 0) else mz_eu n p 0) = _
          rw [if_neg (by omega)]
        rw [e] at h h1
        exact br_t ((lN_le (a := 0) (b := 0) (by omega) (by omega)).mpr (Nat.le_refl 0)) (nm_r (nI_1 i) (ih (i + 1) p 0 (by omega) (by omega) hp hq (by rw [en']; exact h1) (by rw [en']; exact h)))
      · have e : mz_eu (n + 1) p q = mz_eu n q (p % q) := by
          show (if 0 < q then mz_eu n q (p % q) else mz_eu n p q) = _
          rw [if_pos (by omega)]
        rw [e] at h h1
        have ne : ¬ lN q = 0 := fun w => y ((lN_eq (a := q) (b := 0) (by omega) (by omega)).mp w)
        refine br_f (fun w => y (by have := (lN_le (a := q) (b := 0) (by omega) (by omega)).mp w; omega)) ⟨ne, ?_⟩
        exact nm_r (pk_lRem (by omega) (by omega) (by omega)) (nm_r (nI_1 i) (ih (i + 1) q (p % q) (by omega) (by omega) hq (Nat.lt_of_le_of_lt (Nat.mod_le p q) hp) (by rw [en']; exact h1) (by rw [en']; exact h)))
theorem mz_Ydiv (post : Int64 → Prop) {T B : Int} (hT : -46080 ≤ T ∧ T ≤ 46080) (hB : 1 ≤ B ∧ B ≤ 384) (cn : Int32) (mn px py pz un an : Int32) (bt bb : Int64) (sl lm a b c d : Nat → Int32) (h : post (mz_l (mz_g T B))) : wpY_divisor post (cn, mn, px, py, pz, un, an, bt, bb, sl, lm, a, b, c, d) (mz_l T) (mz_l B) := by
  have e2 : mz_l B = lN B.natAbs := by rw [← mz_ln]; exact congrArg mz_l (by omega)
  have g1 : 1 ≤ mz_eu 100 T.natAbs B.natAbs := by
    rw [mz_eug 9 100 T.natAbs B.natAbs (by omega) (by omega)]
    exact Nat.gcd_pos_of_pos_right _ (by omega)
  rw [← mz_eul hB] at h
  have k := mz_Yd20 post cn mn px py pz un an bt bb sl lm a b c d 101 0 T.natAbs B.natAbs (by omega) (by omega) (by omega) (by omega) g1 h
  rw [e2]
  by_cases z : 0 ≤ T
  · have e1 : mz_l T = lN T.natAbs := by rw [← mz_ln]; exact congrArg mz_l (by omega)
    rw [← e1] at k
    refine br_t ?_ ⟨101, k⟩
    rw [← mz_l0]
    exact (mz_lle ⟨by omega, by omega⟩ ⟨by omega, by omega⟩).mpr z
  · have e1 : -mz_l T = lN T.natAbs := by rw [mz_lg, ← mz_ln]; exact congrArg mz_l (by omega)
    refine br_f ?_ (nm_r e1 ⟨101, k⟩)
    rw [← mz_l0]
    exact fun w => z ((mz_lle ⟨by omega, by omega⟩ ⟨by omega, by omega⟩).mp w)
/- the reach -/
theorem mz_lg1 {g : Int} (h : 1 ≤ g ∧ g ≤ 384) : (1 : Int64) ≤ mz_l g ∧ ¬ mz_l g = 0 := by
  refine ⟨?_, ?_⟩
  · rw [← mz_l1]; exact (mz_lle ⟨by omega, by omega⟩ ⟨by omega, by omega⟩).mpr h.1
  · rw [← mz_l0, mz_leq ⟨by omega, by omega⟩ ⟨by omega, by omega⟩]; omega
theorem mz_UC {N : Nat} {sl lm : Nat → Int32} {w : Int32} (hR : ∀ p, mz_U sl lm N w p → mz_R 40 p) : (∀ t, mz_C (mz_U sl lm N w) t → mz_Q t) ∧ ∀ t, mz_C (mz_U sl lm N w) t → 1 ≤ t.2.2.2 :=
  ⟨fun _ h => mz_CQ hR h, fun _ h => mz_Cun h⟩
theorem mz_YextT (post : Int64 → SY → Prop) {N ax : Nat} (hN : N ≤ 7) (hx : ax < 3) {sg : Int} (hs : sg = 1 ∨ sg = -1) (p1 : Int32) (ep : p1 = mz_z sg) (mn px py pz un an : Int32) (bt bb : Int64) (sl lm a b c d : Nat → Int32) (hR : ∀ p, mz_U sl lm N (-1) p → mz_R 40 p)
    (hE : (∀ t, ¬ mz_C (mz_U sl lm N (-1)) t) → ∀ v, mz_sy N sl lm v → post (-2000000) v)
    (hp : ∀ a b, mz_Rc (mz_C (mz_U sl lm N (-1))) ax sg a b → ∀ v, mz_sy N sl lm v → post (mz_l a) v) :
    wpY_extreme post (nI N, mn, px, py, pz, un, an, bt, bb, sl, lm, a, b, c, d) (nI ax) p1 1 := by
  have i1 := mz_lc (nI ax) 0 0 (by decide)
  have i2 := mz_lc (nI ax) 2 2 (by decide)
  have i3 := nI_toInt (n := ax) (by omega)
  refine br_f (fun w => by have := i1.1.mp w; omega) (br_t (i2.2.2.1.mpr (by omega)) ?_)
  refine mz_Yalong _ hN hx hs p1 ep mn px py pz un an bt bb sl lm a b c d hR fun m px py pz un any T B a b c d hG => ?_
  have hu := mz_UC hR
  rcases mz_Gan hG with e | e
  · subst e
    exact br_t rfl (br_f (by decide) (hE ((mz_Ge hG).mp rfl) _ (mz_syI _ _ _ _ _ _ _ _ _ _ _ _)))
  · subst e
    have bb' := mz_GB hG (by decide) (mz_unR hs) hu.1 hu.2
    have g := mz_g1 (a := T) bb'.2
    have gl := mz_lg1 g
    have hb : mz_Bst (mz_C (mz_U sl lm N (-1))) (mz_un1 ax sg) T B := hG.elim (fun x => absurd x.1 (by decide)) (fun x => x.2)
    have hrc := mz_Grc hs hx hb
    refine br_f (by decide) ?_
    refine mz_Ydiv _ bb'.1 bb'.2 (nI N) (nI m) px py pz un (nI 1) (mz_l T) (mz_l B) sl lm a b c d ?_
    refine br_t gl.1 ?_
    have e1 : p1.toInt64 * mz_l T / mz_l (mz_g T B) = mz_l ((sg * T).tdiv (mz_g T B)) := by
      rw [ep, mz_zL (x := sg) ⟨by omega, by omega⟩, mz_lm, mz_ld]
      · rcases hs with z | z <;> subst z <;> exact ⟨by omega, by omega⟩
      · exact ⟨by omega, by omega⟩
      · omega
    refine br_f (by decide) ⟨gl.2, ?_⟩
    rw [e1]
    exact hp _ _ hrc _ (mz_syI _ _ _ _ _ _ _ _ _ _ _ _)
theorem mz_YextB (post : Int64 → SY → Prop) {N ax : Nat} (hN : N ≤ 7) (hx : ax < 3) {sg : Int} (hs : sg = 1 ∨ sg = -1) (p1 : Int32) (ep : p1 = mz_z sg) (mn px py pz un an : Int32) (bt bb : Int64) (sl lm a b c d : Nat → Int32) (hR : ∀ p, mz_U sl lm N (-1) p → mz_R 40 p)
    (hE : (∀ t, ¬ mz_C (mz_U sl lm N (-1)) t) → ∀ v, mz_sy N sl lm v → post 0 v)
    (hp : ∀ a b, mz_Rc (mz_C (mz_U sl lm N (-1))) ax sg a b → ∀ v, mz_sy N sl lm v → post (mz_l b) v) :
    wpY_extreme post (nI N, mn, px, py, pz, un, an, bt, bb, sl, lm, a, b, c, d) (nI ax) p1 0 := by
  have i1 := mz_lc (nI ax) 0 0 (by decide)
  have i2 := mz_lc (nI ax) 2 2 (by decide)
  have i3 := nI_toInt (n := ax) (by omega)
  refine br_f (fun w => by have := i1.1.mp w; omega) (br_t (i2.2.2.1.mpr (by omega)) ?_)
  refine mz_Yalong _ hN hx hs p1 ep mn px py pz un an bt bb sl lm a b c d hR fun m px py pz un any T B a b c d hG => ?_
  have hu := mz_UC hR
  rcases mz_Gan hG with e | e
  · subst e
    exact br_t rfl (br_t rfl (hE ((mz_Ge hG).mp rfl) _ (mz_syI _ _ _ _ _ _ _ _ _ _ _ _)))
  · subst e
    have bb' := mz_GB hG (by decide) (mz_unR hs) hu.1 hu.2
    have g := mz_g1 (a := T) bb'.2
    have gl := mz_lg1 g
    have hb : mz_Bst (mz_C (mz_U sl lm N (-1))) (mz_un1 ax sg) T B := hG.elim (fun x => absurd x.1 (by decide)) (fun x => x.2)
    have hrc := mz_Grc hs hx hb
    refine br_f (by decide) ?_
    refine mz_Ydiv _ bb'.1 bb'.2 (nI N) (nI m) px py pz un (nI 1) (mz_l T) (mz_l B) sl lm a b c d ?_
    refine br_t gl.1 ?_
    have e1 : mz_l B / mz_l (mz_g T B) = mz_l (B.tdiv (mz_g T B)) := mz_ld ⟨by omega, by omega⟩ ⟨by omega, by omega⟩ (by omega)
    refine br_t rfl ⟨gl.2, ?_⟩
    rw [e1]
    exact hp _ _ hrc _ (mz_syI _ _ _ _ _ _ _ _ _ _ _ _)
theorem mz_Ytow (post : SY → Prop) {N D : Nat} (hN : N ≤ 7) (w x y : Int32) (hs : mz_R D (mz_dc x y)) (mn px py pz un an : Int32) (bt bb : Int64) (sl lm a b c d : Nat → Int32) (hR : ∀ p, mz_U sl lm N w p → mz_R 40 p)
    (hp : ∀ m px py pz un any T B a b c d, mz_G (mz_C (mz_U sl lm N w)) (mz_dc x y) any T B → post (nI N, nI m, px, py, pz, un, nI any, mz_l T, mz_l B, sl, lm, a, b, c, d)) :
    wpY_toward post (nI N, mn, px, py, pz, un, an, bt, bb, sl, lm, a, b, c, d) w x :=
  ⟨by decide, by decide, by decide, by decide, mz_Ysearch _ hN w _ _ _ (mz_dc x y) hs (mz_zt _).symm (mz_zt _).symm (mz_zt _).symm mn px py pz un an bt bb sl lm a b c d hR hp⟩
/- one point, the reference's -/
def mz_nw (C : mz_P → Prop) (ax : Nat) : Prop := (∃ t, C t) ∧ ∀ t t', C t → C t' → mz_co ax t * t'.2.2.2 = mz_co ax t' * t.2.2.2
theorem mz_Ynar (post : Int32 → SY → Prop) {N ax : Nat} (hN : N ≤ 7) (hx : ax < 3) (mn px py pz un an : Int32) (bt bb : Int64) (sl lm a b c d : Nat → Int32) (hR : ∀ p, mz_U sl lm N (-1) p → mz_R 40 p)
    (hT : mz_nw (mz_C (mz_U sl lm N (-1))) ax → ∀ v, mz_sy N sl lm v → post 1 v) (hF : ¬ mz_nw (mz_C (mz_U sl lm N (-1))) ax → ∀ v, mz_sy N sl lm v → post 0 v) :
    wpY_narrow post (nI N, mn, px, py, pz, un, an, bt, bb, sl, lm, a, b, c, d) (nI ax) := by
  have hu := mz_UC hR
  unfold wpY_narrow
  dsimp only
  refine mz_Yalong _ hN hx (Or.inl rfl) 1 mz_z1.symm mn px py pz un an bt bb sl lm a b c d hR fun m px py pz un any T B a b c d hG => ?_
  dsimp only
  refine mz_Yalong _ hN hx (Or.inr rfl) (-1) mz_zm1.symm _ _ _ _ _ _ _ _ sl lm _ _ _ _ hR fun m' px' py' pz' un' any' T' B' a' b' c' d' hG' => ?_
  dsimp only
  have k := mz_Gone hx hu.2 hG hG'
  rcases mz_Gan hG' with e | e
  · subst e
    exact br_t rfl (hF (fun z => (k.mpr z).1 rfl) _ (mz_syI _ _ _ _ _ _ _ _ _ _ _ _))
  · subst e
    refine br_f (by decide) ?_
    have hne : any ≠ 0 := by
      intro z
      have h1 := (mz_Ge hG).mp z
      have h2 := (mz_Ge hG').mpr h1
      omega
    have b1 := mz_GB hG hne (mz_unR (Or.inl rfl)) hu.1 hu.2
    have b2 := mz_GB hG' (by decide) (mz_unR (Or.inr rfl)) hu.1 hu.2
    have m1 := mz_mb 46080 384 b1.1.1 b1.1.2 (show -((384 : Nat) : Int) ≤ B' by omega) (show B' ≤ ((384 : Nat) : Int) by omega)
    have m2 := mz_mb 46080 384 (show -((46080 : Nat) : Int) ≤ -T' by omega) (show -T' ≤ ((46080 : Nat) : Int) by omega) (show -((384 : Nat) : Int) ≤ B by omega) (show B ≤ ((384 : Nat) : Int) by omega)
    have cmp : mz_l T * mz_l B' = -mz_l T' * mz_l B ↔ T * B' = -T' * B := by
      rw [mz_lg, mz_lm, mz_lm]
      exact mz_leq ⟨by omega, by omega⟩ ⟨by omega, by omega⟩
    by_cases z : T * B' = -T' * B
    · exact br_t (cmp.mpr z) (hT (k.mp ⟨by decide, z⟩) _ (mz_syI _ _ _ _ _ _ _ _ _ _ _ _))
    · exact br_f (fun q => z (cmp.mp q)) (hF (fun q => z (k.mpr q).2) _ (mz_syI _ _ _ _ _ _ _ _ _ _ _ _))
theorem mz_Ysingle (post : Int32 → SY → Prop) {N : Nat} (hN : N ≤ 7) (mn px py pz un an : Int32) (bt bb : Int64) (sl lm a b c d : Nat → Int32) (hR : ∀ p, mz_U sl lm N (-1) p → mz_R 40 p)
    (hp : ∀ v, mz_sy N sl lm v → post (nI (mz_zi (mz_one (mz_C (mz_U sl lm N (-1)))))) v) :
    wpY_single post (nI N, mn, px, py, pz, un, an, bt, bb, sl, lm, a, b, c, d) := by
  have no : ∀ ax, ax < 3 → ¬ mz_nw (mz_C (mz_U sl lm N (-1))) ax → ∀ v, mz_sy N sl lm v → post 0 v := by
    intro ax hx hn v hv
    have := hp v hv
    rw [mz_ziF (fun z => hn ⟨z.1, z.2 ax hx⟩)] at this
    exact this
  unfold wpY_single
  dsimp only
  refine mz_Ynar _ hN (ax := 0) (by omega) mn px py pz un an bt bb sl lm a b c d hR (fun h0 v hv => ?_) (fun h v hv => ?_)
  · obtain ⟨mn, px, py, pz, un, an, bt, bb, a, b, c, d, rfl⟩ := hv
    refine br_f (by decide) ?_
    refine mz_Ynar _ hN (ax := 1) (by omega) mn px py pz un an bt bb sl lm a b c d hR (fun h1 v hv => ?_) (fun h v hv => ?_)
    · obtain ⟨mn, px, py, pz, un, an, bt, bb, a, b, c, d, rfl⟩ := hv
      refine br_f (by decide) ?_
      refine mz_Ynar _ hN (ax := 2) (by omega) mn px py pz un an bt bb sl lm a b c d hR (fun h2 v hv => ?_) (fun h v hv => ?_)
      · obtain ⟨mn, px, py, pz, un, an, bt, bb, a, b, c, d, rfl⟩ := hv
        refine br_f (by decide) ?_
        have := hp _ (mz_syI mn px py pz un an bt bb a b c d)
        rw [mz_ziT ⟨h0.1, mz_all3 h0.2 h1.2 h2.2⟩] at this
        exact this
      · obtain ⟨mn, px, py, pz, un, an, bt, bb, a, b, c, d, rfl⟩ := hv
        exact br_t rfl (no 2 (by omega) h _ (mz_syI _ _ _ _ _ _ _ _ _ _ _ _))
    · obtain ⟨mn, px, py, pz, un, an, bt, bb, a, b, c, d, rfl⟩ := hv
      exact br_t rfl (no 1 (by omega) h _ (mz_syI _ _ _ _ _ _ _ _ _ _ _ _))
  · obtain ⟨mn, px, py, pz, un, an, bt, bb, a, b, c, d, rfl⟩ := hv
    exact br_t rfl (no 0 (by omega) h _ (mz_syI _ _ _ _ _ _ _ _ _ _ _ _))
