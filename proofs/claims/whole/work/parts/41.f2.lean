/- the least limit -/
theorem mz_stp (i : Nat) (k : Int) : mz_z ((i : Int) - k) + 1 = mz_z (((i + 1 : Nat) : Int) - k) := by
  rw [← mz_z1, mz_za]; exact congrArg mz_z (by omega)
theorem mz_Xs30 (post : Int32 → SX → Prop) {N n s : Nat} {sl lm : Nat → Int32} {C : mz_P → Prop} (hN : N ≤ 7) (hn : n ≤ 286) (hs : s < 729) (T B : Nat → Int32) (hF : mz_F C (mz_pl T B) n) (hQ : ∀ t, C t → mz_Q t)
    (h120 : ∀ t, C t → mz_vl (mz_dc (nI s) 0) t ≤ 120 * t.2.2.2)
    (hp : ∀ r F' L' u, mz_Sup C (mz_dc (nI s) 0) r → mz_rel N F' L' sl lm → mz_sx N F' L' u → post (mz_z r) u) :
    ∀ (f i : Nat) (F L : Nat → Int32), i ≤ 240 → 240 - i < f → mz_rel N F L sl lm → (¬ ∀ t, C t → mz_vl (mz_dc (nI s) 0) t ≤ ((i : Int) - 121) * t.2.2.2) → wX_support_30 post (nI s) f (mz_z ((i : Int) - 120)) (nI N) (nI n) F L T B := by
  intro f
  induction f with
  | zero => intro i F L _ h; omega
  | succ f ih =>
    intro i F L hi hf hr hno
    have cmp : (120 : Int32) ≤ mz_z ((i : Int) - 120) ↔ (120 : Int) ≤ (i : Int) - 120 := by
      rw [show (120 : Int32) = mz_z 120 by decide]
      exact mz_zle ⟨by omega, by omega⟩ ⟨by omega, by omega⟩
    by_cases z : i = 240
    · subst z
      refine br_t (cmp.mpr (by omega)) ?_
      have := hp 120 F L _ (mz_Sup2 h120 hno) hr (mz_sxI (nI n) T B)
      rw [show mz_z 120 = 120 by decide] at this
      exact this
    · refine br_f (fun w => by have := cmp.mp w; omega) ?_
      have ey : (mz_z ((i : Int) - 120)).toInt = (i : Int) - 120 := mz_ti ⟨by omega, by omega⟩
      generalize mz_z ((i : Int) - 120) = y at *
      refine mz_XsetPlane _ 13 (by omega) (nI N) (nI n) F L T B (nI s) y ?_
      dsimp only
      have hr' : mz_rel N (upd (upd (upd F (3 * 13) (nI s / 81 - 4)) (3 * 13 + 1) (nI s / 9 - nI s / 9 / 9 * 9 - 4)) (3 * 13 + 2) (nI s - nI s / 9 * 9 - 4)) (upd L 13 y) sl lm := mz_relC hr fun e he => mz_plN (by omega)
      have hpl : mz_pl (upd (upd (upd F (3 * 13) (nI s / 81 - 4)) (3 * 13 + 1) (nI s / 9 - nI s / 9 / 9 * 9 - 4)) (3 * 13 + 2) (nI s - nI s / 9 * 9 - 4)) (upd L 13 y) 13 = mz_dc (nI s) y := mz_plS
      have k := mz_Fk hF (fun t => mz_kp (mz_dc (nI s) y) t)
      have ek : (∀ t, C t → mz_kp (mz_dc (nI s) y) t) ↔ ∀ t, C t → mz_vl (mz_dc (nI s) 0) t ≤ ((i : Int) - 120) * t.2.2.2 := by
        rw [← ey]; exact Iff.rfl
      refine mz_Xck _ (p := 13) hn (by decide) _ _ T B (by rw [hpl]; exact mz_dcR hs (by omega) (by omega)) (fun e he => hQ _ (hF.1 e he)) (fun h => ?_) (fun h => ?_)
      · rw [hpl] at h
        have sup : mz_Sup C (mz_dc (nI s) 0) ((i : Int) - 120) := mz_Sup2 (ek.mp (k.mp h)) (by rw [show (i : Int) - 120 - 1 = (i : Int) - 121 by omega]; exact hno)
        have := hp _ _ _ _ sup hr' (mz_sxI (nI n) T B)
        rw [← ey, mz_zt] at this
        exact br_f (by decide) this
      · rw [hpl] at h
        have no : ¬ ∀ t, C t → mz_vl (mz_dc (nI s) 0) t ≤ (((i + 1 : Nat) : Int) - 121) * t.2.2.2 := by
          rw [show ((i + 1 : Nat) : Int) - 121 = (i : Int) - 120 by omega]
          exact fun w => h (k.mpr (ek.mpr w))
        have st : y + 1 = mz_z (((i + 1 : Nat) : Int) - 120) := by
          rw [← mz_stp, ← ey, mz_zt]
        exact br_t rfl (nm_r st (ih (i + 1) _ _ (by omega) (by omega) hr' no))
theorem mz_Xsup (post : Int32 → SX → Prop) {N s : Nat} {F L sl lm : Nat → Int32} (hr : mz_rel N F L sl lm) (hs : s < 729) (co : Int32) (T B : Nat → Int32)
    (hE : (∀ t, ¬ mz_C (mz_U sl lm N (-1)) t) → ∀ u, mz_sx N F L u → post (-2000) u)
    (hp : ∀ r F' L' u, mz_Sup (mz_C (mz_U sl lm N (-1))) (mz_dc (nI s) 0) r → mz_rel N F' L' sl lm → mz_sx N F' L' u → post (mz_z r) u) : wpX_support post (nI N, co, F, L, T, B) (nI s) := by
  have hN := hr.1
  have es := nI_toInt (n := s) (by omega)
  have hu := mz_UC (w := -1) (mz_UR hr)
  unfold wpX_support
  dsimp only
  refine mz_XisSlope _ (nI s) (fun _ => ?_) (fun z => absurd ⟨by omega, by omega⟩ z)
  refine br_f (by decide) ?_
  refine mz_Xfind _ hN co F L T B (-1) (mz_relR hr) fun n T' B' hn hF => ?_
  rw [mz_U1 hr] at hF
  dsimp only
  by_cases z : n = 0
  · subst z
    exact br_t rfl (hE ((mz_Fe hF).mp rfl) _ (mz_sxI _ _ _))
  · refine br_f (nI_ne0 (by omega) (by omega)) ?_
    have b120 : ∀ t, mz_C (mz_U sl lm N (-1)) t → _ := fun t ht => mz_120 (s := mz_dc (nI s) 0) (D := 0) mz_Uw (mz_dcR hs (by decide) (by decide)) ht
    have k := mz_Xs30 post hN hn hs T' B' hF hu.1 (fun t ht => (b120 t ht).2) hp 241 0 F L (by omega) (by omega) hr (fun w => by
      have c0 := hF.1 0 (by omega)
      have h1 := w _ c0
      have h2 := (b120 _ c0).1
      have h3 := hu.2 _ c0
      omega)
    rw [show mz_z (((0 : Nat) : Int) - 120) = -120 by decide] at k
    exact ⟨241, k⟩
theorem mz_Ys33 (post : Int32 → SY → Prop) {T B : Int} (hT : -46080 ≤ T ∧ T ≤ 46080) (hB : 1 ≤ B ∧ B ≤ 384) (h120 : T ≤ 120 * B) (cn mn px py pz un an : Int32) (sl lm a b c d : Nat → Int32)
    (hp : ∀ r, T ≤ r * B → ¬ T ≤ (r - 1) * B → post (mz_z r) (cn, mn, px, py, pz, un, an, mz_l T, mz_l B, sl, lm, a, b, c, d)) :
    ∀ f i : Nat, i ≤ 2000 → 2000 - i < f → ¬ T ≤ ((i : Int) - 1001) * B → wY_support_33 post cn mn px py pz un an (mz_l T) (mz_l B) sl lm a b c d f (mz_z ((i : Int) - 1000)) := by
  intro f
  induction f with
  | zero => intro i _ h; omega
  | succ f ih =>
    intro i hi hf hno
    have cmp : (1000 : Int32) ≤ mz_z ((i : Int) - 1000) ↔ (1000 : Int) ≤ (i : Int) - 1000 := by
      rw [show (1000 : Int32) = mz_z 1000 by decide]
      exact mz_zle ⟨by omega, by omega⟩ ⟨by omega, by omega⟩
    by_cases z : i = 2000
    · subst z
      omega
    · refine br_f (fun w => by have := cmp.mp w; omega) ?_
      have eL : (mz_z ((i : Int) - 1000)).toInt64 = mz_l ((i : Int) - 1000) := mz_zL ⟨by omega, by omega⟩
      rw [eL]
      have c2 := (mz_lcm2 hT hB (show -1000 ≤ (i : Int) - 1000 ∧ (i : Int) - 1000 ≤ 1000 by omega)).2
      by_cases y : T ≤ ((i : Int) - 1000) * B
      · exact br_t (c2.mpr y) (hp _ y (by rw [show (i : Int) - 1000 - 1 = (i : Int) - 1001 by omega]; exact hno))
      · exact br_f (fun w => y (c2.mp w)) (nm_r (mz_stp i 1000) (ih (i + 1) (by omega) (by omega) (by rw [show ((i + 1 : Nat) : Int) - 1001 = (i : Int) - 1000 by omega]; exact y)))
theorem mz_Ysup (post : Int32 → SY → Prop) {N s : Nat} (hN : N ≤ 7) (hs : s < 729) (mn px py pz un an : Int32) (bt bb : Int64) (sl lm a b c d : Nat → Int32) (hR : ∀ p, mz_U sl lm N (-1) p → mz_R 40 p)
    (hE : (∀ t, ¬ mz_C (mz_U sl lm N (-1)) t) → ∀ v, mz_sy N sl lm v → post (-2000) v)
    (hp : ∀ r v, mz_Sup (mz_C (mz_U sl lm N (-1))) (mz_dc (nI s) 0) r → mz_sy N sl lm v → post (mz_z r) v) : wpY_support post (nI N, mn, px, py, pz, un, an, bt, bb, sl, lm, a, b, c, d) (nI s) := by
  have hu := mz_UC hR
  have es := nI_toInt (n := s) (by omega)
  have hs' : mz_R 0 (mz_dc (nI s) 0) := mz_dcR hs (by decide) (by decide)
  unfold wpY_support
  dsimp only
  refine mz_YbadSlope _ _ (nI s) (fun _ => ?_) (fun z => absurd ⟨by omega, by omega⟩ z)
  refine br_t rfl ?_
  refine mz_Ytow _ hN (-1) (nI s) 0 hs' mn px py pz un an bt bb sl lm a b c d hR fun m px py pz un any T B a b c d hG => ?_
  dsimp only
  rcases mz_Gan hG with e | e
  · subst e
    exact br_t rfl (hE ((mz_Ge hG).mp rfl) _ (mz_syI _ _ _ _ _ _ _ _ _ _ _ _))
  · subst e
    refine br_f (by decide) ?_
    have bd := mz_GB hG (by decide) hs' hu.1 hu.2
    have kk : ∀ r : Int, (∀ t, mz_C (mz_U sl lm N (-1)) t → mz_vl (mz_dc (nI s) 0) t ≤ r * t.2.2.2) ↔ T ≤ r * B := by
      intro r
      have := mz_Gk hu.2 hG r
      exact ⟨fun w => (this.mp w).resolve_left (by decide), fun w => this.mpr (Or.inr w)⟩
    have b120 : ∀ t, mz_C (mz_U sl lm N (-1)) t → _ := fun t ht => mz_120 (s := mz_dc (nI s) 0) (D := 0) mz_Uw hs' ht
    have h120 := (kk 120).mp fun t ht => (b120 t ht).2
    have low : ¬ T ≤ -1001 * B := by
      intro w
      have w' := (kk (-1001)).mpr w
      obtain ⟨t, ht, _⟩ : mz_Bst (mz_C (mz_U sl lm N (-1))) (mz_dc (nI s) 0) T B := hG.elim (fun x => absurd x.1 (by decide)) (fun x => x.2)
      have h1 := w' t ht
      have h2 := (b120 t ht).1
      have h3 := hu.2 t ht
      omega
    have k := mz_Ys33 post bd.1 bd.2 h120 (nI N) (nI m) px py pz un (nI 1) sl lm a b c d (fun r h1 h2 => hp r _ (mz_Sup2 ((kk r).mpr h1) (fun w => h2 ((kk (r - 1)).mp w))) (mz_syI _ _ _ _ _ _ _ _ _ _ _ _)) 2001 0 (by omega) (by omega) (by omega)
    rw [show mz_z (((0 : Nat) : Int) - 1000) = -1000 by decide] at k
    exact ⟨2001, k⟩
/- one point, the component's -/
theorem mz_Xsingle (post : Int32 → SX → Prop) {N : Nat} {F L sl lm : Nat → Int32} (hr : mz_rel N F L sl lm) (co : Int32) (T B : Nat → Int32)
    (hp : ∀ u, mz_sx N F L u → post (nI (mz_zi (mz_one (mz_C (mz_U sl lm N (-1)))))) u) : wpX_single post (nI N, co, F, L, T, B) := by
  have hu := mz_UC (w := -1) (mz_UR hr)
  unfold wpX_single
  dsimp only
  refine mz_Xfind _ hr.1 co F L T B (-1) (mz_relR hr) fun n T' B' hn hF => ?_
  rw [mz_U1 hr] at hF
  dsimp only
  have h := hp _ (mz_sxI (nI n) T' B')
  by_cases z : n = 0
  · rw [mz_ziF (fun y => y.1.elim fun t ht => (mz_Fe hF).mp z t ht)] at h
    subst z
    exact br_t rfl h
  · refine br_f (nI_ne0 (by omega) (by omega)) ?_
    have k := mz_Fone hu.2 hF (by omega)
    refine ⟨n + 1, mz_Xs16 post hn F L T' B' (fun e he => hu.1 _ (hF.1 e he)) (fun w => ?_) (fun w => ?_) (n + 1) 1 (by omega) (by omega) (fun e' h' ax _ => ?_)⟩
    · rw [mz_ziT (k.mp w)] at h; exact h
    · rw [mz_ziF (fun y => w (k.mpr y))] at h; exact h
    · have : e' = 0 := by omega
      subst this; rfl
