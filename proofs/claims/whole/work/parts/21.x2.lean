/- finding the corners: three loops -/
theorem mz_Xf37 (post : SX → Prop) (J15 J25 : Int32 → Int32 → Int32 → (Nat → Int32) → (Nat → Int32) → (Nat → Int32) → (Nat → Int32) → Prop) {c i j : Nat} (hc : c ≤ 7) (F L : Nat → Int32) (w : Int32)
    (hR : ∀ e, e < 6 + c → mz_R 40 (mz_pl F L e)) (hi : i < j) (hj : j < 6 + c) (M : Nat)
    (hJ : ∀ n T B, n ≤ M → mz_XI (mz_pl F L) (6 + c) w i (j + 1) 0 n (mz_pl T B) → J25 (nI (j + 1)) (nI c) (nI n) F L T B) (hM : M ≤ 286) :
    ∀ f k n T B, j < k → k ≤ 6 + c → 6 + c - k < f → n + (6 + c - k) ≤ M → mz_XI (mz_pl F L) (6 + c) w i j k n (mz_pl T B) →
      wX_findCorners_37 post J15 J25 w (nI (6 + c)) (nI i) (nI j) f (nI k) (nI c) (nI n) F L T B := by
  intro f
  induction f with
  | zero => intro k n T B _ _ h; omega
  | succ f ih =>
    intro k n T B hjk hk hf hn hI
    by_cases z : k = 6 + c
    · subst z
      exact br_t (nI_le (Nat.le_refl _) (by omega)) (nm_r (nI_1 j) (hJ n T B (by omega) (mz_X2 hI (Nat.le_refl _))))
    · refine br_f (nI_ge (by omega) (by omega)) ?_
      by_cases a : nI i = w
      · exact br_t a (nm_r (nI_1 k) (ih (k + 1) n T B (by omega) (by omega) (by omega) (by omega) (mz_X5 hI fun g => g.1.2 a)))
      · refine br_f a ?_
        by_cases b : nI j = w
        · exact br_t b (nm_r (nI_1 k) (ih (k + 1) n T B (by omega) (by omega) (by omega) (by omega) (mz_X5 hI fun g => g.2.1.2 b)))
        · refine br_f b ?_
          by_cases d : nI k = w
          · exact br_t d (nm_r (nI_1 k) (ih (k + 1) n T B (by omega) (by omega) (by omega) (by omega) (mz_X5 hI fun g => g.2.2.2 d)))
          · refine br_f d ?_
            refine mz_Xtry _ hc (by omega) (by omega) hj (by omega) F L T B w hR (fun T' B' he h0 hy => ?_) (fun T' B' he hno => ?_)
            · exact nm_r (nI_1 k) (ih (k + 1) (n + 1) T' B' (by omega) (by omega) (by omega) (by omega) (mz_X7 hI ⟨by omega, a⟩ ⟨hj, b⟩ ⟨by omega, d⟩ he h0 hy))
            · exact nm_r (nI_1 k) (ih (k + 1) n T' B' (by omega) (by omega) (by omega) (by omega) (mz_X6 hI he hno))
theorem mz_Xf25 (post : SX → Prop) (J15 : Int32 → Int32 → Int32 → (Nat → Int32) → (Nat → Int32) → (Nat → Int32) → (Nat → Int32) → Prop) {c i : Nat} (hc : c ≤ 7) (F L : Nat → Int32) (w : Int32)
    (hR : ∀ e, e < 6 + c → mz_R 40 (mz_pl F L e)) (hi : i < 6 + c) (M : Nat)
    (hJ : ∀ n T B, n ≤ M → mz_XI (mz_pl F L) (6 + c) w (i + 1) 0 0 n (mz_pl T B) → J15 (nI (i + 1)) (nI c) (nI n) F L T B) (hM : M ≤ 286) :
    ∀ f j n T B, i < j → j ≤ 6 + c → 6 + c - j < f → n + mz_tri (6 + c - j) ≤ M → mz_XI (mz_pl F L) (6 + c) w i j 0 n (mz_pl T B) →
      wX_findCorners_25 post J15 w (nI (6 + c)) (nI i) f (nI j) (nI c) (nI n) F L T B := by
  intro f
  induction f with
  | zero => intro j n T B _ _ h; omega
  | succ f ih =>
    intro j n T B hij hj hf hn hI
    by_cases z : j = 6 + c
    · subst z
      exact br_t (nI_le (Nat.le_refl _) (by omega)) (nm_r (nI_1 i) (hJ n T B (by omega) (mz_X4 hI (Nat.le_refl _))))
    · refine br_f (nI_ge (by omega) (by omega)) (nm_r (nI_1 j) ?_)
      have t := mz_tri1 (show j < 6 + c by omega)
      refine ⟨6 + c + 1, mz_Xf37 post J15 _ hc F L w hR hij (by omega) (M - mz_tri (6 + c - (j + 1))) (fun n' T' B' h' hI' => ?_) (by omega) (6 + c + 1) (j + 1) n T B (by omega) (by omega) (by omega) (by omega) (mz_X1 hI)⟩
      exact ih (j + 1) n' T' B' (by omega) (by omega) (by omega) (by omega) hI'
theorem mz_Xf15 (post : SX → Prop) {c : Nat} (hc : c ≤ 7) (F L : Nat → Int32) (w : Int32)
    (hR : ∀ e, e < 6 + c → mz_R 40 (mz_pl F L e))
    (hp : ∀ n T B, n ≤ 286 → mz_F (mz_C (mz_S (mz_pl F L) (mz_gd (6 + c) w))) (mz_pl T B) n → post (nI c, nI n, F, L, T, B)) :
    ∀ f i n T B, i ≤ 6 + c → 6 + c - i < f → n + mz_tet (6 + c - i) ≤ 286 → mz_XI (mz_pl F L) (6 + c) w i 0 0 n (mz_pl T B) →
      wX_findCorners_15 post w (nI (6 + c)) f (nI i) (nI c) (nI n) F L T B := by
  intro f
  induction f with
  | zero => intro i n T B _ h; omega
  | succ f ih =>
    intro i n T B hi hf hn hI
    by_cases z : i = 6 + c
    · subst z
      exact br_t (nI_le (Nat.le_refl _) (by omega)) (hp n T B (by omega) (mz_X9 hI (Nat.le_refl _)))
    · refine br_f (nI_ge (by omega) (by omega)) (nm_r (nI_1 i) ?_)
      have t := mz_tet1 (show i < 6 + c by omega)
      refine ⟨6 + c + 1, mz_Xf25 post _ hc F L w hR (by omega) (286 - mz_tet (6 + c - (i + 1))) (fun n' T' B' h' hI' => ?_) (by omega) (6 + c + 1) (i + 1) n T B (by omega) (by omega) (by omega) (by omega) (mz_X3 hI)⟩
      exact ih (i + 1) n' T' B' (by omega) (by omega) (by omega) hI'
theorem mz_Xfind (post : SX → Prop) {c : Nat} (hc : c ≤ 7) (co : Int32) (F L T B : Nat → Int32) (w : Int32)
    (hR : ∀ e, e < 6 + c → mz_R 40 (mz_pl F L e))
    (hp : ∀ n T B, n ≤ 286 → mz_F (mz_C (mz_S (mz_pl F L) (mz_gd (6 + c) w))) (mz_pl T B) n → post (nI c, nI n, F, L, T, B)) :
    wpX_findCorners post (nI c, co, F, L, T, B) w := by
  unfold wpX_findCorners
  dsimp only
  refine nm_r (nI_add 6 c) ?_
  refine ⟨6 + c + 1, mz_Xf15 post hc F L w hR hp (6 + c + 1) 0 0 T B (by omega) (by omega) ?_ mz_X8⟩
  have := mz_tet13 (6 + c) (by omega)
  rw [Nat.sub_zero]; omega
/- all corners keep a plane -/
theorem mz_Xck (post : Int32 → Prop) {c n p : Nat} (hn : n ≤ 286) (hp : p < 14) (F L T B : Nat → Int32) (hR : mz_R 1000 (mz_pl F L p)) (hQ : ∀ e, e < n → mz_Q (mz_pl T B e))
    (hT : (∀ e, e < n → mz_kp (mz_pl F L p) (mz_pl T B e)) → post 1) (hF : (¬ ∀ e, e < n → mz_kp (mz_pl F L p) (mz_pl T B e)) → post 0) :
    wpX_cornersKeep post (nI c, nI n, F, L, T, B) (nI p) := by
  have key : ∀ f e, e ≤ n → n - e < f → (∀ e', e' < e → mz_kp (mz_pl F L p) (mz_pl T B e')) → wX_cornersKeep_2 post (nI p) (nI c) (nI n) F L T B f (nI e) := by
    intro f
    induction f with
    | zero => intro e _ h; omega
    | succ f ih =>
      intro e he hf hk
      by_cases z : e = n
      · subst z
        exact br_t (nI_le (Nat.le_refl _) (by omega)) (hT hk)
      · refine br_f (nI_ge (by omega) (by omega)) ?_
        refine mz_Xkeeps _ (by omega) hp (nI c) (nI n) F L T B hR (hQ e (by omega)) (fun kp => ?_) (fun kp => ?_)
        · exact br_f (by decide) (nm_r (nI_1 e) (ih (e + 1) (by omega) (by omega) (lt_s hk kp)))
        · exact br_t rfl (hF fun h => kp (h e (by omega)))
  exact ⟨n + 1, key (n + 1) 0 (by omega) (by omega) (fun e h => absurd h (Nat.not_lt_zero e))⟩
/- the farthest corner -/
theorem mz_Xfar (post : Int32 → Prop) {c n ax : Nat} {sg : Int} (hs : sg = 1 ∨ sg = -1) (hx : ax < 3) (h0 : 0 < n) (hn : n ≤ 286) (F L T B : Nat → Int32) (hQ : ∀ e, e < n → mz_Q (mz_pl T B e)) (hu : ∀ e, e < n → 1 ≤ (mz_pl T B e).2.2.2)
    (hp : ∀ b, b < n → mz_FI (mz_pl T B) ax sg b n → post (nI b)) : wpX_farthestCorner post (nI c, nI n, F, L, T, B) (nI ax) (mz_z sg) := by
  have key : ∀ f b e, b < e → e ≤ n → n - e < f → mz_FI (mz_pl T B) ax sg b e → wX_farthestCorner_5 post (nI ax) (mz_z sg) (nI c) (nI n) F L T B f (nI b) (nI e) := by
    intro f
    induction f with
    | zero => intro b e _ _ h; omega
    | succ f ih =>
      intro b e hb he hf hI
      by_cases z : e = n
      · subst z
        exact br_t (nI_le (Nat.le_refl _) (by omega)) (hp b hb hI)
      · refine br_f (nI_ge (by omega) (by omega)) ?_
        refine ⟨mz_iv e ax (by omega) (by omega), vp_in_nI (by omega) (by omega), nm_e ?_⟩
        refine ⟨mz_iv b ax (by omega) (by omega), vp_in_nI (by omega) (by omega), nm_e ?_⟩
        rw [mz_ic e ax (by omega), mz_ic b ax (by omega), nI_clamp (show b < 2 ^ 31 by omega), nI_clamp (show e < 2 ^ 31 by omega), mz_fq hx, mz_fq hx]
        have k := mz_zle (mz_fb hs (hQ e (by omega)) (hQ b (by omega)) ax) (mz_fb hs (hQ b (by omega)) (hQ e (by omega)) ax)
        by_cases y : sg * mz_co ax (mz_pl T B e) * (mz_pl T B b).2.2.2 ≤ sg * mz_co ax (mz_pl T B b) * (mz_pl T B e).2.2.2
        · exact br_t (k.mpr y) (nm_r (nI_1 e) (ih b (e + 1) (by omega) (by omega) (by omega) (mz_FI1 hI y)))
        · exact br_f (fun x => y (k.mp x)) (nm_r (nI_1 e) (ih e (e + 1) (by omega) (by omega) (by omega) (mz_FI2 (fun c' h' => hu c' (by omega)) (by omega) hI y)))
  exact ⟨n + 1, key (n + 1) 0 1 (by omega) (by omega) (by omega) mz_FI0⟩
/- the greatest common divisor -/
theorem mz_Xgcd (post : Int32 → Prop) {t b : Int} (ht : -3840 ≤ t ∧ t ≤ 3840) (hb : 1 ≤ b ∧ b ≤ 384) (hp : post (mz_z (mz_g t b))) : wpX_commonDivisor post (mz_z t) (mz_z b) := by
  have key : ∀ f (d : Nat), 1 ≤ d → (d : Int) ≤ b → d < f + 1 → (∀ e : Int, (d : Int) < e → e ≤ b → ¬ (e ∣ t ∧ e ∣ b)) → wX_commonDivisor_2 post (mz_z t) (mz_z b) f (mz_z (d : Int)) := by
    intro f
    induction f with
    | zero => intro d _ _ h; omega
    | succ f ih =>
      intro d h1 hd hf hm
      have hz : mz_z (d : Int) = nI d := mz_zn d
      have nxt : 2 ≤ d → ¬ ((d : Int) ∣ t ∧ (d : Int) ∣ b) → ∀ x : Int32, x = mz_z (d : Int) + (-1) → wX_commonDivisor_2 post (mz_z t) (mz_z b) f x := by
        intro h2 hno
        obtain ⟨d', rfl⟩ : ∃ d', d = d' + 1 := ⟨d - 1, by omega⟩
        refine nm_r (e' := mz_z (d' : Int)) (by rw [mz_zn, mz_zn, pk_m1]) (ih d' (by omega) (by omega) (by omega) fun e he hb' => ?_)
        by_cases y : e = ((d' + 1 : Nat) : Int)
        · rw [y]; exact hno
        · exact hm e (by omega) hb'
      by_cases z : d = 1
      · subst z
        refine br_t (by decide) ?_
        have := mz_cd (t := t) (b := b) (d := 1) (by omega) (by omega) (Int.one_dvd t) (Int.one_dvd b) (fun e he hb' => hm e (by omega) hb')
        rw [← this] at hp; exact hp
      · have ne : ¬ mz_z (d : Int) = 0 := by rw [hz]; exact nI_ne0 (by omega) (by omega)
        have t1 := mz_dv (t := t) (d := (d : Int)) ht (by omega)
        have t2 := mz_dv (t := b) (d := (d : Int)) (by omega) (by omega)
        refine br_f (by rw [hz]; exact nI_ge (b := d) (a := 1) (by omega) (by omega)) ⟨ne, ?_⟩
        by_cases x : (d : Int) ∣ t
        · refine br_t (t1.mpr x) ⟨ne, ?_⟩
          by_cases y : (d : Int) ∣ b
          · refine br_t (t2.mpr y) ?_
            rw [mz_cd (by omega) (by omega) x y hm]; exact hp
          · exact br_f (fun q => y (t2.mp q)) (nxt (by omega) fun q => y q.2)
        · exact br_f (fun q => x (t1.mp q)) (nxt (by omega) fun q => x q.1)
  obtain ⟨m, rfl⟩ := Int.eq_ofNat_of_zero_le (show 0 ≤ b by omega)
  exact ⟨m + 1, key (m + 1) m (by omega) (Int.le_refl _) (by omega) (fun e h1 h2 => by omega)⟩
