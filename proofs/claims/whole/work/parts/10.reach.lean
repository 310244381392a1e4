/- the farthest of the corners so far -/
def mz_FI (pt : Nat → mz_P) (ax : Nat) (sg : Int) (b c : Nat) : Prop := ∀ c', c' < c → sg * mz_co ax (pt c') * (pt b).2.2.2 ≤ sg * mz_co ax (pt b) * (pt c').2.2.2
theorem mz_FI0 {pt : Nat → mz_P} {ax : Nat} {sg : Int} : mz_FI pt ax sg 0 1 := by
  intro c' h
  have : c' = 0 := by omega
  subst this; exact Int.le_refl _
theorem mz_FI1 {pt : Nat → mz_P} {ax b c : Nat} {sg : Int} (h : mz_FI pt ax sg b c) (hn : sg * mz_co ax (pt c) * (pt b).2.2.2 ≤ sg * mz_co ax (pt b) * (pt c).2.2.2) : mz_FI pt ax sg b (c + 1) := by
  intro c' hc
  rcases Nat.lt_or_ge c' c with a | a
  · exact h c' a
  · have : c' = c := by omega
    subst this; exact hn
theorem mz_FI2 {pt : Nat → mz_P} {ax b c : Nat} {sg : Int} (hu : ∀ c', c' ≤ c → 1 ≤ (pt c').2.2.2) (hb : b ≤ c) (h : mz_FI pt ax sg b c) (hn : ¬ sg * mz_co ax (pt c) * (pt b).2.2.2 ≤ sg * mz_co ax (pt b) * (pt c).2.2.2) : mz_FI pt ax sg c (c + 1) := by
  intro c' hc
  rcases Nat.lt_or_ge c' c with a | a
  · have u1 := hu c' (by omega)
    have u2 := hu b hb
    have u3 := hu c (Nat.le_refl c)
    exact mz_tr (a := sg * mz_co ax (pt c')) (b := (pt c').2.2.2) (c := sg * mz_co ax (pt b)) (d := (pt b).2.2.2) (e := sg * mz_co ax (pt c)) (f := (pt c).2.2.2) (by omega) (by omega) (by omega) (h c' a) (by omega)
  · have : c' = c := by omega
    subst this; exact Int.le_refl _
theorem mz_FIe {C : mz_P → Prop} {pt : Nat → mz_P} {ax b n : Nat} {sg : Int} (h : mz_FI pt ax sg b n) (hF : mz_F C pt n) (hb : b < n) :
    mz_Rc C ax sg ((mz_co ax (pt b)).tdiv (mz_g (mz_co ax (pt b)) (pt b).2.2.2)) ((pt b).2.2.2.tdiv (mz_g (mz_co ax (pt b)) (pt b).2.2.2)) := by
  refine ⟨pt b, hF.1 b hb, fun t' ht' => ?_, rfl, rfl⟩
  obtain ⟨c, hc, rfl⟩ := hF.2 t' ht'
  exact h c hc
theorem mz_gs {sg x y : Int} (hs : sg = 1 ∨ sg = -1) : mz_g (sg * x) y = mz_g x y := by
  rcases hs with z | z <;> subst z
  · rw [Int.one_mul]
  · unfold mz_g
    rw [Int.neg_mul, Int.one_mul, Int.neg_gcd]
theorem mz_ss {sg x : Int} (hs : sg = 1 ∨ sg = -1) : sg * (sg * x) = x := by
  rcases hs with z | z <;> subst z <;> omega
theorem mz_Grc {C : mz_P → Prop} {ax : Nat} {sg T B : Int} (hs : sg = 1 ∨ sg = -1) (hx : ax < 3) (h : mz_Bst C (mz_un1 ax sg) T B) : mz_Rc C ax sg ((sg * T).tdiv (mz_g T B)) (B.tdiv (mz_g T B)) := by
  obtain ⟨t, ht, eT, eB, hm⟩ := h
  rw [mz_vlu sg t ax hx] at eT
  refine ⟨t, ht, fun t' ht' => ?_, ?_, ?_⟩
  · have := hm t' ht'
    rw [mz_vlu sg t' ax hx, eT, eB] at this
    exact this
  · rw [eT, eB, mz_ss hs, mz_gs hs]
  · rw [eT, eB, mz_gs hs]
theorem mz_g1 {a b : Int} (hb : 1 ≤ b ∧ b ≤ 384) : 1 ≤ mz_g a b ∧ mz_g a b ≤ 384 := by
  have h1 := Int.gcd_pos_of_ne_zero_right a (b := b) (by omega)
  have h2 : mz_g a b ≤ b := Int.gcd_le_right a (by omega)
  refine ⟨?_, by omega⟩
  unfold mz_g; omega
/- the numbers of the comparison -/
theorem mz_fq {T B : Nat → Int32} {ax c b : Nat} {sg : Int} (hx : ax < 3) : mz_z sg * T (3 * c + ax) * B b = mz_z (sg * mz_co ax (mz_pl T B c) * (mz_pl T B b).2.2.2) := by
  rw [mz_plc T B c ax hx]
  show _ = mz_z (sg * (T (3 * c + ax)).toInt * (B b).toInt)
  rw [← mz_zm, ← mz_zm, mz_zt, mz_zt]
theorem mz_coQ {t : mz_P} (ht : mz_Q t) (ax : Nat) : -3840 ≤ mz_co ax t ∧ mz_co ax t ≤ 3840 := by
  unfold mz_co
  split
  · exact ht.1
  · split
    · exact ht.2.1
    · exact ht.2.2.1
theorem mz_fb {t t' : mz_P} {sg : Int} (hs : sg = 1 ∨ sg = -1) (ht : mz_Q t) (ht' : mz_Q t') (ax : Nat) : mz_B (sg * mz_co ax t * t'.2.2.2) := by
  have h1 := mz_coQ ht ax
  have h2 : -3840 ≤ sg * mz_co ax t ∧ sg * mz_co ax t ≤ 3840 := by
    rcases hs with z | z <;> subst z <;> omega
  have h3 := mz_mb 3840 384 h2.1 h2.2 ht'.2.2.2.1 ht'.2.2.2.2
  exact ⟨by omega, by omega⟩
theorem mz_fs {t t' : mz_P} (ht : mz_Q t) (ht' : mz_Q t') (ax : Nat) : mz_B (mz_co ax t * t'.2.2.2) := by
  have h1 := mz_coQ ht ax
  have h3 := mz_mb 3840 384 h1.1 h1.2 ht'.2.2.2.1 ht'.2.2.2.2
  exact ⟨by omega, by omega⟩
/- Euclid's numbers -/
theorem mz_eul {x y : Int} (hy : 1 ≤ y ∧ y ≤ 384) : lN (mz_eu 100 x.natAbs y.natAbs) = mz_l (mz_g x y) := by
  rw [mz_eug 9 100 x.natAbs y.natAbs (by omega) (by omega), ← mz_ln]
  rfl
theorem mz_eub : ∀ n p q : Nat, p < 1000000 → q < 1000000 → mz_eu n p q < 1000000
  | 0, _, _, h, _ => h
  | n + 1, p, q, h, h' => by
    unfold mz_eu
    split
    · exact mz_eub n q (p % q) h' (Nat.lt_of_le_of_lt (Nat.mod_le p q) h)
    · exact mz_eub n p q h h'
