section
/- rows of kit/rows, pasted -/
theorem pk_us {f : Nat → Int32} {k : Nat} {x : Int32} : upd f k x k = x := if_pos rfl
theorem pk_un {f : Nat → Int32} {k j : Nat} {x : Int32} (h : j ≠ k) : upd f k x j = f j := if_neg h
theorem pk_sub {a b : Nat} (h : b ≤ a) : nI a - nI b = nI (a - b) := by
  obtain ⟨c, rfl⟩ : ∃ c, a = c + b := ⟨a - b, by omega⟩
  rw [← nI_add, Int32.add_sub_cancel, Nat.add_sub_cancel]
theorem pk_m1 (n : Nat) : nI (n + 1) + (-1) = nI n := by
  rw [← nI_1, Int32.add_assoc, show (1 : Int32) + (-1) = 0 from rfl, Int32.add_zero]
theorem pk_mul (a b : Nat) : nI a * nI b = nI (a * b) := (Int32.ofNat_mul a b).symm
theorem pk_div {a d : Nat} (ha : a < 2 ^ 31) (h0 : 0 < d) (hd : d < 2 ^ 31) : nI a / nI d = nI (a / d) := by
  apply Int32.toInt_inj.mp
  rw [lg_idiv_nonneg (by rw [nI_toInt ha]; omega) (by rw [nI_toInt hd]; omega), nI_toInt ha, nI_toInt hd, nI_toInt (Nat.lt_of_le_of_lt (Nat.div_le_self a d) ha)]
  first | rfl | exact (Int.natCast_ediv _ _).symm
theorem pk_rem {a d : Nat} (ha : a < 2 ^ 31) (h0 : 0 < d) (hd : d < 2 ^ 31) : nI a - nI a / nI d * nI d = nI (a % d) := by
  rw [pk_div ha h0 hd, pk_mul, pk_sub (Nat.div_mul_le_self a d)]
  exact congrArg nI (by have := Nat.div_add_mod' a d; omega)
theorem pk_ix (x : Int32) {n : Nat} (hn : n < 2 ^ 31) : x < 0 ∨ nI n ≤ x ∨ ∃ j : Nat, j < n ∧ x = nI j := by
  by_cases h : x < 0
  · exact Or.inl h
  · obtain ⟨j, hj, rfl⟩ := nI_of h
    by_cases h2 : j < n
    · exact Or.inr (Or.inr ⟨j, h2, rfl⟩)
    · exact Or.inr (Or.inl (nI_le (by omega) hj))
theorem pk_le {x y : Int32} {A B : Prop} (a b : Nat) (f : a ≤ b → A) (g : b < a → B) (hx : x = nI a := by rfl) (hy : y = nI b := by rfl) (ha : a < 2 ^ 31 := by omega) (hb : b < 2 ^ 31 := by omega) : (x ≤ y → A) ∧ (¬ x ≤ y → B) := by
  subst hx hy
  rw [nI_leI ha hb]
  exact ⟨f, fun z => g (by omega)⟩
theorem pk_lt {x y : Int32} {A B : Prop} (a b : Nat) (f : a < b → A) (g : b ≤ a → B) (hx : x = nI a := by rfl) (hy : y = nI b := by rfl) (ha : a < 2 ^ 31 := by omega) (hb : b < 2 ^ 31 := by omega) : (x < y → A) ∧ (¬ x < y → B) := by
  subst hx hy
  rw [nI_ltI ha hb]
  exact ⟨f, fun z => g (by omega)⟩
theorem pk_eq {x y : Int32} {A B : Prop} (a b : Nat) (f : a = b → A) (g : a ≠ b → B) (hx : x = nI a := by rfl) (hy : y = nI b := by rfl) (ha : a < 2 ^ 31 := by omega) (hb : b < 2 ^ 31 := by omega) : (x = y → A) ∧ (¬ x = y → B) := by
  subst hx hy
  rw [nI_eq ha hb]
  exact ⟨f, g⟩
theorem pk_in {x : Int32} (n N : Nat) (h : n < N) (hx : x = nI n := by rfl) (hN : N < 2 ^ 31 := by omega) : vp_in x N := by
  subst hx
  exact vp_in_nI h hN
theorem pk_cl {x : Int32} (n : Nat) (hx : x = nI n := by rfl) (h : n < 2 ^ 31 := by omega) : x.toNatClampNeg = n := by
  subst hx
  exact nI_clamp h
theorem pk_lT {n : Nat} (h : n < 2 ^ 63) : (lN n).toInt = (n : Int) := lg_ofNat_toInt h
theorem pk_lLT {a b : Nat} (ha : a < 2 ^ 63) (hb : b < 2 ^ 63) : lN a < lN b ↔ a < b := by
  rw [Int64.lt_iff_toInt_lt, pk_lT ha, pk_lT hb]; omega
theorem pk_lLE {a b : Nat} (ha : a < 2 ^ 63) (hb : b < 2 ^ 63) : lN a ≤ lN b ↔ a ≤ b := by
  rw [Int64.le_iff_toInt_le, pk_lT ha, pk_lT hb]; omega
theorem pk_lEQ {a b : Nat} (ha : a < 2 ^ 63) (hb : b < 2 ^ 63) : lN a = lN b ↔ a = b := by
  rw [← Int64.toInt_inj, pk_lT ha, pk_lT hb]; omega
theorem pk_lDiv {a b : Nat} (ha : a < 2 ^ 63) (h0 : 0 < b) (hb : b < 2 ^ 63) : lN a / lN b = lN (a / b) := by
  apply Int64.toInt_inj.mp
  rw [lg_ldiv_nonneg (by rw [pk_lT ha]; omega) (by rw [pk_lT hb]; omega), pk_lT ha, pk_lT hb, pk_lT (Nat.lt_of_le_of_lt (Nat.div_le_self a b) ha)]
  rfl
theorem pk_lRem {a b : Nat} (ha : a < 2 ^ 63) (h0 : 0 < b) (hb : b < 2 ^ 63) : lN a - lN a / lN b * lN b = lN (a % b) := by
  rw [pk_lDiv ha h0 hb, lN_mul, lN_sub (Nat.div_mul_le_self a b)]
  exact congrArg lN (by have := Nat.div_add_mod' a b; omega)
theorem pk_loop {σ : Type} (W : Nat → Nat → σ → Prop) (I : Nat → σ → Prop) (e i0 : Nat) (s : σ) (hi : i0 ≤ e) (h0 : I i0 s) (hx : ∀ n s, I e s → W (n + 1) e s)
    (hs : ∀ n i s, i < e → I i s → (∀ s', I (i + 1) s' → W n (i + 1) s') → W (n + 1) i s) : ∃ n, W n i0 s :=
  ⟨e + 1, loop_i W I e hx hs (e + 1) i0 s hi (by omega) h0⟩
theorem pk_loopD {σ : Type} (W : Nat → Nat → σ → Prop) (I : Nat → σ → Prop) (hx : ∀ n s, I 0 s → W (n + 1) 0 s)
    (hs : ∀ n i s, I (i + 1) s → (∀ s', I i s' → W n i s') → W (n + 1) (i + 1) s) : ∀ (e : Nat) (s : σ), I e s → W (e + 1) e s := by
  intro e
  induction e with
  | zero => exact fun s h => hx 0 s h
  | succ e ih => exact fun s h => hs (e + 1) e s h (fun s' h' => ih s' h')
end
section
/- numbers: an Int32 or Int64 as the image of an Int; +, -, * need no bounds, comparisons and divisions do -/
def mz_z (x : Int) : Int32 := Int32.ofInt x
def mz_l (x : Int) : Int64 := Int64.ofInt x
theorem mz_zt (x : Int32) : mz_z x.toInt = x := Int32.ofInt_toInt x
theorem mz_lt' (x : Int64) : mz_l x.toInt = x := Int64.ofInt_toInt x
theorem mz_zn (n : Nat) : mz_z (n : Int) = nI n := Int32.ofInt_eq_ofNat
theorem mz_ln (n : Nat) : mz_l (n : Int) = lN n := Int64.ofInt_eq_ofNat
theorem mz_za (a b : Int) : mz_z a + mz_z b = mz_z (a + b) := (Int32.ofInt_add a b).symm
theorem mz_zs (a b : Int) : mz_z a - mz_z b = mz_z (a - b) := (Int32.ofInt_sub a b).symm
theorem mz_zm (a b : Int) : mz_z a * mz_z b = mz_z (a * b) := (Int32.ofInt_mul a b).symm
theorem mz_zg (a : Int) : - mz_z a = mz_z (-a) := (Int32.ofInt_neg a).symm
theorem mz_la (a b : Int) : mz_l a + mz_l b = mz_l (a + b) := (Int64.ofInt_add a b).symm
theorem mz_ls (a b : Int) : mz_l a - mz_l b = mz_l (a - b) := (Int64.ofInt_sub a b).symm
theorem mz_lm (a b : Int) : mz_l a * mz_l b = mz_l (a * b) := (Int64.ofInt_mul a b).symm
theorem mz_lg (a : Int) : - mz_l a = mz_l (-a) := (Int64.ofInt_neg a).symm
def mz_B (x : Int) : Prop := -2147483648 ≤ x ∧ x < 2147483648
def mz_BL (x : Int) : Prop := -9223372036854775808 ≤ x ∧ x < 9223372036854775808
theorem mz_ti {x : Int} (h : mz_B x) : (mz_z x).toInt = x := Int32.toInt_ofInt_of_le (by have := h.1; omega) (by have := h.2; omega)
theorem mz_tiL {x : Int} (h : mz_BL x) : (mz_l x).toInt = x := Int64.toInt_ofInt_of_le (by have := h.1; omega) (by have := h.2; omega)
theorem mz_zle {a b : Int} (ha : mz_B a) (hb : mz_B b) : mz_z a ≤ mz_z b ↔ a ≤ b := by
  rw [Int32.le_iff_toInt_le, mz_ti ha, mz_ti hb]
theorem mz_zlt {a b : Int} (ha : mz_B a) (hb : mz_B b) : mz_z a < mz_z b ↔ a < b := by
  rw [Int32.lt_iff_toInt_lt, mz_ti ha, mz_ti hb]
theorem mz_zeq {a b : Int} (ha : mz_B a) (hb : mz_B b) : mz_z a = mz_z b ↔ a = b := by
  rw [← Int32.toInt_inj, mz_ti ha, mz_ti hb]
theorem mz_lle {a b : Int} (ha : mz_BL a) (hb : mz_BL b) : mz_l a ≤ mz_l b ↔ a ≤ b := by
  rw [Int64.le_iff_toInt_le, mz_tiL ha, mz_tiL hb]
theorem mz_llt {a b : Int} (ha : mz_BL a) (hb : mz_BL b) : mz_l a < mz_l b ↔ a < b := by
  rw [Int64.lt_iff_toInt_lt, mz_tiL ha, mz_tiL hb]
theorem mz_leq {a b : Int} (ha : mz_BL a) (hb : mz_BL b) : mz_l a = mz_l b ↔ a = b := by
  rw [← Int64.toInt_inj, mz_tiL ha, mz_tiL hb]
theorem mz_zL {x : Int} (h : mz_B x) : (mz_z x).toInt64 = mz_l x := by
  have e : (mz_z x).toInt64.toInt = (mz_z x).toInt := Int32.toInt_toInt64 _
  rw [mz_ti h] at e
  rw [← mz_lt' (mz_z x).toInt64, e]
/- truncated division -/
theorem mz_zd {a b : Int} (ha : mz_B a) (hb : mz_B b) (h1 : b ≠ -1) : mz_z a / mz_z b = mz_z (a.tdiv b) := by
  have hb' : mz_z b ≠ -1 := by
    intro e
    have := congrArg Int32.toInt e
    rw [mz_ti hb] at this
    exact h1 (this.trans (by decide))
  have e := Int32.toInt_div_of_ne_right (mz_z a) (mz_z b) hb'
  rw [mz_ti ha, mz_ti hb] at e
  rw [← mz_zt (mz_z a / mz_z b), e]
theorem mz_ld {a b : Int} (ha : mz_BL a) (hb : mz_BL b) (h1 : b ≠ -1) : mz_l a / mz_l b = mz_l (a.tdiv b) := by
  have hb' : mz_l b ≠ -1 := by
    intro e
    have := congrArg Int64.toInt e
    rw [mz_tiL hb] at this
    exact h1 (this.trans (by decide))
  have e := Int64.toInt_div_of_ne_right (mz_l a) (mz_l b) hb'
  rw [mz_tiL ha, mz_tiL hb] at e
  rw [← mz_lt' (mz_l a / mz_l b), e]
/- the remainder as it is printed: x - x / y * y -/
theorem mz_zr {a b : Int} (ha : mz_B a) (hb : mz_B b) (h1 : b ≠ -1) : mz_z a - mz_z a / mz_z b * mz_z b = mz_z (a.tmod b) := by
  rw [mz_zd ha hb h1, mz_zm, mz_zs, Int.tmod_def, Int.mul_comm]
theorem mz_lr {a b : Int} (ha : mz_BL a) (hb : mz_BL b) (h1 : b ≠ -1) : mz_l a - mz_l a / mz_l b * mz_l b = mz_l (a.tmod b) := by
  rw [mz_ld ha hb h1, mz_lm, mz_ls, Int.tmod_def, Int.mul_comm]
/- products of bounded numbers -/
theorem mz_mb {a b : Int} (A B : Nat) (h1 : -(A : Int) ≤ a) (h2 : a ≤ A) (h3 : -(B : Int) ≤ b) (h4 : b ≤ B) : -((A * B : Nat) : Int) ≤ a * b ∧ a * b ≤ ((A * B : Nat) : Int) := by
  have hA : a.natAbs ≤ A := by omega
  have hB : b.natAbs ≤ B := by omega
  have h := Nat.mul_le_mul hA hB
  rw [← Int.natAbs_mul] at h
  generalize a * b = c at *
  generalize A * B = N at *
  omega
end
section
/- planes (a, b, c, d) and points (x, y, z, under); the corner of three planes; the set of corners of a set of planes -/
abbrev mz_P : Type := Int × Int × Int × Int
def mz_cx (p q : mz_P) : Int := p.2.1 * q.2.2.1 - p.2.2.1 * q.2.1
def mz_cy (p q : mz_P) : Int := p.2.2.1 * q.1 - p.1 * q.2.2.1
def mz_cz (p q : mz_P) : Int := p.1 * q.2.1 - p.2.1 * q.1
def mz_det (p q r : mz_P) : Int := p.1 * mz_cx q r + p.2.1 * mz_cy q r + p.2.2.1 * mz_cz q r
def mz_tx (p q r : mz_P) : Int := p.2.2.2 * mz_cx q r + q.2.2.2 * mz_cx r p + r.2.2.2 * mz_cx p q
def mz_ty (p q r : mz_P) : Int := p.2.2.2 * mz_cy q r + q.2.2.2 * mz_cy r p + r.2.2.2 * mz_cy p q
def mz_tz (p q r : mz_P) : Int := p.2.2.2 * mz_cz q r + q.2.2.2 * mz_cz r p + r.2.2.2 * mz_cz p q
def mz_sg (x : Int) : Int := if x < 0 then -1 else 1
def mz_cor (p q r : mz_P) : mz_P := (mz_sg (mz_det p q r) * mz_tx p q r, mz_sg (mz_det p q r) * mz_ty p q r, mz_sg (mz_det p q r) * mz_tz p q r, mz_sg (mz_det p q r) * mz_det p q r)
def mz_vl (s t : mz_P) : Int := s.1 * t.1 + s.2.1 * t.2.1 + s.2.2.1 * t.2.2.1
def mz_kp (s t : mz_P) : Prop := mz_vl s t ≤ s.2.2.2 * t.2.2.2
def mz_C (S : mz_P → Prop) (t : mz_P) : Prop := ∃ p q r, S p ∧ S q ∧ S r ∧ mz_det p q r ≠ 0 ∧ t = mz_cor p q r ∧ ∀ s, S s → mz_kp s t
/- three planes in another order: the same corner -/
theorem mz_det12 (p q r : mz_P) : mz_det q p r = - mz_det p q r := by
  simp only [mz_det, mz_cx, mz_cy, mz_cz]; grind
theorem mz_det23 (p q r : mz_P) : mz_det p r q = - mz_det p q r := by
  simp only [mz_det, mz_cx, mz_cy, mz_cz]; grind
theorem mz_sgn {x : Int} (h : x ≠ 0) : mz_sg (-x) = - mz_sg x := by
  unfold mz_sg
  by_cases h1 : x < 0
  · rw [if_neg (by omega), if_pos h1]; rfl
  · rw [if_pos (by omega), if_neg h1]
theorem mz_sw12 {p q r t : mz_P} (h : mz_det p q r ≠ 0 ∧ t = mz_cor p q r) : mz_det q p r ≠ 0 ∧ t = mz_cor q p r := by
  have e1 : mz_tx q p r = - mz_tx p q r := by simp only [mz_tx, mz_cx]; grind
  have e2 : mz_ty q p r = - mz_ty p q r := by simp only [mz_ty, mz_cy]; grind
  have e3 : mz_tz q p r = - mz_tz p q r := by simp only [mz_tz, mz_cz]; grind
  refine ⟨by rw [mz_det12 p q r]; have := h.1; omega, ?_⟩
  rw [h.2]
  unfold mz_cor
  rw [mz_det12 p q r, mz_sgn h.1, e1, e2, e3]
  simp only [Int.neg_mul_neg]
theorem mz_sw23 {p q r t : mz_P} (h : mz_det p q r ≠ 0 ∧ t = mz_cor p q r) : mz_det p r q ≠ 0 ∧ t = mz_cor p r q := by
  have e1 : mz_tx p r q = - mz_tx p q r := by simp only [mz_tx, mz_cx]; grind
  have e2 : mz_ty p r q = - mz_ty p q r := by simp only [mz_ty, mz_cy]; grind
  have e3 : mz_tz p r q = - mz_tz p q r := by simp only [mz_tz, mz_cz]; grind
  refine ⟨by rw [mz_det23 p q r]; have := h.1; omega, ?_⟩
  rw [h.2]
  unfold mz_cor
  rw [mz_det23 p q r, mz_sgn h.1, e1, e2, e3]
  simp only [Int.neg_mul_neg]
theorem mz_dd12 (p r : mz_P) : mz_det p p r = 0 := by simp only [mz_det, mz_cx, mz_cy, mz_cz]; grind
theorem mz_dd23 (p r : mz_P) : mz_det r p p = 0 := by simp only [mz_det, mz_cx, mz_cy, mz_cz]; grind
theorem mz_dd13 (p r : mz_P) : mz_det p r p = 0 := by simp only [mz_det, mz_cx, mz_cy, mz_cz]; grind
/- the set of the planes with a good number -/
def mz_S (pl : Nat → mz_P) (g : Nat → Prop) (p : mz_P) : Prop := ∃ i, g i ∧ pl i = p
theorem mz_Cix {pl : Nat → mz_P} {g : Nat → Prop} {t : mz_P} (h : mz_C (mz_S pl g) t) :
    ∃ i j k, i < j ∧ j < k ∧ g i ∧ g j ∧ g k ∧ mz_det (pl i) (pl j) (pl k) ≠ 0 ∧ t = mz_cor (pl i) (pl j) (pl k) := by
  obtain ⟨_, _, _, ⟨i, gi, rfl⟩, ⟨j, gj, rfl⟩, ⟨k, gk, rfl⟩, hd, ht, _⟩ := h
  have hij : i ≠ j := by intro e; subst e; exact hd (mz_dd12 _ _)
  have hjk : j ≠ k := by intro e; subst e; exact hd (mz_dd23 _ _)
  have hik : i ≠ k := by intro e; subst e; exact hd (mz_dd13 _ _)
  have H := And.intro hd ht
  rcases Nat.lt_or_gt_of_ne hij with a | a <;> rcases Nat.lt_or_gt_of_ne hjk with b | b <;> rcases Nat.lt_or_gt_of_ne hik with c | c
  · exact ⟨i, j, k, a, b, gi, gj, gk, H⟩
  · omega
  · exact ⟨i, k, j, c, b, gi, gk, gj, mz_sw23 H⟩
  · exact ⟨k, i, j, c, a, gk, gi, gj, mz_sw12 (mz_sw23 H)⟩
  · exact ⟨j, i, k, a, c, gj, gi, gk, mz_sw12 H⟩
  · exact ⟨j, k, i, b, c, gj, gk, gi, mz_sw23 (mz_sw12 H)⟩
  · omega
  · exact ⟨k, j, i, b, a, gk, gj, gi, mz_sw12 (mz_sw23 (mz_sw12 H))⟩
theorem mz_Cof {pl : Nat → mz_P} {g : Nat → Prop} {i j k : Nat} (gi : g i) (gj : g j) (gk : g k)
    (hd : mz_det (pl i) (pl j) (pl k) ≠ 0) (hk : ∀ e, g e → mz_kp (pl e) (mz_cor (pl i) (pl j) (pl k))) :
    mz_C (mz_S pl g) (mz_cor (pl i) (pl j) (pl k)) :=
  ⟨_, _, _, ⟨i, gi, rfl⟩, ⟨j, gj, rfl⟩, ⟨k, gk, rfl⟩, hd, rfl, fun _ ⟨e, ge, he⟩ => he ▸ hk e ge⟩
theorem mz_Cext {S S' : mz_P → Prop} (h : ∀ p, S p ↔ S' p) (t : mz_P) : mz_C S t ↔ mz_C S' t := by
  have e : S = S' := funext fun p => propext (h p)
  rw [e]
theorem mz_un {p q r : mz_P} (h : mz_det p q r ≠ 0) : 1 ≤ (mz_cor p q r).2.2.2 := by
  show 1 ≤ mz_sg (mz_det p q r) * mz_det p q r
  unfold mz_sg
  by_cases h1 : mz_det p q r < 0
  · rw [if_pos h1]; omega
  · rw [if_neg h1]; omega
theorem mz_Cun {S : mz_P → Prop} {t : mz_P} (h : mz_C S t) : 1 ≤ t.2.2.2 := by
  obtain ⟨p, q, r, _, _, _, hd, ht, _⟩ := h
  rw [ht]; exact mz_un hd
/- the greatest value at the corners -/
def mz_Bst (C : mz_P → Prop) (s : mz_P) (T B : Int) : Prop := ∃ t, C t ∧ T = mz_vl s t ∧ B = t.2.2.2 ∧ ∀ t', C t' → mz_vl s t' * B ≤ T * t'.2.2.2
theorem mz_tr {a b c d e f : Int} (hb : 0 ≤ b) (hd : 0 < d) (hf : 0 ≤ f) (h1 : a * d ≤ c * b) (h2 : c * f ≤ e * d) : a * f ≤ e * b := by
  have g1 := Int.mul_le_mul_of_nonneg_right h1 hf
  have g2 := Int.mul_le_mul_of_nonneg_right h2 hb
  have e1 : a * d * f = a * f * d := by grind
  have e2 : c * b * f = c * f * b := by grind
  have e3 : e * d * b = e * b * d := by grind
  rw [e1, e2] at g1
  rw [e3] at g2
  exact Int.le_of_mul_le_mul_right (Int.le_trans g1 g2) hd
theorem mz_keep {C : mz_P → Prop} {s : mz_P} {T B : Int} (d : Int) (hu : ∀ t, C t → 1 ≤ t.2.2.2) (hb : mz_Bst C s T B) :
    (∀ t, C t → mz_vl s t ≤ d * t.2.2.2) ↔ T ≤ d * B := by
  obtain ⟨t, ht, rfl, rfl, hm⟩ := hb
  refine ⟨fun h => h t ht, fun h t' ht' => ?_⟩
  have u := hu t ht
  have u' := hu t' ht'
  have := mz_tr (a := mz_vl s t') (b := t'.2.2.2) (c := mz_vl s t) (d := t.2.2.2) (e := d) (f := 1) (by omega) (by omega) (by omega) (hm t' ht') (by omega)
  omega
/- the least whole d -/
theorem mz_sup {T B r r' : Int} (hB : 0 < B) (h1 : T ≤ r * B) (h2 : (r - 1) * B < T) (h3 : T ≤ r' * B) (h4 : (r' - 1) * B < T) : r = r' := by
  rcases Int.lt_trichotomy r r' with h | h | h
  · have := Int.mul_le_mul_of_nonneg_right (show r ≤ r' - 1 by omega) (Int.le_of_lt hB)
    omega
  · exact h
  · have := Int.mul_le_mul_of_nonneg_right (show r' ≤ r - 1 by omega) (Int.le_of_lt hB)
    omega
/- fractions in lowest terms -/
def mz_g (a b : Int) : Int := (Int.gcd a b : Int)
theorem mz_red {a b c d : Int} (hb : 0 < b) (hd : 0 < d) (h : a * d = c * b) :
    a.tdiv (mz_g a b) = c.tdiv (mz_g c d) ∧ b.tdiv (mz_g a b) = d.tdiv (mz_g c d) := by
  obtain ⟨m, rfl⟩ := Int.eq_ofNat_of_zero_le (Int.le_of_lt hb)
  obtain ⟨n, rfl⟩ := Int.eq_ofNat_of_zero_le (Int.le_of_lt hd)
  have hm : m ≠ 0 := by omega
  have hn : n ≠ 0 := by omega
  have e : mkRat a m = mkRat c n := (Rat.mkRat_eq_iff hm hn).mpr h
  have e1 := congrArg Rat.num e
  have e2 := congrArg Rat.den e
  rw [Rat.num_mkRat, Rat.num_mkRat, if_neg hm, if_neg hn] at e1
  rw [Rat.den_mkRat, Rat.den_mkRat, if_neg hm, if_neg hn] at e2
  have k1 : ((m.gcd a.natAbs : Nat) : Int) = mz_g a m := congrArg (fun x : Nat => (x : Int)) (Nat.gcd_comm m a.natAbs)
  have k2 : ((n.gcd c.natAbs : Nat) : Int) = mz_g c n := congrArg (fun x : Nat => (x : Int)) (Nat.gcd_comm n c.natAbs)
  rw [k1, k2] at e1
  have e2' : ((m / m.gcd a.natAbs : Nat) : Int) = ((n / n.gcd c.natAbs : Nat) : Int) := congrArg (fun x : Nat => (x : Int)) e2
  rw [Int.natCast_ediv, Int.natCast_ediv, k1, k2] at e2'
  have q1 : a.tdiv (mz_g a m) = a / mz_g a m := Int.tdiv_eq_ediv_of_dvd (Int.gcd_dvd_left a m)
  have q2 : c.tdiv (mz_g c n) = c / mz_g c n := Int.tdiv_eq_ediv_of_dvd (Int.gcd_dvd_left c n)
  have q3 : (m : Int).tdiv (mz_g a m) = m / mz_g a m := Int.tdiv_eq_ediv_of_dvd (Int.gcd_dvd_right a m)
  have q4 : (n : Int).tdiv (mz_g c n) = n / mz_g c n := Int.tdiv_eq_ediv_of_dvd (Int.gcd_dvd_right c n)
  rw [q1, q2, q3, q4]
  exact ⟨e1, e2'⟩
/- Euclid in a fixed number of steps -/
def mz_eu : Nat → Nat → Nat → Nat
  | 0, p, _ => p
  | n + 1, p, q => if 0 < q then mz_eu n q (p % q) else mz_eu n p q
theorem mz_eu0 (n p : Nat) : mz_eu n p 0 = p := by
  induction n with
  | zero => rfl
  | succ n ih => unfold mz_eu; rw [if_neg (by omega)]; exact ih
theorem mz_eug : ∀ m n p q : Nat, q < 2 ^ m → 2 * m ≤ n → mz_eu n p q = Nat.gcd p q := by
  intro m
  induction m with
  | zero =>
    intro n p q hq _
    have : q = 0 := by omega
    subst this
    rw [mz_eu0, Nat.gcd_zero_right]
  | succ m ih =>
    intro n p q hq hn
    rcases Nat.eq_zero_or_pos q with h | h
    · subst h; rw [mz_eu0, Nat.gcd_zero_right]
    · obtain ⟨n, rfl⟩ : ∃ n', n = n' + 2 := ⟨n - 2, by omega⟩
      have e1 : mz_eu (n + 2) p q = mz_eu (n + 1) q (p % q) := by
        show (if 0 < q then mz_eu (n + 1) q (p % q) else mz_eu (n + 1) p q) = _
        rw [if_pos h]
      have g1 : Nat.gcd p q = Nat.gcd q (p % q) := by rw [Nat.gcd_comm p q, Nat.gcd_rec q p, Nat.gcd_comm]
      rw [e1, g1]
      generalize hr : p % q = r
      have hrq : r < q := by rw [← hr]; exact Nat.mod_lt _ h
      rcases Nat.eq_zero_or_pos r with h0 | h0
      · subst h0; rw [mz_eu0, Nat.gcd_zero_right]
      · have e2 : mz_eu (n + 1) q r = mz_eu n r (q % r) := by
          show (if 0 < r then mz_eu n r (q % r) else mz_eu n q r) = _
          rw [if_pos h0]
        have g2 : Nat.gcd q r = Nat.gcd r (q % r) := by rw [Nat.gcd_comm q r, Nat.gcd_rec r q, Nat.gcd_comm]
        rw [e2, g2]
        apply ih
        · have a1 := Nat.mod_lt q h0
          have a2 : q % r + r ≤ q := by
            have := Nat.div_add_mod q r
            have b : 1 ≤ q / r := (Nat.one_le_div_iff h0).mpr (Nat.le_of_lt hrq)
            have c := Nat.mul_le_mul_left r b
            omega
          rw [Nat.pow_succ] at hq
          omega
        · omega
end
section
/- the greatest common divisor, found from above -/
theorem mz_cd {t b d : Int} (hb : 0 < b) (h1 : 1 ≤ d) (hd : d ∣ t) (hd' : d ∣ b) (hm : ∀ e, d < e → e ≤ b → ¬ (e ∣ t ∧ e ∣ b)) : d = mz_g t b := by
  have hg : mz_g t b ≤ b := Int.gcd_le_right t hb
  have hdg : d ∣ mz_g t b := Int.dvd_coe_gcd hd hd'
  have hp : 0 < mz_g t b := by
    have := Int.gcd_pos_of_ne_zero_right t (b := b) (by omega)
    unfold mz_g; omega
  have hle := Int.le_of_dvd hp hdg
  rcases Int.lt_or_eq_of_le hle with h | h
  · exact absurd ⟨Int.gcd_dvd_left t b, Int.gcd_dvd_right t b⟩ (hm _ h hg)
  · exact h
/- shadows: a line along an axis against the planes -/
def mz_Z (S : mz_P → Prop) (own rest : mz_P → Int) : Prop :=
  (∀ s, S s → own s = 0 → 0 ≤ rest s) ∧ ∀ s s', S s → S s' → own s < 0 → 0 < own s' → -rest s * own s' ≤ rest s' * -own s
theorem mz_Zend {S : mz_P → Prop} {own rest : mz_P → Int} {lt lb ht hb : Int} (h0 : ∀ s, S s → own s = 0 → 0 ≤ rest s)
    (hl : ∀ s, S s → own s < 0 → -rest s * lb ≤ lt * -own s) (hl' : ∃ s, S s ∧ own s < 0 ∧ lt = -rest s ∧ lb = -own s)
    (hh : ∀ s, S s → 0 < own s → ht * own s ≤ rest s * hb) (hh' : ∃ s, S s ∧ 0 < own s ∧ ht = rest s ∧ hb = own s) :
    lt * hb ≤ ht * lb ↔ mz_Z S own rest := by
  obtain ⟨a, Sa, oa, ea, eb⟩ := hl'
  obtain ⟨c, Sc, oc, ec, ed⟩ := hh'
  refine ⟨fun h => ⟨h0, fun s s' Ss Ss' os os' => ?_⟩, fun h => ?_⟩
  · have h1 := mz_tr (a := -rest s) (b := -own s) (c := lt) (d := lb) (e := ht) (f := hb) (by omega) (by omega) (by omega) (hl s Ss os) h
    exact mz_tr (a := -rest s) (b := -own s) (c := ht) (d := hb) (e := rest s') (f := own s') (by omega) (by omega) (by omega) h1 (hh s' Ss' os')
  · rw [ea, eb, ec, ed]; exact h.2 a c Sa Sc oa oc
/- one point -/
theorem mz_teq {a b c d e f : Int} (hd : d ≠ 0) (h1 : a * d = c * b) (h2 : c * f = e * d) : a * f = e * b := by
  have g : a * f * d = e * b * d := by
    have e1 : a * f * d = a * d * f := by grind
    have e2 : e * b * d = e * d * b := by grind
    rw [e1, e2, h1, ← h2]; grind
  exact Int.eq_of_mul_eq_mul_right hd g
def mz_same (C : mz_P → Prop) (s : mz_P) : Prop := ∀ t t', C t → C t' → mz_vl s t * t'.2.2.2 = mz_vl s t' * t.2.2.2
def mz_ng (s : mz_P) : mz_P := (-s.1, -s.2.1, -s.2.2.1, s.2.2.2)
theorem mz_vlng (s t : mz_P) : mz_vl (mz_ng s) t = - mz_vl s t := by
  simp only [mz_vl, mz_ng]; grind
theorem mz_nar {C : mz_P → Prop} {s : mz_P} {T B T' B' : Int} (hu : ∀ t, C t → 1 ≤ t.2.2.2) (h : mz_Bst C s T B) (h' : mz_Bst C (mz_ng s) T' B') :
    T * B' = -T' * B ↔ mz_same C s := by
  obtain ⟨a, Ca, ea, eb, ha⟩ := h
  obtain ⟨c, Cc, ec, ed, hc⟩ := h'
  have ua := hu a Ca
  have uc := hu c Cc
  rw [mz_vlng] at ec
  constructor
  · intro h
    have key : ∀ t, C t → mz_vl s t * B = T * t.2.2.2 := by
      intro t Ct
      have ut := hu t Ct
      have h1 := ha t Ct
      have h2 := hc t Ct
      rw [mz_vlng] at h2
      have h3 : T * t.2.2.2 ≤ mz_vl s t * B := by
        refine mz_tr (a := T) (b := B) (c := -T') (d := B') (e := mz_vl s t) (f := t.2.2.2) (by omega) (by omega) (by omega) (by omega) ?_
        have : -T' * t.2.2.2 = -(T' * t.2.2.2) := Int.neg_mul _ _
        have : -mz_vl s t * B' = -(mz_vl s t * B') := Int.neg_mul _ _
        omega
      omega
    intro t t' Ct Ct'
    exact mz_teq (a := mz_vl s t) (b := t.2.2.2) (c := T) (d := B) (e := mz_vl s t') (f := t'.2.2.2) (by omega) (key t Ct) (key t' Ct').symm
  · intro h
    have := h a c Ca Cc
    rw [ea, eb, ec, ed, Int.neg_neg]
    exact this
/- how large a corner's numbers are -/
def mz_R (D : Nat) (p : mz_P) : Prop := (-4 ≤ p.1 ∧ p.1 ≤ 4) ∧ (-4 ≤ p.2.1 ∧ p.2.1 ≤ 4) ∧ (-4 ≤ p.2.2.1 ∧ p.2.2.1 ≤ 4) ∧ (-(D : Int) ≤ p.2.2.2 ∧ p.2.2.2 ≤ D)
theorem mz_44 {a b : Int} (ha : -4 ≤ a ∧ a ≤ 4) (hb : -4 ≤ b ∧ b ≤ 4) : -16 ≤ a * b ∧ a * b ≤ 16 :=
  mz_mb 4 4 ha.1 ha.2 hb.1 hb.2
theorem mz_cb {a b c d : Int} (ha : -4 ≤ a ∧ a ≤ 4) (hb : -4 ≤ b ∧ b ≤ 4) (hc : -4 ≤ c ∧ c ≤ 4) (hd : -4 ≤ d ∧ d ≤ 4) : -32 ≤ a * b - c * d ∧ a * b - c * d ≤ 32 := by
  have h1 := mz_44 ha hb
  have h2 := mz_44 hc hd
  omega
theorem mz_4c {a b : Int} (ha : -4 ≤ a ∧ a ≤ 4) (hb : -32 ≤ b ∧ b ≤ 32) : -128 ≤ a * b ∧ a * b ≤ 128 :=
  mz_mb 4 32 ha.1 ha.2 hb.1 hb.2
theorem mz_dcb {a b : Int} (ha : -40 ≤ a ∧ a ≤ 40) (hb : -32 ≤ b ∧ b ≤ 32) : -1280 ≤ a * b ∧ a * b ≤ 1280 :=
  mz_mb 40 32 ha.1 ha.2 hb.1 hb.2
theorem mz_detb {p q r : mz_P} (hp : mz_R 40 p) (hq : mz_R 40 q) (hr : mz_R 40 r) : -384 ≤ mz_det p q r ∧ mz_det p q r ≤ 384 := by
  unfold mz_det
  have h1 := mz_4c hp.1 (mz_cb hq.2.1 hr.2.2.1 hq.2.2.1 hr.2.1)
  have h2 := mz_4c hp.2.1 (mz_cb hq.2.2.1 hr.1 hq.1 hr.2.2.1)
  have h3 := mz_4c hp.2.2.1 (mz_cb hq.1 hr.2.1 hq.2.1 hr.1)
  unfold mz_cx mz_cy mz_cz
  omega
theorem mz_txb {p q r : mz_P} (hp : mz_R 40 p) (hq : mz_R 40 q) (hr : mz_R 40 r) : (-3840 ≤ mz_tx p q r ∧ mz_tx p q r ≤ 3840) ∧ (-3840 ≤ mz_ty p q r ∧ mz_ty p q r ≤ 3840) ∧ (-3840 ≤ mz_tz p q r ∧ mz_tz p q r ≤ 3840) := by
  unfold mz_tx mz_ty mz_tz
  have h1 := mz_dcb hp.2.2.2 (mz_cb hq.2.1 hr.2.2.1 hq.2.2.1 hr.2.1)
  have h2 := mz_dcb hq.2.2.2 (mz_cb hr.2.1 hp.2.2.1 hr.2.2.1 hp.2.1)
  have h3 := mz_dcb hr.2.2.2 (mz_cb hp.2.1 hq.2.2.1 hp.2.2.1 hq.2.1)
  have i1 := mz_dcb hp.2.2.2 (mz_cb hq.2.2.1 hr.1 hq.1 hr.2.2.1)
  have i2 := mz_dcb hq.2.2.2 (mz_cb hr.2.2.1 hp.1 hr.1 hp.2.2.1)
  have i3 := mz_dcb hr.2.2.2 (mz_cb hp.2.2.1 hq.1 hp.1 hq.2.2.1)
  have j1 := mz_dcb hp.2.2.2 (mz_cb hq.1 hr.2.1 hq.2.1 hr.1)
  have j2 := mz_dcb hq.2.2.2 (mz_cb hr.1 hp.2.1 hr.2.1 hp.1)
  have j3 := mz_dcb hr.2.2.2 (mz_cb hp.1 hq.2.1 hp.2.1 hq.1)
  unfold mz_cx mz_cy mz_cz
  omega
theorem mz_sg1 (x : Int) : mz_sg x = 1 ∨ mz_sg x = -1 := by
  unfold mz_sg; by_cases h : x < 0
  · exact Or.inr (if_pos h)
  · exact Or.inl (if_neg h)
def mz_Q (t : mz_P) : Prop := (-3840 ≤ t.1 ∧ t.1 ≤ 3840) ∧ (-3840 ≤ t.2.1 ∧ t.2.1 ≤ 3840) ∧ (-3840 ≤ t.2.2.1 ∧ t.2.2.1 ≤ 3840) ∧ (-384 ≤ t.2.2.2 ∧ t.2.2.2 ≤ 384)
theorem mz_corQ {p q r : mz_P} (hp : mz_R 40 p) (hq : mz_R 40 q) (hr : mz_R 40 r) : mz_Q (mz_cor p q r) := by
  have h1 := mz_detb hp hq hr
  have h2 := mz_txb hp hq hr
  unfold mz_Q mz_cor
  rcases mz_sg1 (mz_det p q r) with e | e <;> rw [e] <;> simp only <;> omega
theorem mz_CQ {S : mz_P → Prop} {t : mz_P} (hS : ∀ p, S p → mz_R 40 p) (h : mz_C S t) : mz_Q t := by
  obtain ⟨p, q, r, Sp, Sq, Sr, _, ht, _⟩ := h
  rw [ht]; exact mz_corQ (hS p Sp) (hS q Sq) (hS r Sr)
/- in the cube -/
def mz_wl (i : Nat) : mz_P := if i = 0 then (1, 0, 0, 10) else if i = 1 then (-1, 0, 0, 10) else if i = 2 then (0, 1, 0, 10) else if i = 3 then (0, -1, 0, 10) else if i = 4 then (0, 0, 1, 10) else (0, 0, -1, 10)
theorem mz_ab {a x u : Int} (ha : -4 ≤ a ∧ a ≤ 4) (hx : -(10 * u) ≤ x ∧ x ≤ 10 * u) : -(40 * u) ≤ a * x ∧ a * x ≤ 40 * u := by
  have : a = -4 ∨ a = -3 ∨ a = -2 ∨ a = -1 ∨ a = 0 ∨ a = 1 ∨ a = 2 ∨ a = 3 ∨ a = 4 := by omega
  rcases this with e | e | e | e | e | e | e | e | e <;> subst e <;> omega
theorem mz_120 {S : mz_P → Prop} {s t : mz_P} {D : Nat} (hw : ∀ i, i < 6 → S (mz_wl i)) (hs : mz_R D s) (h : mz_C S t) : -(120 * t.2.2.2) ≤ mz_vl s t ∧ mz_vl s t ≤ 120 * t.2.2.2 := by
  obtain ⟨p, q, r, _, _, _, _, _, hk⟩ := h
  have k0 := hk _ (hw 0 (by decide))
  have k1 := hk _ (hw 1 (by decide))
  have k2 := hk _ (hw 2 (by decide))
  have k3 := hk _ (hw 3 (by decide))
  have k4 := hk _ (hw 4 (by decide))
  have k5 := hk _ (hw 5 (by decide))
  simp only [mz_kp, mz_vl, mz_wl] at k0 k1 k2 k3 k4 k5
  simp at k0 k1 k2 k3 k4 k5
  have a1 := mz_ab hs.1 (x := t.1) (u := t.2.2.2) (by omega)
  have a2 := mz_ab hs.2.1 (x := t.2.1) (u := t.2.2.2) (by omega)
  have a3 := mz_ab hs.2.2.1 (x := t.2.2.1) (u := t.2.2.2) (by omega)
  unfold mz_vl
  omega
/- how many triples are left -/
def mz_tri : Nat → Nat
  | 0 => 0
  | m + 1 => mz_tri m + m
def mz_tet : Nat → Nat
  | 0 => 0
  | m + 1 => mz_tet m + mz_tri m
theorem mz_tet13 : ∀ n, n ≤ 13 → mz_tet n ≤ 286 := by decide
end
section
/- planes and points as they lie in arrays -/
def mz_pl (F L : Nat → Int32) (i : Nat) : mz_P := ((F (3 * i)).toInt, (F (3 * i + 1)).toInt, (F (3 * i + 2)).toInt, (L i).toInt)
def mz_qa (a b c d : Nat → Int32) (e : Nat) : mz_P := ((a e).toInt, (b e).toInt, (c e).toInt, (d e).toInt)
/- a slope and a limit as a plane: the numbers as both sides compute them -/
def mz_dc (x d : Int32) : mz_P := ((x / 81 - 4).toInt, (x / 9 - x / 9 / 9 * 9 - 4).toInt, (x - x / 9 * 9 - 4).toInt, d.toInt)
theorem mz_dcR0 : ∀ s : Nat, s < 729 → (-4 ≤ (nI s / 81 - 4).toInt ∧ (nI s / 81 - 4).toInt ≤ 4) ∧ (-4 ≤ (nI s / 9 - nI s / 9 / 9 * 9 - 4).toInt ∧ (nI s / 9 - nI s / 9 / 9 * 9 - 4).toInt ≤ 4) ∧ (-4 ≤ (nI s - nI s / 9 * 9 - 4).toInt ∧ (nI s - nI s / 9 * 9 - 4).toInt ≤ 4) := by
  decide +kernel
theorem mz_dcR {s D : Nat} {d : Int32} (h : s < 729) (h1 : -(D : Int) ≤ d.toInt) (h2 : d.toInt ≤ D) : mz_R D (mz_dc (nI s) d) :=
  ⟨(mz_dcR0 s h).1, (mz_dcR0 s h).2.1, (mz_dcR0 s h).2.2, h1, h2⟩
theorem mz_w0 : mz_dc 445 10 = mz_wl 0 := by decide +kernel
theorem mz_w1 : mz_dc 283 10 = mz_wl 1 := by decide +kernel
theorem mz_w2 : mz_dc 373 10 = mz_wl 2 := by decide +kernel
theorem mz_w3 : mz_dc 355 10 = mz_wl 3 := by decide +kernel
theorem mz_w4 : mz_dc 365 10 = mz_wl 4 := by decide +kernel
theorem mz_w5 : mz_dc 363 10 = mz_wl 5 := by decide +kernel
theorem mz_wlR : ∀ e : Nat, e < 6 → mz_R 40 (mz_wl e) := by
  intro e he
  have : e = 0 ∨ e = 1 ∨ e = 2 ∨ e = 3 ∨ e = 4 ∨ e = 5 := by omega
  rcases this with h | h | h | h | h | h <;> subst h <;> refine ⟨⟨?_, ?_⟩, ⟨?_, ?_⟩, ⟨?_, ?_⟩, ?_, ?_⟩ <;> decide
/- points that the corners of the triples done are among -/
def mz_D (pl : Nat → mz_P) (g : Nat → Prop) (lt : Nat → Nat → Nat → Prop) (t : mz_P) : Prop :=
  ∃ i j k, i < j ∧ j < k ∧ g i ∧ g j ∧ g k ∧ lt i j k ∧ mz_det (pl i) (pl j) (pl k) ≠ 0 ∧ t = mz_cor (pl i) (pl j) (pl k)
theorem mz_Dall {pl : Nat → mz_P} {g : Nat → Prop} {lt : Nat → Nat → Nat → Prop} {t : mz_P} (h : ∀ i j k, i < j → j < k → g i → g j → g k → lt i j k) (hC : mz_C (mz_S pl g) t) : mz_D pl g lt t := by
  obtain ⟨i, j, k, a, b, gi, gj, gk, hd, ht⟩ := mz_Cix hC
  exact ⟨i, j, k, a, b, gi, gj, gk, h i j k a b gi gj gk, hd, ht⟩
theorem mz_Dmo {pl : Nat → mz_P} {g : Nat → Prop} {lt lt' : Nat → Nat → Nat → Prop} {t : mz_P} (h : ∀ i j k, i < j → j < k → g i → g j → g k → lt' i j k → lt i j k) (hD : mz_D pl g lt' t) : mz_D pl g lt t := by
  obtain ⟨i, j, k, a, b, gi, gj, gk, l, r⟩ := hD
  exact ⟨i, j, k, a, b, gi, gj, gk, h i j k a b gi gj gk l, r⟩
theorem mz_Dst {pl : Nat → mz_P} {g : Nat → Prop} {lt lt' : Nat → Nat → Nat → Prop} {t : mz_P} (i j k : Nat)
    (h : ∀ i' j' k', i' < j' → j' < k' → g i' → g j' → g k' → lt' i' j' k' → lt i' j' k' ∨ (i' = i ∧ j' = j ∧ k' = k)) (hD : mz_D pl g lt' t) :
    mz_D pl g lt t ∨ (i < j ∧ j < k ∧ g i ∧ g j ∧ g k ∧ mz_det (pl i) (pl j) (pl k) ≠ 0 ∧ t = mz_cor (pl i) (pl j) (pl k)) := by
  obtain ⟨i', j', k', a, b, gi, gj, gk, l, r⟩ := hD
  rcases h i' j' k' a b gi gj gk l with l | ⟨rfl, rfl, rfl⟩
  · exact Or.inl ⟨i', j', k', a, b, gi, gj, gk, l, r⟩
  · exact Or.inr ⟨a, b, gi, gj, gk, r⟩
/- the component's store of corners -/
def mz_V (S D : mz_P → Prop) (pt : Nat → mz_P) (n : Nat) : Prop := (∀ c, c < n → mz_C S (pt c)) ∧ ∀ t, D t → mz_C S t → ∃ c, c < n ∧ pt c = t
theorem mz_Vno {S D D' : mz_P → Prop} {pt pt' : Nat → mz_P} {n : Nat} (hV : mz_V S D pt n) (he : ∀ c, c < n → pt' c = pt c) (h : ∀ t, D' t → mz_C S t → D t) : mz_V S D' pt' n := by
  refine ⟨fun c hc => by rw [he c hc]; exact hV.1 c hc, fun t hD hC => ?_⟩
  obtain ⟨c, hc, e⟩ := hV.2 t (h t hD hC) hC
  exact ⟨c, hc, by rw [he c hc]; exact e⟩
theorem mz_Vmo {S D D' : mz_P → Prop} {pt : Nat → mz_P} {n : Nat} (hV : mz_V S D pt n) (h : ∀ t, D' t → D t) : mz_V S D' pt n :=
  mz_Vno hV (fun _ _ => rfl) (fun t hD _ => h t hD)
theorem mz_Vyes {S D D' : mz_P → Prop} {pt pt' : Nat → mz_P} {n : Nat} {t0 : mz_P} (hV : mz_V S D pt n) (he : ∀ c, c < n → pt' c = pt c) (h : ∀ t, D' t → mz_C S t → D t ∨ t = t0) (h0 : pt' n = t0) (hC0 : mz_C S t0) : mz_V S D' pt' (n + 1) := by
  refine ⟨fun c hc => ?_, fun t hD hC => ?_⟩
  · rcases Nat.lt_or_ge c n with a | a
    · rw [he c a]; exact hV.1 c a
    · have : c = n := by omega
      subst this; rw [h0]; exact hC0
  · rcases h t hD hC with a | a
    · obtain ⟨c, hc, e⟩ := hV.2 t a hC
      exact ⟨c, by omega, by rw [he c hc]; exact e⟩
    · exact ⟨n, by omega, by rw [h0, a]⟩
/- the order of the component's triples -/
def mz_lx (i j k i' j' k' : Nat) : Prop := i' < i ∨ (i' = i ∧ (j' < j ∨ (j' = j ∧ k' < k)))
/- the order of the reference's triples -/
def mz_cl (m code i' j' k' : Nat) : Prop := i' + m * (j' + m * k') < code
theorem mz_cl1 {m code i' j' k' : Nat} (hi : i' < m) (hj : j' < m) (h : mz_cl m (code + 1) i' j' k') : mz_cl m code i' j' k' ∨ (i' = code % m ∧ j' = code / m % m ∧ k' = code / m / m) := by
  unfold mz_cl at *
  rcases Nat.lt_or_ge (i' + m * (j' + m * k')) code with a | a
  · exact Or.inl a
  · have e : code = i' + m * (j' + m * k') := by omega
    have h0 : 0 < m := by omega
    have e1 : code % m = i' := by rw [e, Nat.add_mul_mod_self_left, Nat.mod_eq_of_lt hi]
    have e2 : code / m = j' + m * k' := by rw [e, Nat.add_mul_div_left _ _ h0, Nat.div_eq_of_lt hi, Nat.zero_add]
    have e3 : code / m % m = j' := by rw [e2, Nat.add_mul_mod_self_left, Nat.mod_eq_of_lt hj]
    have e4 : code / m / m = k' := by rw [e2, Nat.add_mul_div_left _ _ h0, Nat.div_eq_of_lt hj, Nat.zero_add]
    exact Or.inr ⟨e1.symm, e3.symm, e4.symm⟩
theorem mz_clE {m i' j' k' : Nat} (hi : i' < m) (hj : j' < m) (hk : k' < m) : mz_cl m (m * m * m) i' j' k' := by
  unfold mz_cl
  have a : m * k' + m ≤ m * m := by
    have := Nat.mul_le_mul_left m (show k' + 1 ≤ m by omega)
    rw [Nat.mul_add, Nat.mul_one] at this; exact this
  have b : m * (j' + m * k' + 1) ≤ m * (m * m) := Nat.mul_le_mul_left m (by omega)
  rw [Nat.mul_add, Nat.mul_one] at b
  rw [Nat.mul_assoc]
  omega
theorem mz_ck {m code : Nat} (h0 : 0 < m) (h : code < m * m * m) : code % m < m ∧ code / m % m < m ∧ code / m / m < m := by
  refine ⟨Nat.mod_lt _ h0, Nat.mod_lt _ h0, ?_⟩
  rw [Nat.div_div_eq_div_mul]
  exact Nat.div_lt_of_lt_mul h
/- the reference's search -/
def mz_W (S D : mz_P → Prop) (s : mz_P) (any : Nat) (T B : Int) : Prop :=
  (any = 0 ∧ ∀ t, D t → ¬ mz_C S t) ∨ (any = 1 ∧ ∃ t0, mz_C S t0 ∧ T = mz_vl s t0 ∧ B = t0.2.2.2 ∧ ∀ t, D t → mz_C S t → mz_vl s t * B ≤ T * t.2.2.2)
theorem mz_Wno {S D D' : mz_P → Prop} {s : mz_P} {any : Nat} {T B : Int} (hW : mz_W S D s any T B) (h : ∀ t, D' t → mz_C S t → D t) : mz_W S D' s any T B := by
  rcases hW with ⟨e, a⟩ | ⟨e, t0, h0, eT, eB, a⟩
  · exact Or.inl ⟨e, fun t hD hC => a t (h t hD hC) hC⟩
  · exact Or.inr ⟨e, t0, h0, eT, eB, fun t hD hC => a t (h t hD hC) hC⟩
theorem mz_Wst {S D D' : mz_P → Prop} {s : mz_P} {any : Nat} {T B : Int} {t1 : mz_P} (hW : mz_W S D s any T B) (h : ∀ t, D' t → mz_C S t → D t ∨ t = t1) (h1 : mz_C S t1) (hc : any = 1) (hn : ¬ T * t1.2.2.2 < mz_vl s t1 * B) : mz_W S D' s 1 T B := by
  rcases hW with ⟨e, _⟩ | ⟨e, t0, h0, eT, eB, a⟩
  · omega
  · refine Or.inr ⟨rfl, t0, h0, eT, eB, fun t hD hC => ?_⟩
    rcases h t hD hC with b | b
    · exact a t b hC
    · rw [b]; omega
theorem mz_Wnew {S D D' : mz_P → Prop} {s : mz_P} {any : Nat} {T B : Int} {t1 : mz_P} (hW : mz_W S D s any T B) (h : ∀ t, D' t → mz_C S t → D t ∨ t = t1) (h1 : mz_C S t1) (hc : any = 0 ∨ T * t1.2.2.2 < mz_vl s t1 * B) : mz_W S D' s 1 (mz_vl s t1) t1.2.2.2 := by
  refine Or.inr ⟨rfl, t1, h1, rfl, rfl, fun t hD hC => ?_⟩
  rcases h t hD hC with b | b
  · rcases hW with ⟨e, a⟩ | ⟨e, t0, h0, eT, eB, a⟩
    · exact absurd hC (a t b)
    · rcases hc with c | c
      · omega
      · have u0 := mz_Cun h0
        have u1 := mz_Cun h1
        have u := mz_Cun hC
        exact mz_tr (a := mz_vl s t) (b := t.2.2.2) (c := T) (d := B) (e := mz_vl s t1) (f := t1.2.2.2) (by omega) (by omega) (by omega) (a t b hC) (by omega)
  · rw [b]; exact Int.le_refl _
theorem mz_Wend {S D : mz_P → Prop} {s : mz_P} {any : Nat} {T B : Int} (hW : mz_W S D s any T B) (h : ∀ t, mz_C S t → D t) : (any = 0 ∧ ∀ t, ¬ mz_C S t) ∨ (any = 1 ∧ mz_Bst (mz_C S) s T B) := by
  rcases hW with ⟨e, a⟩ | ⟨e, t0, h0, eT, eB, a⟩
  · exact Or.inl ⟨e, fun t hC => a t (h t hC) hC⟩
  · exact Or.inr ⟨e, t0, h0, eT, eB, fun t hC => a t (h t hC) hC⟩
/- triples left -/
theorem mz_tri1 {N j : Nat} (h : j < N) : mz_tri (N - j) = mz_tri (N - (j + 1)) + (N - (j + 1)) := by
  obtain ⟨m, e⟩ : ∃ m, N - j = m + 1 := ⟨N - j - 1, by omega⟩
  have e' : N - (j + 1) = m := by omega
  rw [e, e']; rfl
theorem mz_tet1 {N j : Nat} (h : j < N) : mz_tet (N - j) = mz_tet (N - (j + 1)) + mz_tri (N - (j + 1)) := by
  obtain ⟨m, e⟩ : ∃ m, N - j = m + 1 := ⟨N - j - 1, by omega⟩
  have e' : N - (j + 1) = m := by omega
  rw [e, e']; rfl
/- coordinates -/
def mz_co (ax : Nat) (t : mz_P) : Int := if ax = 0 then t.1 else if ax = 1 then t.2.1 else t.2.2.1
def mz_un1 (ax : Nat) (sg : Int) : mz_P := (if ax = 0 then sg else 0, if ax = 1 then sg else 0, if ax = 2 then sg else 0, 0)
theorem mz_vlu (sg : Int) (t : mz_P) : ∀ ax, ax < 3 → mz_vl (mz_un1 ax sg) t = sg * mz_co ax t := by
  intro ax h
  have : ax = 0 ∨ ax = 1 ∨ ax = 2 := by omega
  rcases this with e | e | e <;> subst e <;> simp [mz_vl, mz_un1, mz_co]
theorem mz_plc (F L : Nat → Int32) (i : Nat) : ∀ ax, ax < 3 → mz_co ax (mz_pl F L i) = (F (3 * i + ax)).toInt := by
  intro ax h
  have : ax = 0 ∨ ax = 1 ∨ ax = 2 := by omega
  rcases this with e | e | e <;> subst e <;> rfl
/- the shadow's loop -/
def mz_ZI (S Dn : mz_P → Prop) (own rest : mz_P → Int) (M lt lb ht hb : Int) : Prop :=
  (∀ s, Dn s → own s = 0 → 0 ≤ rest s) ∧
  (∀ s, Dn s → own s < 0 → -rest s * lb ≤ lt * -own s) ∧ ((lt = -M ∧ lb = 1) ∨ ∃ s, S s ∧ own s < 0 ∧ lt = -rest s ∧ lb = -own s) ∧
  (∀ s, Dn s → 0 < own s → ht * own s ≤ rest s * hb) ∧ ((ht = M ∧ hb = 1) ∨ ∃ s, S s ∧ 0 < own s ∧ ht = rest s ∧ hb = own s)
theorem mz_ZIlb {S Dn : mz_P → Prop} {own rest : mz_P → Int} {M lt lb ht hb : Int} (h : mz_ZI S Dn own rest M lt lb ht hb) : 0 < lb ∧ 0 < hb := by
  obtain ⟨_, _, h1, _, h2⟩ := h
  refine ⟨?_, ?_⟩
  · rcases h1 with ⟨_, e⟩ | ⟨s, _, o, _, e⟩ <;> omega
  · rcases h2 with ⟨_, e⟩ | ⟨s, _, o, _, e⟩ <;> omega
theorem mz_ZI0 {S Dn : mz_P → Prop} {own rest : mz_P → Int} {M : Int} (h : ∀ s, ¬ Dn s) : mz_ZI S Dn own rest M (-M) 1 M 1 :=
  ⟨fun s d => absurd d (h s), fun s d => absurd d (h s), Or.inl ⟨rfl, rfl⟩, fun s d => absurd d (h s), Or.inl ⟨rfl, rfl⟩⟩
/- one plane more: the high end, then the low end -/
def mz_nh (o r ht hb : Int) : Prop := 0 < o ∧ r * hb < ht * o
def mz_nl (o r lt lb : Int) : Prop := o < 0 ∧ lt * -o < -r * lb
theorem mz_ZIs {S Dn Dn' : mz_P → Prop} {own rest : mz_P → Int} {M lt lb ht hb lt' lb' ht' hb' : Int} {s0 : mz_P}
    (h : mz_ZI S Dn own rest M lt lb ht hb) (hs : S s0) (hD : ∀ s, Dn' s → Dn s ∨ s = s0) (h0 : own s0 = 0 → 0 ≤ rest s0)
    (hh : (mz_nh (own s0) (rest s0) ht hb ∧ ht' = rest s0 ∧ hb' = own s0) ∨ (¬ mz_nh (own s0) (rest s0) ht hb ∧ ht' = ht ∧ hb' = hb))
    (hl : (mz_nl (own s0) (rest s0) lt lb ∧ lt' = -rest s0 ∧ lb' = -own s0) ∨ (¬ mz_nl (own s0) (rest s0) lt lb ∧ lt' = lt ∧ lb' = lb)) :
    mz_ZI S Dn' own rest M lt' lb' ht' hb' := by
  have hp := mz_ZIlb h
  obtain ⟨z0, l1, l2, u1, u2⟩ := h
  refine ⟨fun s d o => ?_, fun s d o => ?_, ?_, fun s d o => ?_, ?_⟩
  · rcases hD s d with a | a
    · exact z0 s a o
    · rw [a] at o ⊢; exact h0 o
  · rcases hl with ⟨c, e1, e2⟩ | ⟨c, e1, e2⟩ <;> rw [e1, e2]
    · rcases hD s d with a | a
      · exact mz_tr (a := -rest s) (b := -own s) (c := lt) (d := lb) (e := -rest s0) (f := -own s0) (by omega) (by omega) (by have := c.1; omega) (l1 s a o) (by have := c.2; omega)
      · rw [a]; exact Int.le_refl _
    · rcases hD s d with a | a
      · exact l1 s a o
      · rw [a] at o ⊢
        have : ¬ lt * -own s0 < -rest s0 * lb := fun z => c ⟨o, z⟩
        omega
  · rcases hl with ⟨c, e1, e2⟩ | ⟨c, e1, e2⟩ <;> rw [e1, e2]
    · exact Or.inr ⟨s0, hs, c.1, rfl, rfl⟩
    · exact l2
  · rcases hh with ⟨c, e1, e2⟩ | ⟨c, e1, e2⟩ <;> rw [e1, e2]
    · rcases hD s d with a | a
      · exact mz_tr (a := rest s0) (b := own s0) (c := ht) (d := hb) (e := rest s) (f := own s) (by have := c.1; omega) (by omega) (by omega) (by have := c.2; omega) (u1 s a o)
      · rw [a]; exact Int.le_refl _
    · rcases hD s d with a | a
      · exact u1 s a o
      · rw [a] at o ⊢
        have : ¬ rest s0 * hb < ht * own s0 := fun z => c ⟨o, z⟩
        omega
  · rcases hh with ⟨c, e1, e2⟩ | ⟨c, e1, e2⟩ <;> rw [e1, e2]
    · exact Or.inr ⟨s0, hs, c.1, rfl, rfl⟩
    · exact u2
theorem mz_ZIe {S Dn : mz_P → Prop} {own rest : mz_P → Int} {M R lt lb ht hb : Int} (h : mz_ZI S Dn own rest M lt lb ht hb) (hD : ∀ s, S s → Dn s) (hM : R ≤ M)
    (hwl : ∃ s, S s ∧ own s = -1 ∧ rest s = R) (hwh : ∃ s, S s ∧ own s = 1 ∧ rest s = R) : lt * hb ≤ ht * lb ↔ mz_Z S own rest := by
  obtain ⟨z0, l1, l2, u1, u2⟩ := h
  obtain ⟨a, Sa, oa, ra⟩ := hwl
  obtain ⟨b, Sb, ob, rb⟩ := hwh
  refine mz_Zend (fun s d => z0 s (hD s d)) (fun s d => l1 s (hD s d)) ?_ (fun s d => u1 s (hD s d)) ?_
  · rcases l2 with ⟨e1, e2⟩ | h
    · have := l1 a (hD a Sa) (by omega)
      rw [oa, ra, e1, e2] at this
      exact ⟨a, Sa, by omega, by omega, by omega⟩
    · exact h
  · rcases u2 with ⟨e1, e2⟩ | h
    · have := u1 b (hD b Sb) (by omega)
      rw [ob, rb, e1, e2] at this
      exact ⟨b, Sb, by omega, by omega, by omega⟩
    · exact h
/- the rest of a plane's limit along a line -/
def mz_lx3 (ax : Nat) (p q : Int) : mz_P := (if ax = 0 then 0 else p, if ax = 0 then p else if ax = 1 then 0 else q, if ax = 2 then 0 else q, 0)
def mz_rs (ax : Nat) (p q k : Int) (s : mz_P) : Int := s.2.2.2 * k - s.1 * (mz_lx3 ax p q).1 - s.2.1 * (mz_lx3 ax p q).2.1 - s.2.2.1 * (mz_lx3 ax p q).2.2.1
/- one answer as a number -/
noncomputable def mz_zi (Z : Prop) : Nat := @ite Nat Z (Classical.propDecidable Z) 1 0
theorem mz_ziT {Z : Prop} (h : Z) : mz_zi Z = 1 := if_pos h
theorem mz_ziF {Z : Prop} (h : ¬ Z) : mz_zi Z = 0 := if_neg h
theorem mz_zi1 (Z : Prop) : mz_zi Z ≤ 1 := by
  by_cases h : Z
  · rw [mz_ziT h]; omega
  · rw [mz_ziF h]; omega
/- points of one coordinate -/
theorem mz_all3 {P : Nat → Prop} (h0 : P 0) (h1 : P 1) (h2 : P 2) : ∀ ax, ax < 3 → P ax := by
  intro ax h
  have : ax = 0 ∨ ax = 1 ∨ ax = 2 := by omega
  rcases this with e | e | e <;> subst e <;> assumption
end
section
/- what the component's store says when it is full -/
def mz_F (C : mz_P → Prop) (pt : Nat → mz_P) (n : Nat) : Prop := (∀ c, c < n → C (pt c)) ∧ ∀ t, C t → ∃ c, c < n ∧ pt c = t
theorem mz_VF {S D : mz_P → Prop} {pt : Nat → mz_P} {n : Nat} (hV : mz_V S D pt n) (h : ∀ t, mz_C S t → D t) : mz_F (mz_C S) pt n :=
  ⟨hV.1, fun t hC => hV.2 t (h t hC) hC⟩
theorem mz_Fe {C : mz_P → Prop} {pt : Nat → mz_P} {n : Nat} (h : mz_F C pt n) : n = 0 ↔ ∀ t, ¬ C t := by
  refine ⟨fun e t ht => ?_, fun e => ?_⟩
  · obtain ⟨c, hc, _⟩ := h.2 t ht
    omega
  · rcases Nat.eq_zero_or_pos n with a | a
    · exact a
    · exact absurd (h.1 0 a) (e _)
theorem mz_Fk {C : mz_P → Prop} {pt : Nat → mz_P} {n : Nat} (h : mz_F C pt n) (P : mz_P → Prop) : (∀ c, c < n → P (pt c)) ↔ ∀ t, C t → P t := by
  refine ⟨fun a t ht => ?_, fun a c hc => a _ (h.1 c hc)⟩
  obtain ⟨c, hc, e⟩ := h.2 t ht
  rw [← e]; exact a c hc
/- what the reference's search says at its end -/
def mz_G (C : mz_P → Prop) (s : mz_P) (any : Nat) (T B : Int) : Prop := (any = 0 ∧ ∀ t, ¬ C t) ∨ (any = 1 ∧ mz_Bst C s T B)
theorem mz_Ge {C : mz_P → Prop} {s : mz_P} {any : Nat} {T B : Int} (h : mz_G C s any T B) : any = 0 ↔ ∀ t, ¬ C t := by
  rcases h with ⟨e, a⟩ | ⟨e, t, ht, _⟩
  · exact ⟨fun _ => a, fun _ => e⟩
  · exact ⟨fun z => by omega, fun z => absurd ht (z t)⟩
theorem mz_Gk {C : mz_P → Prop} {s : mz_P} {any : Nat} {T B : Int} (hu : ∀ t, C t → 1 ≤ t.2.2.2) (h : mz_G C s any T B) (d : Int) : (∀ t, C t → mz_vl s t ≤ d * t.2.2.2) ↔ (any = 0 ∨ T ≤ d * B) := by
  rcases h with ⟨e, a⟩ | ⟨e, b⟩
  · exact ⟨fun _ => Or.inl e, fun _ t ht => absurd ht (a t)⟩
  · rw [mz_keep d hu b]
    exact ⟨Or.inr, fun z => z.resolve_left (by omega)⟩
/- the least whole limit -/
def mz_Sup (C : mz_P → Prop) (s : mz_P) (r : Int) : Prop := (∀ t, C t → mz_vl s t ≤ r * t.2.2.2) ∧ ∃ t, C t ∧ (r - 1) * t.2.2.2 < mz_vl s t
theorem mz_Sup1 {C : mz_P → Prop} {s : mz_P} {r r' : Int} (hu : ∀ t, C t → 1 ≤ t.2.2.2) (h : mz_Sup C s r) (h' : mz_Sup C s r') : r' = r := by
  have key : ∀ a b : Int, mz_Sup C s a → mz_Sup C s b → ¬ a < b := by
    intro a b ha hb hab
    obtain ⟨t, ht, hl⟩ := hb.2
    have h1 := ha.1 t ht
    have u := hu t ht
    have := Int.mul_le_mul_of_nonneg_right (show a ≤ b - 1 by omega) (show 0 ≤ t.2.2.2 by omega)
    omega
  have a := key r r' h h'
  have b := key r' r h' h
  omega
theorem mz_Sup2 {C : mz_P → Prop} {s : mz_P} {r : Int} (h1 : ∀ t, C t → mz_vl s t ≤ r * t.2.2.2) (h2 : ¬ ∀ t, C t → mz_vl s t ≤ (r - 1) * t.2.2.2) : mz_Sup C s r := by
  refine ⟨h1, ?_⟩
  refine Classical.byContradiction fun h => h2 fun t ht => ?_
  refine Classical.byContradiction fun h3 => h ⟨t, ht, by omega⟩
/- the farthest coordinate in lowest terms -/
def mz_Rc (C : mz_P → Prop) (ax : Nat) (sg a b : Int) : Prop := ∃ t, C t ∧ (∀ t', C t' → sg * mz_co ax t' * t.2.2.2 ≤ sg * mz_co ax t * t'.2.2.2) ∧ a = (mz_co ax t).tdiv (mz_g (mz_co ax t) t.2.2.2) ∧ b = t.2.2.2.tdiv (mz_g (mz_co ax t) t.2.2.2)
theorem mz_Rc1 {C : mz_P → Prop} {ax : Nat} {sg a b a' b' : Int} (hs : sg = 1 ∨ sg = -1) (hu : ∀ t, C t → 1 ≤ t.2.2.2) (h : mz_Rc C ax sg a b) (h' : mz_Rc C ax sg a' b') : a' = a ∧ b' = b := by
  obtain ⟨t, ht, hm, e1, e2⟩ := h
  obtain ⟨t', ht', hm', e1', e2'⟩ := h'
  have u := hu t ht
  have u' := hu t' ht'
  have k1 := hm t' ht'
  have k2 := hm' t ht
  have e : mz_co ax t' * t.2.2.2 = mz_co ax t * t'.2.2.2 := by
    rcases hs with z | z <;> subst z
    · simp only [Int.one_mul] at k1 k2; omega
    · simp only [Int.neg_mul, Int.one_mul] at k1 k2; omega
  have r := mz_red (by omega) (by omega) e
  rw [e1, e2, e1', e2']
  exact r
/- one point -/
def mz_one (C : mz_P → Prop) : Prop := (∃ t, C t) ∧ ∀ ax, ax < 3 → ∀ t t', C t → C t' → mz_co ax t * t'.2.2.2 = mz_co ax t' * t.2.2.2
theorem mz_Fone {C : mz_P → Prop} {pt : Nat → mz_P} {n : Nat} (hu : ∀ t, C t → 1 ≤ t.2.2.2) (h : mz_F C pt n) (h0 : 0 < n) :
    (∀ c, c < n → ∀ ax, ax < 3 → mz_co ax (pt c) * (pt 0).2.2.2 = mz_co ax (pt 0) * (pt c).2.2.2) ↔ mz_one C := by
  constructor
  · intro a
    refine ⟨⟨pt 0, h.1 0 h0⟩, fun ax hx t t' ht ht' => ?_⟩
    obtain ⟨c, hc, rfl⟩ := h.2 t ht
    obtain ⟨c', hc', rfl⟩ := h.2 t' ht'
    have u0 := hu _ (h.1 0 h0)
    exact mz_teq (a := mz_co ax (pt c)) (b := (pt c).2.2.2) (c := mz_co ax (pt 0)) (d := (pt 0).2.2.2) (e := mz_co ax (pt c')) (f := (pt c').2.2.2) (by omega) (a c hc ax hx) (a c' hc' ax hx).symm
  · intro a c hc ax hx
    exact a.2 ax hx _ _ (h.1 c hc) (h.1 0 h0)
theorem mz_Gone {C : mz_P → Prop} {ax any any' : Nat} {T B T' B' : Int} (hx : ax < 3) (hu : ∀ t, C t → 1 ≤ t.2.2.2) (h : mz_G C (mz_un1 ax 1) any T B) (h' : mz_G C (mz_un1 ax (-1)) any' T' B') :
    (any' ≠ 0 ∧ T * B' = -T' * B) ↔ ((∃ t, C t) ∧ ∀ t t', C t → C t' → mz_co ax t * t'.2.2.2 = mz_co ax t' * t.2.2.2) := by
  have hn : ∀ t, mz_vl (mz_un1 ax (-1)) t = mz_vl (mz_ng (mz_un1 ax 1)) t := by
    intro t; rw [mz_vlng, mz_vlu _ _ ax hx, mz_vlu _ _ ax hx]; omega
  rcases h' with ⟨e', a'⟩ | ⟨e', b'⟩
  · exact ⟨fun z => absurd e' z.1, fun z => z.1.elim fun t ht => absurd ht (a' t)⟩
  · rcases h with ⟨e, a⟩ | ⟨e, b⟩
    · obtain ⟨t, ht, _⟩ := b'
      exact absurd ht (a t)
    · have b2 : mz_Bst C (mz_ng (mz_un1 ax 1)) T' B' := by
        obtain ⟨t, ht, eT, eB, hm⟩ := b'
        exact ⟨t, ht, by rw [eT, hn], eB, fun t' ht' => by rw [← hn]; exact hm t' ht'⟩
      have k := mz_nar hu b b2
      have ex : ∃ t, C t := b.elim fun t ht => ⟨t, ht.1⟩
      constructor
      · intro z
        refine ⟨ex, fun t t' ht ht' => ?_⟩
        have := k.mp z.2 t t' ht ht'
        rw [mz_vlu _ _ ax hx, mz_vlu _ _ ax hx, Int.one_mul, Int.one_mul] at this
        exact this
      · intro z
        refine ⟨by omega, k.mpr fun t t' ht ht' => ?_⟩
        rw [mz_vlu _ _ ax hx, mz_vlu _ _ ax hx, Int.one_mul, Int.one_mul]
        exact z.2 t t' ht ht'
/- how large the best is -/
theorem mz_Qv {s t : mz_P} {D : Nat} (hs : mz_R D s) (ht : mz_Q t) : -46080 ≤ mz_vl s t ∧ mz_vl s t ≤ 46080 := by
  have h1 := mz_mb 4 3840 hs.1.1 hs.1.2 ht.1.1 ht.1.2
  have h2 := mz_mb 4 3840 hs.2.1.1 hs.2.1.2 ht.2.1.1 ht.2.1.2
  have h3 := mz_mb 4 3840 hs.2.2.1.1 hs.2.2.1.2 ht.2.2.1.1 ht.2.2.1.2
  unfold mz_vl
  omega
theorem mz_Qd {t : mz_P} {d : Int} {D : Nat} (hd : -(D : Int) ≤ d ∧ d ≤ D) (ht : mz_Q t) : -((D * 384 : Nat) : Int) ≤ d * t.2.2.2 ∧ d * t.2.2.2 ≤ ((D * 384 : Nat) : Int) :=
  mz_mb D 384 hd.1 hd.2 ht.2.2.2.1 ht.2.2.2.2
end
section
/- values as both sides compute them -/
theorem mz_z0 : mz_z 0 = 0 := by decide
theorem mz_z1 : mz_z 1 = 1 := by decide
theorem mz_zm1 : mz_z (-1) = -1 := by decide
theorem mz_l0 : mz_l 0 = 0 := by decide
theorem mz_l1 : mz_l 1 = 1 := by decide
theorem mz_lm1 : mz_l (-1) = -1 := by decide
def mz_cr (ax : Nat) (p q : mz_P) : Int := if ax = 0 then mz_cx p q else if ax = 1 then mz_cy p q else mz_cz p q
def mz_tp (ax : Nat) (p q r : mz_P) : Int := if ax = 0 then mz_tx p q r else if ax = 1 then mz_ty p q r else mz_tz p q r
theorem mz_vcx (F L : Nat → Int32) (i j : Nat) : F (3 * i + 1) * F (3 * j + 2) - F (3 * i + 2) * F (3 * j + 1) = mz_z (mz_cr 0 (mz_pl F L i) (mz_pl F L j)) := by
  show _ = mz_z ((F (3 * i + 1)).toInt * (F (3 * j + 2)).toInt - (F (3 * i + 2)).toInt * (F (3 * j + 1)).toInt)
  rw [← mz_zs, ← mz_zm, ← mz_zm, mz_zt, mz_zt, mz_zt, mz_zt]
theorem mz_vcy (F L : Nat → Int32) (i j : Nat) : F (3 * i + 2) * F (3 * j) - F (3 * i) * F (3 * j + 2) = mz_z (mz_cr 1 (mz_pl F L i) (mz_pl F L j)) := by
  show _ = mz_z ((F (3 * i + 2)).toInt * (F (3 * j)).toInt - (F (3 * i)).toInt * (F (3 * j + 2)).toInt)
  rw [← mz_zs, ← mz_zm, ← mz_zm, mz_zt, mz_zt, mz_zt, mz_zt]
theorem mz_vcz (F L : Nat → Int32) (i j : Nat) : F (3 * i) * F (3 * j + 1) - F (3 * i + 1) * F (3 * j) = mz_z (mz_cr 2 (mz_pl F L i) (mz_pl F L j)) := by
  show _ = mz_z ((F (3 * i)).toInt * (F (3 * j + 1)).toInt - (F (3 * i + 1)).toInt * (F (3 * j)).toInt)
  rw [← mz_zs, ← mz_zm, ← mz_zm, mz_zt, mz_zt, mz_zt, mz_zt]
theorem mz_vdet (F L : Nat → Int32) (i j k : Nat) :
    0 + F (3 * i) * mz_z (mz_cr 0 (mz_pl F L j) (mz_pl F L k)) + F (3 * i + 1) * mz_z (mz_cr 1 (mz_pl F L j) (mz_pl F L k)) + F (3 * i + 2) * mz_z (mz_cr 2 (mz_pl F L j) (mz_pl F L k)) = mz_z (mz_det (mz_pl F L i) (mz_pl F L j) (mz_pl F L k)) := by
  show _ = mz_z ((F (3 * i)).toInt * mz_cr 0 (mz_pl F L j) (mz_pl F L k) + (F (3 * i + 1)).toInt * mz_cr 1 (mz_pl F L j) (mz_pl F L k) + (F (3 * i + 2)).toInt * mz_cr 2 (mz_pl F L j) (mz_pl F L k))
  rw [← mz_za, ← mz_za, ← mz_zm, ← mz_zm, ← mz_zm, mz_zt, mz_zt, mz_zt, Int32.zero_add]
theorem mz_vtop (F L : Nat → Int32) (i j k : Nat) : ∀ ax, ax < 3 →
    L i * mz_z (mz_cr ax (mz_pl F L j) (mz_pl F L k)) + L j * mz_z (mz_cr ax (mz_pl F L k) (mz_pl F L i)) + L k * mz_z (mz_cr ax (mz_pl F L i) (mz_pl F L j)) = mz_z (mz_tp ax (mz_pl F L i) (mz_pl F L j) (mz_pl F L k)) := by
  intro ax hx
  have e : mz_tp ax (mz_pl F L i) (mz_pl F L j) (mz_pl F L k) = (L i).toInt * mz_cr ax (mz_pl F L j) (mz_pl F L k) + (L j).toInt * mz_cr ax (mz_pl F L k) (mz_pl F L i) + (L k).toInt * mz_cr ax (mz_pl F L i) (mz_pl F L j) := by
    have : ax = 0 ∨ ax = 1 ∨ ax = 2 := by omega
    rcases this with z | z | z <;> subst z <;> rfl
  rw [e, ← mz_za, ← mz_za, ← mz_zm, ← mz_zm, ← mz_zm, mz_zt, mz_zt, mz_zt]
theorem mz_vvl (F L T B : Nat → Int32) (p c : Nat) : 0 + F (3 * p) * T (3 * c) + F (3 * p + 1) * T (3 * c + 1) + F (3 * p + 2) * T (3 * c + 2) = mz_z (mz_vl (mz_pl F L p) (mz_pl T B c)) := by
  show _ = mz_z ((F (3 * p)).toInt * (T (3 * c)).toInt + (F (3 * p + 1)).toInt * (T (3 * c + 1)).toInt + (F (3 * p + 2)).toInt * (T (3 * c + 2)).toInt)
  rw [← mz_za, ← mz_za, ← mz_zm, ← mz_zm, ← mz_zm, mz_zt, mz_zt, mz_zt, mz_zt, mz_zt, mz_zt, Int32.zero_add]
theorem mz_vkp {s t : mz_P} (hs : mz_R 1000 s) (ht : mz_Q t) : mz_z (mz_vl s t) ≤ mz_z (s.2.2.2 * t.2.2.2) ↔ mz_kp s t := by
  have h1 := mz_Qv hs ht
  have h2 := mz_Qd hs.2.2.2 ht
  exact mz_zle ⟨by omega, by omega⟩ ⟨by omega, by omega⟩
theorem mz_RD {D D' : Nat} {p : mz_P} (h : mz_R D p) (hD : D ≤ D') : mz_R D' p :=
  ⟨h.1, h.2.1, h.2.2.1, by have := h.2.2.2.1; omega, by have := h.2.2.2.2; omega⟩
/- the reference's three by three -/
theorem mz_v3 (a b c d : Nat → Int32) (i j k : Nat) : a i * (b j * c k - c j * b k) - b i * (a j * c k - c j * a k) + c i * (a j * b k - b j * a k) = mz_z (mz_det (mz_qa a b c d i) (mz_qa a b c d j) (mz_qa a b c d k)) := by
  simp only [mz_det, mz_cx, mz_cy, mz_cz, mz_qa, ← mz_za, ← mz_zm, ← mz_zs, mz_zt]
  grind
theorem mz_v30 (a b c d : Nat → Int32) (i j k : Nat) : d i * (b j * c k - c j * b k) - b i * (d j * c k - c j * d k) + c i * (d j * b k - b j * d k) = mz_z (mz_tx (mz_qa a b c d i) (mz_qa a b c d j) (mz_qa a b c d k)) := by
  simp only [mz_tx, mz_cx, mz_qa, ← mz_za, ← mz_zm, ← mz_zs, mz_zt]
  grind
theorem mz_v31 (a b c d : Nat → Int32) (i j k : Nat) : a i * (d j * c k - c j * d k) - d i * (a j * c k - c j * a k) + c i * (a j * d k - d j * a k) = mz_z (mz_ty (mz_qa a b c d i) (mz_qa a b c d j) (mz_qa a b c d k)) := by
  simp only [mz_ty, mz_cy, mz_qa, ← mz_za, ← mz_zm, ← mz_zs, mz_zt]
  grind
theorem mz_v32 (a b c d : Nat → Int32) (i j k : Nat) : a i * (b j * d k - d j * b k) - b i * (a j * d k - d j * a k) + d i * (a j * b k - b j * a k) = mz_z (mz_tz (mz_qa a b c d i) (mz_qa a b c d j) (mz_qa a b c d k)) := by
  simp only [mz_tz, mz_cz, mz_qa, ← mz_za, ← mz_zm, ← mz_zs, mz_zt]
  grind
theorem mz_vq (a b c d : Nat → Int32) (e : Nat) (x y z : Int) : a e * mz_z x + b e * mz_z y + c e * mz_z z = mz_z (mz_vl (mz_qa a b c d e) (x, y, z, 0)) := by
  simp only [mz_vl, mz_qa, ← mz_za, ← mz_zm, mz_zt]
/- signs -/
theorem mz_vsg {x : Int} (h : -384 ≤ x ∧ x ≤ 384) : (mz_z x < 0 ↔ x < 0) ∧ (mz_z x = 0 ↔ x = 0) := by
  refine ⟨?_, ?_⟩
  · rw [← mz_z0]; exact mz_zlt ⟨by omega, by omega⟩ ⟨by omega, by omega⟩
  · rw [← mz_z0]; exact mz_zeq ⟨by omega, by omega⟩ ⟨by omega, by omega⟩
theorem mz_sgT {x : Int} (h : x < 0) : mz_z (mz_sg x) = -1 := by rw [mz_sg, if_pos h]; decide
theorem mz_sgF {x : Int} (h : ¬ x < 0) : mz_z (mz_sg x) = 1 := by rw [mz_sg, if_neg h]; decide
end
section
/- shadows: bounds -/
theorem mz_cob {D ax : Nat} {s : mz_P} (h : mz_R D s) : -4 ≤ mz_co ax s ∧ mz_co ax s ≤ 4 := by
  unfold mz_co
  split
  · exact h.1
  · split
    · exact h.2.1
    · exact h.2.2.1
theorem mz_lxb {ax : Nat} {p q : Int} (hp : -400 ≤ p ∧ p ≤ 400) (hq : -400 ≤ q ∧ q ≤ 400) :
    (-400 ≤ (mz_lx3 ax p q).1 ∧ (mz_lx3 ax p q).1 ≤ 400) ∧ (-400 ≤ (mz_lx3 ax p q).2.1 ∧ (mz_lx3 ax p q).2.1 ≤ 400) ∧ (-400 ≤ (mz_lx3 ax p q).2.2.1 ∧ (mz_lx3 ax p q).2.2.1 ≤ 400) := by
  unfold mz_lx3
  refine ⟨?_, ?_, ?_⟩
  · show -400 ≤ (if ax = 0 then (0 : Int) else p) ∧ (if ax = 0 then (0 : Int) else p) ≤ 400
    split <;> omega
  · show -400 ≤ (if ax = 0 then p else if ax = 1 then (0 : Int) else q) ∧ (if ax = 0 then p else if ax = 1 then (0 : Int) else q) ≤ 400
    split
    · omega
    · split <;> omega
  · show -400 ≤ (if ax = 2 then (0 : Int) else q) ∧ (if ax = 2 then (0 : Int) else q) ≤ 400
    split <;> omega
theorem mz_rsb {ax : Nat} {p q k : Int} {s : mz_P} (hs : mz_R 40 s) (hp : -400 ≤ p ∧ p ≤ 400) (hq : -400 ≤ q ∧ q ≤ 400) (hk : 1 ≤ k ∧ k ≤ 20) : -5600 ≤ mz_rs ax p q k s ∧ mz_rs ax p q k s ≤ 5600 := by
  have h := mz_lxb (ax := ax) hp hq
  have h0 := mz_mb 40 20 hs.2.2.2.1 hs.2.2.2.2 (show -((20 : Nat) : Int) ≤ k by omega) (show k ≤ ((20 : Nat) : Int) by omega)
  have h1 := mz_mb 4 400 hs.1.1 hs.1.2 h.1.1 h.1.2
  have h2 := mz_mb 4 400 hs.2.1.1 hs.2.1.2 h.2.1.1 h.2.1.2
  have h3 := mz_mb 4 400 hs.2.2.1.1 hs.2.2.1.2 h.2.2.1 h.2.2.2
  unfold mz_rs
  omega
theorem mz_ZIb {S Dn : mz_P → Prop} {own rest : mz_P → Int} {M lt lb ht hb : Int} (h : mz_ZI S Dn own rest M lt lb ht hb)
    (hb' : ∀ s, S s → (-4 ≤ own s ∧ own s ≤ 4) ∧ (-5600 ≤ rest s ∧ rest s ≤ 5600)) (hM : 0 ≤ M ∧ M ≤ 1000000) :
    (-1000000 ≤ lt ∧ lt ≤ 1000000) ∧ (1 ≤ lb ∧ lb ≤ 4) ∧ (-1000000 ≤ ht ∧ ht ≤ 1000000) ∧ (1 ≤ hb ∧ hb ≤ 4) := by
  obtain ⟨_, _, l2, _, u2⟩ := h
  have a : (-1000000 ≤ lt ∧ lt ≤ 1000000) ∧ (1 ≤ lb ∧ lb ≤ 4) := by
    rcases l2 with ⟨e1, e2⟩ | ⟨s, Ss, o, e1, e2⟩
    · omega
    · have := hb' s Ss; omega
  have b : (-1000000 ≤ ht ∧ ht ≤ 1000000) ∧ (1 ≤ hb ∧ hb ≤ 4) := by
    rcases u2 with ⟨e1, e2⟩ | ⟨s, Ss, o, e1, e2⟩
    · omega
    · have := hb' s Ss; omega
  exact ⟨a.1, a.2, b.1, b.2⟩
theorem mz_wlo (ax : Nat) (p q k : Int) (h : ax < 3) : mz_co ax (mz_wl (2 * ax + 1)) = -1 ∧ mz_rs ax p q k (mz_wl (2 * ax + 1)) = 10 * k := by
  have : ax = 0 ∨ ax = 1 ∨ ax = 2 := by omega
  rcases this with e | e | e <;> subst e <;> simp [mz_co, mz_rs, mz_wl, mz_lx3]
theorem mz_whi (ax : Nat) (p q k : Int) (h : ax < 3) : mz_co ax (mz_wl (2 * ax)) = 1 ∧ mz_rs ax p q k (mz_wl (2 * ax)) = 10 * k := by
  have : ax = 0 ∨ ax = 1 ∨ ax = 2 := by omega
  rcases this with e | e | e <;> subst e <;> simp [mz_co, mz_rs, mz_wl, mz_lx3]
/- the three questions of the loop, in numbers -/
theorem mz_q0 {o : Int} (h : -4 ≤ o ∧ o ≤ 4) : (mz_z o = 0 ↔ o = 0) ∧ (mz_z o ≤ 0 ↔ o ≤ 0) ∧ (0 ≤ mz_z o ↔ 0 ≤ o) := by
  rw [← mz_z0]
  exact ⟨mz_zeq ⟨by omega, by omega⟩ ⟨by omega, by omega⟩, mz_zle ⟨by omega, by omega⟩ ⟨by omega, by omega⟩, mz_zle ⟨by omega, by omega⟩ ⟨by omega, by omega⟩⟩
theorem mz_q1 {r : Int} (h : -5600 ≤ r ∧ r ≤ 5600) : 0 ≤ mz_z r ↔ 0 ≤ r := by
  rw [← mz_z0]
  exact mz_zle ⟨by omega, by omega⟩ ⟨by omega, by omega⟩
theorem mz_q2 {o r ht hb : Int} (ho : -4 ≤ o ∧ o ≤ 4) (hr : -5600 ≤ r ∧ r ≤ 5600) (h1 : -1000000 ≤ ht ∧ ht ≤ 1000000) (h2 : 1 ≤ hb ∧ hb ≤ 4) : mz_z ht * mz_z o ≤ mz_z r * mz_z hb ↔ ht * o ≤ r * hb := by
  have a := mz_mb 1000000 4 h1.1 h1.2 ho.1 ho.2
  have b := mz_mb 5600 4 hr.1 hr.2 (show -((4 : Nat) : Int) ≤ hb by omega) (show hb ≤ ((4 : Nat) : Int) by omega)
  rw [mz_zm, mz_zm]
  exact mz_zle ⟨by omega, by omega⟩ ⟨by omega, by omega⟩
theorem mz_q3 {o r lt lb : Int} (ho : -4 ≤ o ∧ o ≤ 4) (hr : -5600 ≤ r ∧ r ≤ 5600) (h1 : -1000000 ≤ lt ∧ lt ≤ 1000000) (h2 : 1 ≤ lb ∧ lb ≤ 4) : -mz_z r * mz_z lb ≤ mz_z lt * -mz_z o ↔ -r * lb ≤ lt * -o := by
  have a := mz_mb 1000000 4 h1.1 h1.2 (show -((4 : Nat) : Int) ≤ -o by omega) (show -o ≤ ((4 : Nat) : Int) by omega)
  have b := mz_mb 5600 4 (show -((5600 : Nat) : Int) ≤ -r by omega) (show -r ≤ ((5600 : Nat) : Int) by omega) (show -((4 : Nat) : Int) ≤ lb by omega) (show lb ≤ ((4 : Nat) : Int) by omega)
  rw [mz_zg, mz_zg, mz_zm, mz_zm]
  exact mz_zle ⟨by omega, by omega⟩ ⟨by omega, by omega⟩
theorem mz_q4 {lt lb ht hb : Int} (h1 : -1000000 ≤ lt ∧ lt ≤ 1000000) (h2 : 1 ≤ lb ∧ lb ≤ 4) (h3 : -1000000 ≤ ht ∧ ht ≤ 1000000) (h4 : 1 ≤ hb ∧ hb ≤ 4) : (mz_z lt * mz_z hb ≤ mz_z ht * mz_z lb ↔ lt * hb ≤ ht * lb) ∧ (mz_z ht * mz_z lb < mz_z lt * mz_z hb ↔ ht * lb < lt * hb) := by
  have a := mz_mb 1000000 4 h1.1 h1.2 (show -((4 : Nat) : Int) ≤ hb by omega) (show hb ≤ ((4 : Nat) : Int) by omega)
  have b := mz_mb 1000000 4 h3.1 h3.2 (show -((4 : Nat) : Int) ≤ lb by omega) (show lb ≤ ((4 : Nat) : Int) by omega)
  rw [mz_zm, mz_zm]
  exact ⟨mz_zle ⟨by omega, by omega⟩ ⟨by omega, by omega⟩, mz_zlt ⟨by omega, by omega⟩ ⟨by omega, by omega⟩⟩
/- counting over a grid -/
def mz_row (f : Nat → Nat) : Nat → Nat
  | 0 => 0
  | q + 1 => mz_row f q + f q
theorem mz_rowb {f : Nat → Nat} (h : ∀ q, f q ≤ 1) : ∀ n, mz_row f n ≤ n
  | 0 => Nat.le_refl 0
  | n + 1 => by
    have a := mz_rowb h n
    have b := h n
    show mz_row f n + f n ≤ n + 1
    omega
/- counting down to the greatest common divisor -/
theorem mz_dv {t d : Int} (ht : -3840 ≤ t ∧ t ≤ 3840) (hd : 1 ≤ d ∧ d ≤ 384) : (mz_z t - mz_z t / mz_z d * mz_z d = 0 ↔ d ∣ t) := by
  rw [mz_zr ⟨by omega, by omega⟩ ⟨by omega, by omega⟩ (by omega), ← mz_z0]
  have b1 := Int.tmod_lt_of_pos t (show 0 < d by omega)
  have b2 := Int.lt_tmod_of_pos t (show 0 < d by omega)
  rw [mz_zeq ⟨by omega, by omega⟩ ⟨by omega, by omega⟩]
  exact ⟨Int.dvd_of_tmod_eq_zero, Int.tmod_eq_zero_of_dvd⟩
end
section
/- writes, as planes -/
theorem mz_plS {F L : Nat → Int32} {P : Nat} {x y z d : Int32} : mz_pl (upd (upd (upd F (3 * P) x) (3 * P + 1) y) (3 * P + 2) z) (upd L P d) P = (x.toInt, y.toInt, z.toInt, d.toInt) := by
  unfold mz_pl
  rw [pk_un (show 3 * P ≠ 3 * P + 2 by omega), pk_un (show 3 * P ≠ 3 * P + 1 by omega), pk_us, pk_un (show 3 * P + 1 ≠ 3 * P + 2 by omega), pk_us, pk_us, pk_us]
theorem mz_plN {F L : Nat → Int32} {P e : Nat} {x y z d : Int32} (h : e ≠ P) : mz_pl (upd (upd (upd F (3 * P) x) (3 * P + 1) y) (3 * P + 2) z) (upd L P d) e = mz_pl F L e := by
  unfold mz_pl
  rw [pk_un (show 3 * e ≠ 3 * P + 2 by omega), pk_un (show 3 * e ≠ 3 * P + 1 by omega), pk_un (show 3 * e ≠ 3 * P by omega),
    pk_un (show 3 * e + 1 ≠ 3 * P + 2 by omega), pk_un (show 3 * e + 1 ≠ 3 * P + 1 by omega), pk_un (show 3 * e + 1 ≠ 3 * P by omega),
    pk_un (show 3 * e + 2 ≠ 3 * P + 2 by omega), pk_un (show 3 * e + 2 ≠ 3 * P + 1 by omega), pk_un (show 3 * e + 2 ≠ 3 * P by omega), pk_un h]
theorem mz_plL {F L : Nat → Int32} {P : Nat} {d : Int32} : mz_pl F (upd L P d) P = ((mz_pl F L P).1, (mz_pl F L P).2.1, (mz_pl F L P).2.2.1, d.toInt) := by
  unfold mz_pl
  rw [pk_us]
theorem mz_plM {F L : Nat → Int32} {P e : Nat} {d : Int32} (h : e ≠ P) : mz_pl F (upd L P d) e = mz_pl F L e := by
  unfold mz_pl
  rw [pk_un h]
theorem mz_qaS {a b c d : Nat → Int32} {m : Nat} {x y z w : Int32} : mz_qa (upd a m x) (upd b m y) (upd c m z) (upd d m w) m = (x.toInt, y.toInt, z.toInt, w.toInt) := by
  unfold mz_qa
  rw [pk_us, pk_us, pk_us, pk_us]
theorem mz_qaN {a b c d : Nat → Int32} {m e : Nat} {x y z w : Int32} (h : e ≠ m) : mz_qa (upd a m x) (upd b m y) (upd c m z) (upd d m w) e = mz_qa a b c d e := by
  unfold mz_qa
  rw [pk_un h, pk_un h, pk_un h, pk_un h]
/- the two sides' lists -/
def mz_rel (c : Nat) (F L sl lm : Nat → Int32) : Prop := c ≤ 7 ∧ (∀ e, e < 6 → mz_pl F L e = mz_wl e) ∧ ∀ i, i < c → mz_R 40 (mz_dc (sl i) (lm i)) ∧ mz_pl F L (6 + i) = mz_dc (sl i) (lm i)
theorem mz_relR {c : Nat} {F L sl lm : Nat → Int32} (h : mz_rel c F L sl lm) : ∀ e, e < 6 + c → mz_R 40 (mz_pl F L e) := by
  intro e he
  by_cases h6 : e < 6
  · rw [h.2.1 e h6]; exact mz_wlR e h6
  · obtain ⟨i, rfl⟩ : ∃ i, e = 6 + i := ⟨e - 6, by omega⟩
    have := h.2.2 i (by omega)
    rw [this.2]; exact this.1
theorem mz_relC {c : Nat} {F L F' L' sl lm : Nat → Int32} (h : mz_rel c F L sl lm) (he : ∀ e, e < 6 + c → mz_pl F' L' e = mz_pl F L e) : mz_rel c F' L' sl lm :=
  ⟨h.1, fun e h6 => by rw [he e (by omega)]; exact h.2.1 e h6, fun i hi => ⟨(h.2.2 i hi).1, by rw [he (6 + i) (by omega)]; exact (h.2.2 i hi).2⟩⟩
theorem mz_relA {c : Nat} {F L F' L' sl lm : Nat → Int32} {x d : Int32} (h : mz_rel c F L sl lm) (hc : c < 7) (hR : mz_R 40 (mz_dc x d))
    (he : ∀ e, e < 6 + c → mz_pl F' L' e = mz_pl F L e) (hn : mz_pl F' L' (6 + c) = mz_dc x d) : mz_rel (c + 1) F' L' (upd sl c x) (upd lm c d) := by
  refine ⟨by omega, fun e h6 => by rw [he e (by omega)]; exact h.2.1 e h6, fun i hi => ?_⟩
  by_cases e : i = c
  · subst e; rw [pk_us, pk_us]; exact ⟨hR, hn⟩
  · rw [pk_un e, pk_un e, he (6 + i) (by omega)]; exact h.2.2 i (by omega)
theorem mz_relM {c b : Nat} {F L F' L' sl lm : Nat → Int32} {d : Int32} (h : mz_rel c F L sl lm) (hb : b < c) (hd : -40 ≤ d.toInt ∧ d.toInt ≤ 40)
    (he : ∀ e, e < 6 + c → e ≠ 6 + b → mz_pl F' L' e = mz_pl F L e) (hn : mz_pl F' L' (6 + b) = ((mz_pl F L (6 + b)).1, (mz_pl F L (6 + b)).2.1, (mz_pl F L (6 + b)).2.2.1, d.toInt)) : mz_rel c F' L' sl (upd lm b d) := by
  refine ⟨h.1, fun e h6 => by rw [he e (by omega) (by omega)]; exact h.2.1 e h6, fun i hi => ?_⟩
  by_cases e : i = b
  · subst e
    have k := h.2.2 i hi
    have hd' : -((40 : Nat) : Int) ≤ d.toInt ∧ d.toInt ≤ ((40 : Nat) : Int) := by omega
    rw [pk_us, hn, k.2]
    have k1 := k.1
    unfold mz_R mz_dc at k1
    dsimp only at k1
    refine ⟨?_, ?_⟩
    · unfold mz_R mz_dc
      dsimp only
      exact ⟨k1.1, k1.2.1, k1.2.2.1, hd'⟩
    · unfold mz_dc
      dsimp only
  · rw [pk_un e, he (6 + i) (by omega) (by omega)]; exact h.2.2 i hi
theorem mz_relD {c b : Nat} {F L F' L' sl lm sl' lm' : Nat → Int32} (h : mz_rel (c + 1) F L sl lm) (hb : b ≤ c)
    (he : ∀ e, e < 6 + b → mz_pl F' L' e = mz_pl F L e) (hn : ∀ i, b ≤ i → i < c → mz_pl F' L' (6 + i) = mz_pl F L (6 + (i + 1)))
    (hs : ∀ i, i < b → sl' i = sl i ∧ lm' i = lm i) (ht : ∀ i, b ≤ i → i < c → sl' i = sl (i + 1) ∧ lm' i = lm (i + 1)) : mz_rel c F' L' sl' lm' := by
  refine ⟨by have := h.1; omega, fun e h6 => by rw [he e (by omega)]; exact h.2.1 e h6, fun i hi => ?_⟩
  by_cases e : i < b
  · rw [(hs i e).1, (hs i e).2, he (6 + i) (by omega)]; exact h.2.2 i (by omega)
  · rw [(ht i (by omega) hi).1, (ht i (by omega) hi).2, hn i (by omega) hi]; exact h.2.2 (i + 1) (by omega)
/- the set of the planes, as the reference has it -/
def mz_U (sl lm : Nat → Int32) (c : Nat) (w : Int32) (p : mz_P) : Prop := (∃ i, i < c ∧ ¬ nI i = w ∧ mz_dc (sl i) (lm i) = p) ∨ ∃ e, e < 6 ∧ mz_wl e = p
def mz_gd (N : Nat) (w : Int32) (e : Nat) : Prop := e < N ∧ ¬ nI e = w
theorem mz_nm1 {e : Nat} (h : e < 100) : ¬ nI e = -1 := by
  intro z
  have := nI_pos (n := e) (by omega)
  rw [z] at this
  exact this (by decide)
theorem mz_U1 {c : Nat} {F L sl lm : Nat → Int32} (h : mz_rel c F L sl lm) : mz_S (mz_pl F L) (mz_gd (6 + c) (-1)) = mz_U sl lm c (-1) := by
  have hc := h.1
  funext p
  refine propext ⟨?_, ?_⟩
  · rintro ⟨e, ⟨he, _⟩, rfl⟩
    by_cases h6 : e < 6
    · exact Or.inr ⟨e, h6, (h.2.1 e h6).symm⟩
    · obtain ⟨i, rfl⟩ : ∃ i, e = 6 + i := ⟨e - 6, by omega⟩
      exact Or.inl ⟨i, by omega, mz_nm1 (by omega), (h.2.2 i (by omega)).2.symm⟩
  · rintro (⟨i, hi, _, rfl⟩ | ⟨e, he, rfl⟩)
    · exact ⟨6 + i, ⟨by omega, mz_nm1 (by omega)⟩, (h.2.2 i hi).2⟩
    · exact ⟨e, ⟨by omega, mz_nm1 (by omega)⟩, h.2.1 e he⟩
theorem mz_U2 {c b : Nat} {F L sl lm : Nat → Int32} (h : mz_rel c F L sl lm) (hb : b < c) : mz_S (mz_pl F L) (mz_gd (6 + c) (nI (6 + b))) = mz_U sl lm c (nI b) := by
  have hc := h.1
  funext p
  refine propext ⟨?_, ?_⟩
  · rintro ⟨e, ⟨he, hw⟩, rfl⟩
    by_cases h6 : e < 6
    · exact Or.inr ⟨e, h6, (h.2.1 e h6).symm⟩
    · obtain ⟨i, rfl⟩ : ∃ i, e = 6 + i := ⟨e - 6, by omega⟩
      refine Or.inl ⟨i, by omega, fun z => hw ?_, (h.2.2 i (by omega)).2.symm⟩
      have := (nI_eq (a := i) (b := b) (by omega) (by omega)).mp z
      rw [this]
  · rintro (⟨i, hi, hw, rfl⟩ | ⟨e, he, rfl⟩)
    · refine ⟨6 + i, ⟨by omega, fun z => hw ?_⟩, (h.2.2 i hi).2⟩
      have := (nI_eq (a := 6 + i) (b := 6 + b) (by omega) (by omega)).mp z
      rw [show i = b by omega]
    · refine ⟨e, ⟨by omega, fun z => ?_⟩, h.2.1 e he⟩
      have := (nI_eq (a := e) (b := 6 + b) (by omega) (by omega)).mp z
      omega
theorem mz_UR {c : Nat} {F L sl lm : Nat → Int32} {w : Int32} (h : mz_rel c F L sl lm) : ∀ p, mz_U sl lm c w p → mz_R 40 p := by
  rintro p (⟨i, hi, _, rfl⟩ | ⟨e, he, rfl⟩)
  · exact (h.2.2 i hi).1
  · exact mz_wlR e he
theorem mz_Uw {c : Nat} {sl lm : Nat → Int32} {w : Int32} : ∀ e, e < 6 → mz_U sl lm c w (mz_wl e) := fun e he => Or.inr ⟨e, he, rfl⟩
/- indices -/
theorem mz_i3 (i a : Nat) : (3 : Int32) * nI i + nI a = nI (3 * i + a) := by
  rw [show (3 : Int32) = nI 3 from rfl, pk_mul, nI_add]
theorem mz_i0 (i : Nat) : (3 : Int32) * nI i = nI (3 * i) := by
  rw [show (3 : Int32) = nI 3 from rfl, pk_mul]
theorem mz_i1 (i : Nat) : (3 : Int32) * nI i + 1 = nI (3 * i + 1) := mz_i3 i 1
theorem mz_i2 (i : Nat) : (3 : Int32) * nI i + 2 = nI (3 * i + 2) := mz_i3 i 2
end
section
/- the component's three loops, step by step -/
def mz_XI (pl : Nat → mz_P) (N : Nat) (w : Int32) (i j k n : Nat) (pt : Nat → mz_P) : Prop := mz_V (mz_S pl (mz_gd N w)) (mz_D pl (mz_gd N w) (mz_lx i j k)) pt n
theorem mz_X1 {pl pt : Nat → mz_P} {N i j n : Nat} {w : Int32} (h : mz_XI pl N w i j 0 n pt) : mz_XI pl N w i j (j + 1) n pt :=
  mz_Vmo h fun _ => mz_Dmo fun i' j' k' a b _ _ _ l => by unfold mz_lx at *; omega
theorem mz_X2 {pl pt : Nat → mz_P} {N i j k n : Nat} {w : Int32} (h : mz_XI pl N w i j k n pt) (hk : N ≤ k) : mz_XI pl N w i (j + 1) 0 n pt :=
  mz_Vmo h fun _ => mz_Dmo fun i' j' k' a b _ _ g l => by have := g.1; unfold mz_lx at *; omega
theorem mz_X3 {pl pt : Nat → mz_P} {N i n : Nat} {w : Int32} (h : mz_XI pl N w i 0 0 n pt) : mz_XI pl N w i (i + 1) 0 n pt :=
  mz_Vmo h fun _ => mz_Dmo fun i' j' k' a b _ _ _ l => by unfold mz_lx at *; omega
theorem mz_X4 {pl pt : Nat → mz_P} {N i j n : Nat} {w : Int32} (h : mz_XI pl N w i j 0 n pt) (hj : N ≤ j) : mz_XI pl N w (i + 1) 0 0 n pt :=
  mz_Vmo h fun _ => mz_Dmo fun i' j' k' a b _ g _ l => by have := g.1; unfold mz_lx at *; omega
theorem mz_lx1 {i j k i' j' k' : Nat} (h : mz_lx i j (k + 1) i' j' k') : mz_lx i j k i' j' k' ∨ (i' = i ∧ j' = j ∧ k' = k) := by
  unfold mz_lx at *; omega
theorem mz_X5 {pl pt : Nat → mz_P} {N i j k n : Nat} {w : Int32} (h : mz_XI pl N w i j k n pt) (hn : ¬ (mz_gd N w i ∧ mz_gd N w j ∧ mz_gd N w k)) : mz_XI pl N w i j (k + 1) n pt :=
  mz_Vmo h fun _ hD => (mz_Dst i j k (fun _ _ _ _ _ _ _ _ l => mz_lx1 l) hD).elim id fun z => absurd ⟨z.2.2.1, z.2.2.2.1, z.2.2.2.2.1⟩ hn
/- what is no corner -/
def mz_Nc (pl : Nat → mz_P) (g : Nat → Prop) (i j k : Nat) : Prop := mz_det (pl i) (pl j) (pl k) = 0 ∨ ∃ e, g e ∧ ¬ mz_kp (pl e) (mz_cor (pl i) (pl j) (pl k))
def mz_Yc (pl : Nat → mz_P) (g : Nat → Prop) (i j k : Nat) : Prop := mz_det (pl i) (pl j) (pl k) ≠ 0 ∧ ∀ e, g e → mz_kp (pl e) (mz_cor (pl i) (pl j) (pl k))
theorem mz_Nno {pl : Nat → mz_P} {g : Nat → Prop} {i j k : Nat} (h : mz_Nc pl g i j k) (hd : mz_det (pl i) (pl j) (pl k) ≠ 0) : ¬ mz_C (mz_S pl g) (mz_cor (pl i) (pl j) (pl k)) := by
  rintro ⟨p, q, r, _, _, _, _, _, hk⟩
  rcases h with z | ⟨e, ge, z⟩
  · exact hd z
  · exact z (hk _ ⟨e, ge, rfl⟩)
theorem mz_X6 {pl pt pt' : Nat → mz_P} {N i j k n : Nat} {w : Int32} (h : mz_XI pl N w i j k n pt) (he : ∀ c, c < n → pt' c = pt c) (hn : mz_Nc pl (mz_gd N w) i j k) : mz_XI pl N w i j (k + 1) n pt' := by
  refine mz_Vno h he fun t hD hC => ?_
  rcases mz_Dst i j k (fun _ _ _ _ _ _ _ _ l => mz_lx1 l) hD with z | ⟨_, _, _, _, _, hd, ht⟩
  · exact z
  · exact absurd (ht ▸ hC) (mz_Nno hn hd)
theorem mz_X7 {pl pt pt' : Nat → mz_P} {N i j k n : Nat} {w : Int32} (h : mz_XI pl N w i j k n pt) (gi : mz_gd N w i) (gj : mz_gd N w j) (gk : mz_gd N w k) (he : ∀ c, c < n → pt' c = pt c)
    (h0 : pt' n = mz_cor (pl i) (pl j) (pl k)) (hy : mz_Yc pl (mz_gd N w) i j k) : mz_XI pl N w i j (k + 1) (n + 1) pt' := by
  refine mz_Vyes h he (fun t hD hC => ?_) h0 (mz_Cof gi gj gk hy.1 hy.2)
  rcases mz_Dst i j k (fun _ _ _ _ _ _ _ _ l => mz_lx1 l) hD with z | ⟨_, _, _, _, _, hd, ht⟩
  · exact Or.inl z
  · exact Or.inr ht
theorem mz_X8 {pl pt : Nat → mz_P} {N : Nat} {w : Int32} : mz_XI pl N w 0 0 0 0 pt := by
  refine ⟨fun c hc => absurd hc (Nat.not_lt_zero c), fun t hD _ => ?_⟩
  obtain ⟨i, j, k, _, _, _, _, _, l, _⟩ := hD
  unfold mz_lx at l; omega
theorem mz_X9 {pl pt : Nat → mz_P} {N i n : Nat} {w : Int32} (h : mz_XI pl N w i 0 0 n pt) (hi : N ≤ i) : mz_F (mz_C (mz_S pl (mz_gd N w))) pt n :=
  mz_VF h fun _ hC => mz_Dall (fun i' j' k' a b g _ _ => by have := g.1; unfold mz_lx; omega) hC
/- the reference's one loop, step by step -/
def mz_ltm (m e : Nat) : Prop := e < m
def mz_YI (pl : Nat → mz_P) (m : Nat) (s : mz_P) (code any : Nat) (T B : Int) : Prop := mz_W (mz_S pl (mz_ltm m)) (mz_D pl (mz_ltm m) (mz_cl m code)) s any T B
theorem mz_Y1 {pl : Nat → mz_P} {m : Nat} {s : mz_P} {T B : Int} : mz_YI pl m s 0 0 T B := by
  refine Or.inl ⟨rfl, fun t hD _ => ?_⟩
  obtain ⟨i, j, k, _, _, _, _, _, l, _⟩ := hD
  exact Nat.not_lt_zero _ l
theorem mz_Yst {pl : Nat → mz_P} {m code : Nat} {t : mz_P} (hD : mz_D pl (mz_ltm m) (mz_cl m (code + 1)) t) : mz_D pl (mz_ltm m) (mz_cl m code) t ∨ (code % m < code / m % m ∧ code / m % m < code / m / m ∧
    mz_det (pl (code % m)) (pl (code / m % m)) (pl (code / m / m)) ≠ 0 ∧ t = mz_cor (pl (code % m)) (pl (code / m % m)) (pl (code / m / m))) := by
  rcases mz_Dst (code % m) (code / m % m) (code / m / m) (fun i' j' k' _ _ gi gj _ l => mz_cl1 gi gj l) hD with z | ⟨a, b, _, _, _, hd, ht⟩
  · exact Or.inl z
  · exact Or.inr ⟨a, b, hd, ht⟩
theorem mz_Y2 {pl : Nat → mz_P} {m code any : Nat} {s : mz_P} {T B : Int} (h : mz_YI pl m s code any T B) (hn : ¬ (code % m < code / m % m ∧ code / m % m < code / m / m)) : mz_YI pl m s (code + 1) any T B :=
  mz_Wno h fun _ hD _ => (mz_Yst hD).elim id fun z => absurd ⟨z.1, z.2.1⟩ hn
theorem mz_Y3 {pl : Nat → mz_P} {m code any : Nat} {s : mz_P} {T B : Int} (h : mz_YI pl m s code any T B) (hn : mz_Nc pl (mz_ltm m) (code % m) (code / m % m) (code / m / m)) : mz_YI pl m s (code + 1) any T B := by
  refine mz_Wno h fun t hD hC => ?_
  rcases mz_Yst hD with z | ⟨_, _, hd, ht⟩
  · exact z
  · exact absurd (ht ▸ hC) (mz_Nno hn hd)
theorem mz_Ycof {pl : Nat → mz_P} {m code : Nat} (h0 : 0 < m) (hc : code < m * m * m) (hy : mz_Yc pl (mz_ltm m) (code % m) (code / m % m) (code / m / m)) : mz_C (mz_S pl (mz_ltm m)) (mz_cor (pl (code % m)) (pl (code / m % m)) (pl (code / m / m))) :=
  mz_Cof (mz_ck h0 hc).1 (mz_ck h0 hc).2.1 (mz_ck h0 hc).2.2 hy.1 hy.2
theorem mz_Y4 {pl : Nat → mz_P} {m code any : Nat} {s : mz_P} {T B : Int} (h : mz_YI pl m s code any T B) (h0 : 0 < m) (hc : code < m * m * m) (hy : mz_Yc pl (mz_ltm m) (code % m) (code / m % m) (code / m / m)) (ha : any = 1)
    (hn : ¬ T * (mz_cor (pl (code % m)) (pl (code / m % m)) (pl (code / m / m))).2.2.2 < mz_vl s (mz_cor (pl (code % m)) (pl (code / m % m)) (pl (code / m / m))) * B) : mz_YI pl m s (code + 1) 1 T B :=
  mz_Wst h (fun t hD _ => (mz_Yst hD).imp id fun z => z.2.2.2) (mz_Ycof h0 hc hy) ha hn
theorem mz_Y5 {pl : Nat → mz_P} {m code any : Nat} {s : mz_P} {T B : Int} (h : mz_YI pl m s code any T B) (h0 : 0 < m) (hc : code < m * m * m) (hy : mz_Yc pl (mz_ltm m) (code % m) (code / m % m) (code / m / m))
    (hn : any = 0 ∨ T * (mz_cor (pl (code % m)) (pl (code / m % m)) (pl (code / m / m))).2.2.2 < mz_vl s (mz_cor (pl (code % m)) (pl (code / m % m)) (pl (code / m / m))) * B) :
    mz_YI pl m s (code + 1) 1 (mz_vl s (mz_cor (pl (code % m)) (pl (code / m % m)) (pl (code / m / m)))) (mz_cor (pl (code % m)) (pl (code / m % m)) (pl (code / m / m))).2.2.2 :=
  mz_Wnew h (fun t hD _ => (mz_Yst hD).imp id fun z => z.2.2.2) (mz_Ycof h0 hc hy) hn
theorem mz_Y6 {pl : Nat → mz_P} {m any : Nat} {s : mz_P} {T B : Int} (h : mz_YI pl m s (m * m * m) any T B) : mz_G (mz_C (mz_S pl (mz_ltm m))) s any T B :=
  mz_Wend h fun _ hC => mz_Dall (fun _ _ _ _ _ gi gj gk => mz_clE gi gj gk) hC
theorem mz_YB {pl : Nat → mz_P} {m code any : Nat} {s : mz_P} {T B : Int} {D : Nat} (h : mz_YI pl m s code any T B) (ha : any = 1) (hR : ∀ e, e < m → mz_R 40 (pl e)) (hs : mz_R D s) : (-46080 ≤ T ∧ T ≤ 46080) ∧ (1 ≤ B ∧ B ≤ 384) := by
  rcases h with ⟨e, _⟩ | ⟨_, t0, h0, eT, eB, _⟩
  · omega
  · have q := mz_CQ (fun p ⟨e, he, hp⟩ => hp ▸ hR e he) h0
    have v := mz_Qv hs q
    have u := mz_Cun h0
    have w := q.2.2.2
    rw [eT, eB]; omega
/- what is put into the reference's arrays -/
def mz_pt (pl : Nat → mz_P) (m : Nat) (U : mz_P → Prop) : Prop := ∀ p, mz_S pl (mz_ltm m) p ↔ U p
theorem mz_pt1 {pl pl' : Nat → mz_P} {m : Nat} {U U' : mz_P → Prop} {s : mz_P} (h : mz_pt pl m U) (he : ∀ e, e < m → pl' e = pl e) (h0 : pl' m = s) (hU : ∀ p, U' p ↔ U p ∨ s = p) : mz_pt pl' (m + 1) U' := by
  intro p
  rw [hU p, ← h p]
  constructor
  · rintro ⟨e, he', rfl⟩
    rcases Nat.lt_or_ge e m with a | a
    · exact Or.inl ⟨e, a, (he e a).symm⟩
    · have : e = m := by unfold mz_ltm at he'; omega
      subst this; exact Or.inr h0.symm
  · rintro (⟨e, he', rfl⟩ | rfl)
    · exact ⟨e, Nat.lt_succ_of_lt he', he e he'⟩
    · exact ⟨m, Nat.lt_succ_self m, h0⟩
end
section
/- the farthest of the corners so far -/
def mz_FI (pt : Nat → mz_P) (ax : Nat) (sg : Int) (b c : Nat) : Prop := ∀ c', c' < c → sg * mz_co ax (pt c') * (pt b).2.2.2 ≤ sg * mz_co ax (pt b) * (pt c').2.2.2
theorem mz_FI0 {pt : Nat → mz_P} {ax : Nat} {sg : Int} : mz_FI pt ax sg 0 1 := by
  intro c' h
  have : c' = 0 := by omega
  subst this; exact Int.le_refl _
theorem mz_FI1 {pt : Nat → mz_P} {ax b c : Nat} {sg : Int} (h : mz_FI pt ax sg b c) (hn : sg * mz_co ax (pt c) * (pt b).2.2.2 ≤ sg * mz_co ax (pt b) * (pt c).2.2.2) : mz_FI pt ax sg b (c + 1) := by
  intro c' hc
  rcases Nat.lt_or_ge c' c with a | a
  · exact h c' a
  · have : c' = c := by omega
    subst this; exact hn
theorem mz_FI2 {pt : Nat → mz_P} {ax b c : Nat} {sg : Int} (hu : ∀ c', c' ≤ c → 1 ≤ (pt c').2.2.2) (hb : b ≤ c) (h : mz_FI pt ax sg b c) (hn : ¬ sg * mz_co ax (pt c) * (pt b).2.2.2 ≤ sg * mz_co ax (pt b) * (pt c).2.2.2) : mz_FI pt ax sg c (c + 1) := by
  intro c' hc
  rcases Nat.lt_or_ge c' c with a | a
  · have u1 := hu c' (by omega)
    have u2 := hu b hb
    have u3 := hu c (Nat.le_refl c)
    exact mz_tr (a := sg * mz_co ax (pt c')) (b := (pt c').2.2.2) (c := sg * mz_co ax (pt b)) (d := (pt b).2.2.2) (e := sg * mz_co ax (pt c)) (f := (pt c).2.2.2) (by omega) (by omega) (by omega) (h c' a) (by omega)
  · have : c' = c := by omega
    subst this; exact Int.le_refl _
theorem mz_FIe {C : mz_P → Prop} {pt : Nat → mz_P} {ax b n : Nat} {sg : Int} (h : mz_FI pt ax sg b n) (hF : mz_F C pt n) (hb : b < n) :
    mz_Rc C ax sg ((mz_co ax (pt b)).tdiv (mz_g (mz_co ax (pt b)) (pt b).2.2.2)) ((pt b).2.2.2.tdiv (mz_g (mz_co ax (pt b)) (pt b).2.2.2)) := by
  refine ⟨pt b, hF.1 b hb, fun t' ht' => ?_, rfl, rfl⟩
  obtain ⟨c, hc, rfl⟩ := hF.2 t' ht'
  exact h c hc
theorem mz_gs {sg x y : Int} (hs : sg = 1 ∨ sg = -1) : mz_g (sg * x) y = mz_g x y := by
  rcases hs with z | z <;> subst z
  · rw [Int.one_mul]
  · unfold mz_g
    rw [Int.neg_mul, Int.one_mul, Int.neg_gcd]
theorem mz_ss {sg x : Int} (hs : sg = 1 ∨ sg = -1) : sg * (sg * x) = x := by
  rcases hs with z | z <;> subst z <;> omega
theorem mz_Grc {C : mz_P → Prop} {ax : Nat} {sg T B : Int} (hs : sg = 1 ∨ sg = -1) (hx : ax < 3) (h : mz_Bst C (mz_un1 ax sg) T B) : mz_Rc C ax sg ((sg * T).tdiv (mz_g T B)) (B.tdiv (mz_g T B)) := by
  obtain ⟨t, ht, eT, eB, hm⟩ := h
  rw [mz_vlu sg t ax hx] at eT
  refine ⟨t, ht, fun t' ht' => ?_, ?_, ?_⟩
  · have := hm t' ht'
    rw [mz_vlu sg t' ax hx, eT, eB] at this
    exact this
  · rw [eT, eB, mz_ss hs, mz_gs hs]
  · rw [eT, eB, mz_gs hs]
theorem mz_g1 {a b : Int} (hb : 1 ≤ b ∧ b ≤ 384) : 1 ≤ mz_g a b ∧ mz_g a b ≤ 384 := by
  have h1 := Int.gcd_pos_of_ne_zero_right a (b := b) (by omega)
  have h2 : mz_g a b ≤ b := Int.gcd_le_right a (by omega)
  refine ⟨?_, by omega⟩
  unfold mz_g; omega
/- the numbers of the comparison -/
theorem mz_fq {T B : Nat → Int32} {ax c b : Nat} {sg : Int} (hx : ax < 3) : mz_z sg * T (3 * c + ax) * B b = mz_z (sg * mz_co ax (mz_pl T B c) * (mz_pl T B b).2.2.2) := by
  rw [mz_plc T B c ax hx]
  show _ = mz_z (sg * (T (3 * c + ax)).toInt * (B b).toInt)
  rw [← mz_zm, ← mz_zm, mz_zt, mz_zt]
theorem mz_coQ {t : mz_P} (ht : mz_Q t) (ax : Nat) : -3840 ≤ mz_co ax t ∧ mz_co ax t ≤ 3840 := by
  unfold mz_co
  split
  · exact ht.1
  · split
    · exact ht.2.1
    · exact ht.2.2.1
theorem mz_fb {t t' : mz_P} {sg : Int} (hs : sg = 1 ∨ sg = -1) (ht : mz_Q t) (ht' : mz_Q t') (ax : Nat) : mz_B (sg * mz_co ax t * t'.2.2.2) := by
  have h1 := mz_coQ ht ax
  have h2 : -3840 ≤ sg * mz_co ax t ∧ sg * mz_co ax t ≤ 3840 := by
    rcases hs with z | z <;> subst z <;> omega
  have h3 := mz_mb 3840 384 h2.1 h2.2 ht'.2.2.2.1 ht'.2.2.2.2
  exact ⟨by omega, by omega⟩
theorem mz_fs {t t' : mz_P} (ht : mz_Q t) (ht' : mz_Q t') (ax : Nat) : mz_B (mz_co ax t * t'.2.2.2) := by
  have h1 := mz_coQ ht ax
  have h3 := mz_mb 3840 384 h1.1 h1.2 ht'.2.2.2.1 ht'.2.2.2.2
  exact ⟨by omega, by omega⟩
/- Euclid's numbers -/
theorem mz_eul {x y : Int} (hy : 1 ≤ y ∧ y ≤ 384) : lN (mz_eu 100 x.natAbs y.natAbs) = mz_l (mz_g x y) := by
  rw [mz_eug 9 100 x.natAbs y.natAbs (by omega) (by omega), ← mz_ln]
  rfl
theorem mz_eub : ∀ n p q : Nat, p < 1000000 → q < 1000000 → mz_eu n p q < 1000000
  | 0, _, _, h, _ => h
  | n + 1, p, q, h, h' => by
    unfold mz_eu
    split
    · exact mz_eub n q (p % q) h' (Nat.lt_of_le_of_lt (Nat.mod_le p q) h)
    · exact mz_eub n p q h h'
end
section
/- indices -/
theorem mz_iv (i a : Nat) {N : Nat} (h : 3 * i + a < N) (hN : N < 2 ^ 31) : vp_in ((3 : Int32) * nI i + nI a) N := by
  rw [mz_i3]; exact vp_in_nI h hN
theorem mz_iv0 (i : Nat) {N : Nat} (h : 3 * i < N) (hN : N < 2 ^ 31) : vp_in ((3 : Int32) * nI i) N := by
  rw [mz_i0]; exact vp_in_nI h hN
theorem mz_ic (i a : Nat) (h : 3 * i + a < 2 ^ 31) : ((3 : Int32) * nI i + nI a).toNatClampNeg = 3 * i + a := by
  rw [mz_i3, nI_clamp h]
theorem mz_icn (i : Nat) (h : 3 * i < 2 ^ 31) : ((3 : Int32) * nI i).toNatClampNeg = 3 * i := by
  rw [mz_i0, nI_clamp h]
theorem mz_ic0 (i : Nat) (h : 3 * i < 2 ^ 31) : ((3 : Int32) * nI i + 0).toNatClampNeg = 3 * i := mz_ic i 0 h
theorem mz_ic1 (i : Nat) (h : 3 * i + 1 < 2 ^ 31) : ((3 : Int32) * nI i + 1).toNatClampNeg = 3 * i + 1 := mz_ic i 1 h
theorem mz_ic2 (i : Nat) (h : 3 * i + 2 < 2 ^ 31) : ((3 : Int32) * nI i + 2).toNatClampNeg = 3 * i + 2 := mz_ic i 2 h
theorem mz_XsetPlane (post : SX → Prop) (P : Nat) (hP : P < 14) (cn co : Int32) (F L T B : Nat → Int32) (x d : Int32)
    (h : post (cn, co, upd (upd (upd F (3 * P) (x / 81 - 4)) (3 * P + 1) (x / 9 - x / 9 / 9 * 9 - 4)) (3 * P + 2) (x - x / 9 * 9 - 4), upd L P d, T, B)) : wpX_setPlane post (cn, co, F, L, T, B) (nI P) x d := by
  unfold wpX_setPlane
  dsimp only
  refine ⟨by decide, mz_iv0 P (by omega) (by omega), nm_e ?_⟩
  refine ⟨by decide, by decide, mz_iv P 1 (by omega) (by omega), nm_e ?_⟩
  refine ⟨by decide, mz_iv P 2 (by omega) (by omega), nm_e ?_⟩
  refine ⟨vp_in_nI hP (by omega), nm_e ?_⟩
  rw [mz_icn P (by omega), mz_ic1 P (by omega), mz_ic2 P (by omega), nI_clamp (by omega)]
  exact h
theorem mz_Xcross (post : Int32 → Prop) {i j : Nat} (hi : i < 14) (hj : j < 14) (cn co : Int32) (F L T B : Nat → Int32) (ax : Nat) (hx : ax < 3)
    (h : post (mz_z (mz_cr ax (mz_pl F L i) (mz_pl F L j)))) : wpX_cross post (cn, co, F, L, T, B) (nI i) (nI j) (nI ax) := by
  have e : ax = 0 ∨ ax = 1 ∨ ax = 2 := by omega
  unfold wpX_cross
  dsimp only
  rcases e with e | e | e <;> subst e
  · rw [← mz_vcx] at h
    refine ⟨by decide, nm_r (e' := 1) (by decide) ⟨by decide, nm_r (e' := 2) (by decide) ⟨mz_iv i 1 (by omega) (by omega), mz_iv j 2 (by omega) (by omega), mz_iv i 2 (by omega) (by omega), mz_iv j 1 (by omega) (by omega), ?_⟩⟩⟩
    rw [mz_ic1 i (by omega), mz_ic2 i (by omega), mz_ic1 j (by omega), mz_ic2 j (by omega)]
    exact h
  · rw [← mz_vcy] at h
    refine ⟨by decide, nm_r (e' := 2) (by decide) ⟨by decide, nm_r (e' := 0) (by decide) ⟨mz_iv i 2 (by omega) (by omega), mz_iv j 0 (by omega) (by omega), mz_iv i 0 (by omega) (by omega), mz_iv j 2 (by omega) (by omega), ?_⟩⟩⟩
    rw [mz_ic0 i (by omega), mz_ic2 i (by omega), mz_ic0 j (by omega), mz_ic2 j (by omega)]
    exact h
  · rw [← mz_vcz] at h
    refine ⟨by decide, nm_r (e' := 0) (by decide) ⟨by decide, nm_r (e' := 1) (by decide) ⟨mz_iv i 0 (by omega) (by omega), mz_iv j 1 (by omega) (by omega), mz_iv i 1 (by omega) (by omega), mz_iv j 0 (by omega) (by omega), ?_⟩⟩⟩
    rw [mz_ic0 i (by omega), mz_ic1 i (by omega), mz_ic0 j (by omega), mz_ic1 j (by omega)]
    exact h
theorem mz_Xdet (post : Int32 → Prop) {i j k : Nat} (hi : i < 14) (hj : j < 14) (hk : k < 14) (cn co : Int32) (F L T B : Nat → Int32)
    (h : post (mz_z (mz_det (mz_pl F L i) (mz_pl F L j) (mz_pl F L k)))) : wpX_determinant post (cn, co, F, L, T, B) (nI i) (nI j) (nI k) := by
  rw [← mz_vdet] at h
  refine ⟨4, ?_⟩
  refine br_f (by decide) ⟨mz_iv i 0 (by omega) (by omega), ?_⟩
  refine mz_Xcross _ hj hk cn co F L T B 0 (by omega) ?_
  refine nm_e (nm_r (e' := 1) (by decide) ?_)
  refine br_f (by decide) ⟨mz_iv i 1 (by omega) (by omega), ?_⟩
  refine mz_Xcross _ hj hk cn co F L T B 1 (by omega) ?_
  refine nm_e (nm_r (e' := 2) (by decide) ?_)
  refine br_f (by decide) ⟨mz_iv i 2 (by omega) (by omega), ?_⟩
  refine mz_Xcross _ hj hk cn co F L T B 2 (by omega) ?_
  refine nm_e (nm_r (e' := 3) (by decide) ?_)
  refine br_t (by decide) ?_
  rw [mz_ic0 i (by omega), mz_ic1 i (by omega), mz_ic2 i (by omega)]
  exact h
theorem mz_Xtop (post : Int32 → Prop) {i j k : Nat} (hi : i < 14) (hj : j < 14) (hk : k < 14) (cn co : Int32) (F L T B : Nat → Int32) (ax : Nat) (hx : ax < 3)
    (h : post (mz_z (mz_tp ax (mz_pl F L i) (mz_pl F L j) (mz_pl F L k)))) : wpX_crossingTop post (cn, co, F, L, T, B) (nI i) (nI j) (nI k) (nI ax) := by
  rw [← mz_vtop F L i j k ax hx] at h
  unfold wpX_crossingTop
  dsimp only
  refine ⟨vp_in_nI hi (by omega), ?_⟩
  refine mz_Xcross _ hj hk cn co F L T B ax hx ?_
  refine ⟨vp_in_nI hj (by omega), ?_⟩
  refine mz_Xcross _ hk hi cn co F L T B ax hx ?_
  refine ⟨vp_in_nI hk (by omega), ?_⟩
  refine mz_Xcross _ hi hj cn co F L T B ax hx ?_
  rw [nI_clamp (show i < 2 ^ 31 by omega), nI_clamp (show j < 2 ^ 31 by omega), nI_clamp (show k < 2 ^ 31 by omega)]
  exact h
theorem mz_Xkeeps (post : Int32 → Prop) {c p : Nat} (hc : c < 286) (hp : p < 14) (cn co : Int32) (F L T B : Nat → Int32) (hR : mz_R 1000 (mz_pl F L p)) (hQ : mz_Q (mz_pl T B c))
    (hT : mz_kp (mz_pl F L p) (mz_pl T B c) → post 1) (hF : ¬ mz_kp (mz_pl F L p) (mz_pl T B c) → post 0) : wpX_cornerKeeps post (cn, co, F, L, T, B) (nI c) (nI p) := by
  have k := mz_vkp hR hQ
  refine ⟨4, ?_⟩
  refine br_f (by decide) ⟨mz_iv p 0 (by omega) (by omega), mz_iv c 0 (by omega) (by omega), nm_e (nm_r (e' := 1) (by decide) ?_)⟩
  refine br_f (by decide) ⟨mz_iv p 1 (by omega) (by omega), mz_iv c 1 (by omega) (by omega), nm_e (nm_r (e' := 2) (by decide) ?_)⟩
  refine br_f (by decide) ⟨mz_iv p 2 (by omega) (by omega), mz_iv c 2 (by omega) (by omega), nm_e (nm_r (e' := 3) (by decide) ?_)⟩
  refine br_t (by decide) ⟨vp_in_nI hp (by omega), vp_in_nI hc (by omega), ?_⟩
  rw [mz_ic0 p (by omega), mz_ic1 p (by omega), mz_ic2 p (by omega), mz_ic0 c (by omega), mz_ic1 c (by omega), mz_ic2 c (by omega), nI_clamp (show p < 2 ^ 31 by omega), nI_clamp (show c < 2 ^ 31 by omega), mz_vvl F L T B p c]
  have e : L p * B c = mz_z ((mz_pl F L p).2.2.2 * (mz_pl T B c).2.2.2) := by
    show _ = mz_z ((L p).toInt * (B c).toInt)
    rw [← mz_zm, mz_zt, mz_zt]
  rw [e]
  by_cases z : mz_kp (mz_pl F L p) (mz_pl T B c)
  · exact br_f (Int32.not_lt.mpr (k.mpr z)) (hT z)
  · exact br_t (Int32.not_le.mp fun y => z (k.mp y)) (hF z)
theorem mz_Bof {x A : Int} (h : -A ≤ x ∧ x ≤ A) (hA : A < 1000000) : mz_B x := ⟨by omega, by omega⟩
/- trying three planes: the planes that the crossing must keep -/
theorem mz_Xtry99 (post : SX → Prop) {c n : Nat} (hc : c ≤ 7) (hn : n < 286) (F L T B : Nat → Int32) (w : Int32) (hR : ∀ e, e < 6 + c → mz_R 40 (mz_pl F L e)) (hQ : mz_Q (mz_pl T B n))
    (hT : (∀ e, mz_gd (6 + c) w e → mz_kp (mz_pl F L e) (mz_pl T B n)) → post (nI c, nI (n + 1), F, L, T, B))
    (hF : (∃ e, mz_gd (6 + c) w e ∧ ¬ mz_kp (mz_pl F L e) (mz_pl T B n)) → post (nI c, nI n, F, L, T, B)) :
    ∀ f e, e ≤ 6 + c → 6 + c - e < f → (∀ e', e' < e → ¬ nI e' = w → mz_kp (mz_pl F L e') (mz_pl T B n)) → wX_tryCorner_99 post w (nI c) (nI n) F L T B f (nI e) := by
  have e6 : (6 : Int32) + nI c = nI (6 + c) := nI_add 6 c
  intro f
  induction f with
  | zero => intro e _ h; omega
  | succ f ih =>
    intro e he hf hk
    by_cases z : e = 6 + c
    · subst z
      have t : (6 : Int32) + nI c ≤ nI (6 + c) := by rw [e6]; exact nI_le (Nat.le_refl _) (by omega)
      refine br_t t (nm_r (nI_1 n) (hT fun e' g => hk e' g.1 g.2))
    · have t : ¬ (6 : Int32) + nI c ≤ nI e := by rw [e6]; exact nI_ge (by omega) (by omega)
      refine br_f t ?_
      by_cases y : nI e = w
      · refine br_t y (nm_r (nI_1 e) (ih (e + 1) (by omega) (by omega) fun e' h' => ?_))
        intro g
        rcases Nat.lt_or_ge e' e with a | a
        · exact hk e' a g
        · have : e' = e := by omega
          subst this; exact absurd y g
      · refine br_f y ?_
        refine mz_Xkeeps _ hn (by omega) (nI c) (nI n) F L T B (mz_RD (hR e (by omega)) (by omega)) hQ (fun kp => ?_) (fun kp => ?_)
        · refine br_f (by decide) (nm_r (nI_1 e) (ih (e + 1) (by omega) (by omega) fun e' h' g => ?_))
          rcases Nat.lt_or_ge e' e with a | a
          · exact hk e' a g
          · have : e' = e := by omega
            subst this; exact kp
        · exact br_t rfl (hF ⟨e, ⟨by omega, y⟩, kp⟩)
theorem mz_Xtry (post : SX → Prop) {c n i j k : Nat} (hc : c ≤ 7) (hn : n < 286) (hi : i < 6 + c) (hj : j < 6 + c) (hk : k < 6 + c) (F L T B : Nat → Int32) (w : Int32) (hR : ∀ e, e < 6 + c → mz_R 40 (mz_pl F L e))
    (hY : ∀ T' B', (∀ e, e < n → mz_pl T' B' e = mz_pl T B e) → mz_pl T' B' n = mz_cor (mz_pl F L i) (mz_pl F L j) (mz_pl F L k) → mz_Yc (mz_pl F L) (mz_gd (6 + c) w) i j k → post (nI c, nI (n + 1), F, L, T', B'))
    (hN : ∀ T' B', (∀ e, e < n → mz_pl T' B' e = mz_pl T B e) → mz_Nc (mz_pl F L) (mz_gd (6 + c) w) i j k → post (nI c, nI n, F, L, T', B')) :
    wpX_tryCorner post (nI c, nI n, F, L, T, B) (nI i) (nI j) (nI k) w := by
  have hd := mz_detb (hR i hi) (hR j hj) (hR k hk)
  have hs := mz_vsg hd
  unfold wpX_tryCorner
  dsimp only
  refine mz_Xdet _ (by omega) (by omega) (by omega) (nI c) (nI n) F L T B ?_
  by_cases z : mz_det (mz_pl F L i) (mz_pl F L j) (mz_pl F L k) = 0
  · exact br_t (hs.2.mpr z) (hN T B (fun _ _ => rfl) (Or.inl z))
  · refine br_f (fun y => z (hs.2.mp y)) ?_
    refine br_t (nI_lt (b := 286) hn (by decide)) ?_
    have main : ∀ s : Int32, s = mz_z (mz_sg (mz_det (mz_pl F L i) (mz_pl F L j) (mz_pl F L k))) →
        wX_tryCorner_35 post (nI i) (nI j) (nI k) w (mz_z (mz_det (mz_pl F L i) (mz_pl F L j) (mz_pl F L k))) s (nI c) (nI n) F L T B := by
      intro s es
      subst es
      refine ⟨vp_in_nI hn (by omega), nm_e ?_⟩
      rw [nI_clamp (show n < 2 ^ 31 by omega), mz_zm]
      refine ⟨4, ?_⟩
      refine br_f (by decide) ?_
      refine mz_Xtop _ (by omega) (by omega) (by omega) (nI c) (nI n) F L T _ 0 (by omega) ?_
      refine ⟨mz_iv n 0 (by omega) (by omega), nm_e (nm_r (e' := 1) (by decide) ?_)⟩
      refine br_f (by decide) ?_
      refine mz_Xtop _ (by omega) (by omega) (by omega) (nI c) (nI n) F L _ _ 1 (by omega) ?_
      refine ⟨mz_iv n 1 (by omega) (by omega), nm_e (nm_r (e' := 2) (by decide) ?_)⟩
      refine br_f (by decide) ?_
      refine mz_Xtop _ (by omega) (by omega) (by omega) (nI c) (nI n) F L _ _ 2 (by omega) ?_
      refine ⟨mz_iv n 2 (by omega) (by omega), nm_e (nm_r (e' := 3) (by decide) ?_)⟩
      refine br_t (by decide) ?_
      rw [mz_ic0 n (by omega), mz_ic1 n (by omega), mz_ic2 n (by omega), mz_zm, mz_zm, mz_zm]
      have hQ := mz_corQ (hR i hi) (hR j hj) (hR k hk)
      have e0 : mz_pl (upd (upd (upd T (3 * n) (mz_z (mz_sg (mz_det (mz_pl F L i) (mz_pl F L j) (mz_pl F L k)) * mz_tp 0 (mz_pl F L i) (mz_pl F L j) (mz_pl F L k)))) (3 * n + 1) (mz_z (mz_sg (mz_det (mz_pl F L i) (mz_pl F L j) (mz_pl F L k)) * mz_tp 1 (mz_pl F L i) (mz_pl F L j) (mz_pl F L k)))) (3 * n + 2) (mz_z (mz_sg (mz_det (mz_pl F L i) (mz_pl F L j) (mz_pl F L k)) * mz_tp 2 (mz_pl F L i) (mz_pl F L j) (mz_pl F L k)))) (upd B n (mz_z (mz_sg (mz_det (mz_pl F L i) (mz_pl F L j) (mz_pl F L k)) * mz_det (mz_pl F L i) (mz_pl F L j) (mz_pl F L k)))) n = mz_cor (mz_pl F L i) (mz_pl F L j) (mz_pl F L k) := by
        rw [mz_plS, mz_ti (x := mz_sg (mz_det (mz_pl F L i) (mz_pl F L j) (mz_pl F L k)) * mz_tp 0 (mz_pl F L i) (mz_pl F L j) (mz_pl F L k)) (mz_Bof hQ.1 (by omega)),
          mz_ti (x := mz_sg (mz_det (mz_pl F L i) (mz_pl F L j) (mz_pl F L k)) * mz_tp 1 (mz_pl F L i) (mz_pl F L j) (mz_pl F L k)) (mz_Bof hQ.2.1 (by omega)),
          mz_ti (x := mz_sg (mz_det (mz_pl F L i) (mz_pl F L j) (mz_pl F L k)) * mz_tp 2 (mz_pl F L i) (mz_pl F L j) (mz_pl F L k)) (mz_Bof hQ.2.2.1 (by omega)),
          mz_ti (x := mz_sg (mz_det (mz_pl F L i) (mz_pl F L j) (mz_pl F L k)) * mz_det (mz_pl F L i) (mz_pl F L j) (mz_pl F L k)) (mz_Bof hQ.2.2.2 (by omega))]
        rfl
      refine ⟨6 + c + 1, mz_Xtry99 post hc hn F L _ _ w hR ?_ ?_ ?_ (6 + c + 1) 0 (by omega) (by omega) (fun e' h' => absurd h' (Nat.not_lt_zero e'))⟩
      · rw [e0]; exact hQ
      · intro hk'
        refine hY _ _ (fun e he => mz_plN (by omega)) e0 ⟨z, fun e ge => ?_⟩
        have := hk' e ge
        rw [e0] at this; exact this
      · rintro ⟨e, ge, hk'⟩
        refine hN _ _ (fun e he => mz_plN (by omega)) (Or.inr ⟨e, ge, ?_⟩)
        rw [e0] at hk'; exact hk'
    by_cases y : mz_det (mz_pl F L i) (mz_pl F L j) (mz_pl F L k) < 0
    · exact br_f (fun x => Int32.not_lt.mpr x (hs.1.mpr y)) (main _ (mz_sgT y).symm)
    · exact br_t (Int32.not_lt.mp fun x => y (hs.1.mp x)) (main _ (mz_sgF y).symm)
end
section
/- finding the corners: three loops -/
theorem mz_Xf37 (post : SX → Prop) (J15 J25 : Int32 → Int32 → Int32 → (Nat → Int32) → (Nat → Int32) → (Nat → Int32) → (Nat → Int32) → Prop) {c i j : Nat} (hc : c ≤ 7) (F L : Nat → Int32) (w : Int32)
    (hR : ∀ e, e < 6 + c → mz_R 40 (mz_pl F L e)) (hi : i < j) (hj : j < 6 + c) (M : Nat)
    (hJ : ∀ n T B, n ≤ M → mz_XI (mz_pl F L) (6 + c) w i (j + 1) 0 n (mz_pl T B) → J25 (nI (j + 1)) (nI c) (nI n) F L T B) (hM : M ≤ 286) :
    ∀ f k n T B, j < k → k ≤ 6 + c → 6 + c - k < f → n + (6 + c - k) ≤ M → mz_XI (mz_pl F L) (6 + c) w i j k n (mz_pl T B) →
      wX_findCorners_37 post J15 J25 w (nI (6 + c)) (nI i) (nI j) f (nI k) (nI c) (nI n) F L T B := by
  intro f
  induction f with
  | zero => intro k n T B _ _ h; omega
  | succ f ih =>
    intro k n T B hjk hk hf hn hI
    by_cases z : k = 6 + c
    · subst z
      exact br_t (nI_le (Nat.le_refl _) (by omega)) (nm_r (nI_1 j) (hJ n T B (by omega) (mz_X2 hI (Nat.le_refl _))))
    · refine br_f (nI_ge (by omega) (by omega)) ?_
      by_cases a : nI i = w
      · exact br_t a (nm_r (nI_1 k) (ih (k + 1) n T B (by omega) (by omega) (by omega) (by omega) (mz_X5 hI fun g => g.1.2 a)))
      · refine br_f a ?_
        by_cases b : nI j = w
        · exact br_t b (nm_r (nI_1 k) (ih (k + 1) n T B (by omega) (by omega) (by omega) (by omega) (mz_X5 hI fun g => g.2.1.2 b)))
        · refine br_f b ?_
          by_cases d : nI k = w
          · exact br_t d (nm_r (nI_1 k) (ih (k + 1) n T B (by omega) (by omega) (by omega) (by omega) (mz_X5 hI fun g => g.2.2.2 d)))
          · refine br_f d ?_
            refine mz_Xtry _ hc (by omega) (by omega) hj (by omega) F L T B w hR (fun T' B' he h0 hy => ?_) (fun T' B' he hno => ?_)
            · exact nm_r (nI_1 k) (ih (k + 1) (n + 1) T' B' (by omega) (by omega) (by omega) (by omega) (mz_X7 hI ⟨by omega, a⟩ ⟨hj, b⟩ ⟨by omega, d⟩ he h0 hy))
            · exact nm_r (nI_1 k) (ih (k + 1) n T' B' (by omega) (by omega) (by omega) (by omega) (mz_X6 hI he hno))
theorem mz_Xf25 (post : SX → Prop) (J15 : Int32 → Int32 → Int32 → (Nat → Int32) → (Nat → Int32) → (Nat → Int32) → (Nat → Int32) → Prop) {c i : Nat} (hc : c ≤ 7) (F L : Nat → Int32) (w : Int32)
    (hR : ∀ e, e < 6 + c → mz_R 40 (mz_pl F L e)) (hi : i < 6 + c) (M : Nat)
    (hJ : ∀ n T B, n ≤ M → mz_XI (mz_pl F L) (6 + c) w (i + 1) 0 0 n (mz_pl T B) → J15 (nI (i + 1)) (nI c) (nI n) F L T B) (hM : M ≤ 286) :
    ∀ f j n T B, i < j → j ≤ 6 + c → 6 + c - j < f → n + mz_tri (6 + c - j) ≤ M → mz_XI (mz_pl F L) (6 + c) w i j 0 n (mz_pl T B) →
      wX_findCorners_25 post J15 w (nI (6 + c)) (nI i) f (nI j) (nI c) (nI n) F L T B := by
  intro f
  induction f with
  | zero => intro j n T B _ _ h; omega
  | succ f ih =>
    intro j n T B hij hj hf hn hI
    by_cases z : j = 6 + c
    · subst z
      exact br_t (nI_le (Nat.le_refl _) (by omega)) (nm_r (nI_1 i) (hJ n T B (by omega) (mz_X4 hI (Nat.le_refl _))))
    · refine br_f (nI_ge (by omega) (by omega)) (nm_r (nI_1 j) ?_)
      have t := mz_tri1 (show j < 6 + c by omega)
      refine ⟨6 + c + 1, mz_Xf37 post J15 _ hc F L w hR hij (by omega) (M - mz_tri (6 + c - (j + 1))) (fun n' T' B' h' hI' => ?_) (by omega) (6 + c + 1) (j + 1) n T B (by omega) (by omega) (by omega) (by omega) (mz_X1 hI)⟩
      exact ih (j + 1) n' T' B' (by omega) (by omega) (by omega) (by omega) hI'
theorem mz_Xf15 (post : SX → Prop) {c : Nat} (hc : c ≤ 7) (F L : Nat → Int32) (w : Int32)
    (hR : ∀ e, e < 6 + c → mz_R 40 (mz_pl F L e))
    (hp : ∀ n T B, n ≤ 286 → mz_F (mz_C (mz_S (mz_pl F L) (mz_gd (6 + c) w))) (mz_pl T B) n → post (nI c, nI n, F, L, T, B)) :
    ∀ f i n T B, i ≤ 6 + c → 6 + c - i < f → n + mz_tet (6 + c - i) ≤ 286 → mz_XI (mz_pl F L) (6 + c) w i 0 0 n (mz_pl T B) →
      wX_findCorners_15 post w (nI (6 + c)) f (nI i) (nI c) (nI n) F L T B := by
  intro f
  induction f with
  | zero => intro i n T B _ h; omega
  | succ f ih =>
    intro i n T B hi hf hn hI
    by_cases z : i = 6 + c
    · subst z
      exact br_t (nI_le (Nat.le_refl _) (by omega)) (hp n T B (by omega) (mz_X9 hI (Nat.le_refl _)))
    · refine br_f (nI_ge (by omega) (by omega)) (nm_r (nI_1 i) ?_)
      have t := mz_tet1 (show i < 6 + c by omega)
      refine ⟨6 + c + 1, mz_Xf25 post _ hc F L w hR (by omega) (286 - mz_tet (6 + c - (i + 1))) (fun n' T' B' h' hI' => ?_) (by omega) (6 + c + 1) (i + 1) n T B (by omega) (by omega) (by omega) (by omega) (mz_X3 hI)⟩
      exact ih (i + 1) n' T' B' (by omega) (by omega) (by omega) hI'
theorem mz_Xfind (post : SX → Prop) {c : Nat} (hc : c ≤ 7) (co : Int32) (F L T B : Nat → Int32) (w : Int32)
    (hR : ∀ e, e < 6 + c → mz_R 40 (mz_pl F L e))
    (hp : ∀ n T B, n ≤ 286 → mz_F (mz_C (mz_S (mz_pl F L) (mz_gd (6 + c) w))) (mz_pl T B) n → post (nI c, nI n, F, L, T, B)) :
    wpX_findCorners post (nI c, co, F, L, T, B) w := by
  unfold wpX_findCorners
  dsimp only
  refine nm_r (nI_add 6 c) ?_
  refine ⟨6 + c + 1, mz_Xf15 post hc F L w hR hp (6 + c + 1) 0 0 T B (by omega) (by omega) ?_ mz_X8⟩
  have := mz_tet13 (6 + c) (by omega)
  rw [Nat.sub_zero]; omega
/- all corners keep a plane -/
theorem mz_Xck (post : Int32 → Prop) {c n p : Nat} (hn : n ≤ 286) (hp : p < 14) (F L T B : Nat → Int32) (hR : mz_R 1000 (mz_pl F L p)) (hQ : ∀ e, e < n → mz_Q (mz_pl T B e))
    (hT : (∀ e, e < n → mz_kp (mz_pl F L p) (mz_pl T B e)) → post 1) (hF : (¬ ∀ e, e < n → mz_kp (mz_pl F L p) (mz_pl T B e)) → post 0) :
    wpX_cornersKeep post (nI c, nI n, F, L, T, B) (nI p) := by
  have key : ∀ f e, e ≤ n → n - e < f → (∀ e', e' < e → mz_kp (mz_pl F L p) (mz_pl T B e')) → wX_cornersKeep_2 post (nI p) (nI c) (nI n) F L T B f (nI e) := by
    intro f
    induction f with
    | zero => intro e _ h; omega
    | succ f ih =>
      intro e he hf hk
      by_cases z : e = n
      · subst z
        exact br_t (nI_le (Nat.le_refl _) (by omega)) (hT hk)
      · refine br_f (nI_ge (by omega) (by omega)) ?_
        refine mz_Xkeeps _ (by omega) hp (nI c) (nI n) F L T B hR (hQ e (by omega)) (fun kp => ?_) (fun kp => ?_)
        · exact br_f (by decide) (nm_r (nI_1 e) (ih (e + 1) (by omega) (by omega) (lt_s hk kp)))
        · exact br_t rfl (hF fun h => kp (h e (by omega)))
  exact ⟨n + 1, key (n + 1) 0 (by omega) (by omega) (fun e h => absurd h (Nat.not_lt_zero e))⟩
/- the farthest corner -/
theorem mz_Xfar (post : Int32 → Prop) {c n ax : Nat} {sg : Int} (hs : sg = 1 ∨ sg = -1) (hx : ax < 3) (h0 : 0 < n) (hn : n ≤ 286) (F L T B : Nat → Int32) (hQ : ∀ e, e < n → mz_Q (mz_pl T B e)) (hu : ∀ e, e < n → 1 ≤ (mz_pl T B e).2.2.2)
    (hp : ∀ b, b < n → mz_FI (mz_pl T B) ax sg b n → post (nI b)) : wpX_farthestCorner post (nI c, nI n, F, L, T, B) (nI ax) (mz_z sg) := by
  have key : ∀ f b e, b < e → e ≤ n → n - e < f → mz_FI (mz_pl T B) ax sg b e → wX_farthestCorner_5 post (nI ax) (mz_z sg) (nI c) (nI n) F L T B f (nI b) (nI e) := by
    intro f
    induction f with
    | zero => intro b e _ _ h; omega
    | succ f ih =>
      intro b e hb he hf hI
      by_cases z : e = n
      · subst z
        exact br_t (nI_le (Nat.le_refl _) (by omega)) (hp b hb hI)
      · refine br_f (nI_ge (by omega) (by omega)) ?_
        refine ⟨mz_iv e ax (by omega) (by omega), vp_in_nI (by omega) (by omega), nm_e ?_⟩
        refine ⟨mz_iv b ax (by omega) (by omega), vp_in_nI (by omega) (by omega), nm_e ?_⟩
        rw [mz_ic e ax (by omega), mz_ic b ax (by omega), nI_clamp (show b < 2 ^ 31 by omega), nI_clamp (show e < 2 ^ 31 by omega), mz_fq hx, mz_fq hx]
        have k := mz_zle (mz_fb hs (hQ e (by omega)) (hQ b (by omega)) ax) (mz_fb hs (hQ b (by omega)) (hQ e (by omega)) ax)
        by_cases y : sg * mz_co ax (mz_pl T B e) * (mz_pl T B b).2.2.2 ≤ sg * mz_co ax (mz_pl T B b) * (mz_pl T B e).2.2.2
        · exact br_t (k.mpr y) (nm_r (nI_1 e) (ih b (e + 1) (by omega) (by omega) (by omega) (mz_FI1 hI y)))
        · exact br_f (fun x => y (k.mp x)) (nm_r (nI_1 e) (ih e (e + 1) (by omega) (by omega) (by omega) (mz_FI2 (fun c' h' => hu c' (by omega)) (by omega) hI y)))
  exact ⟨n + 1, key (n + 1) 0 1 (by omega) (by omega) (by omega) mz_FI0⟩
/- the greatest common divisor -/
theorem mz_Xgcd (post : Int32 → Prop) {t b : Int} (ht : -3840 ≤ t ∧ t ≤ 3840) (hb : 1 ≤ b ∧ b ≤ 384) (hp : post (mz_z (mz_g t b))) : wpX_commonDivisor post (mz_z t) (mz_z b) := by
  have key : ∀ f (d : Nat), 1 ≤ d → (d : Int) ≤ b → d < f + 1 → (∀ e : Int, (d : Int) < e → e ≤ b → ¬ (e ∣ t ∧ e ∣ b)) → wX_commonDivisor_2 post (mz_z t) (mz_z b) f (mz_z (d : Int)) := by
    intro f
    induction f with
    | zero => intro d _ _ h; omega
    | succ f ih =>
      intro d h1 hd hf hm
      have hz : mz_z (d : Int) = nI d := mz_zn d
      have nxt : 2 ≤ d → ¬ ((d : Int) ∣ t ∧ (d : Int) ∣ b) → ∀ x : Int32, x = mz_z (d : Int) + (-1) → wX_commonDivisor_2 post (mz_z t) (mz_z b) f x := by
        intro h2 hno
        obtain ⟨d', rfl⟩ : ∃ d', d = d' + 1 := ⟨d - 1, by omega⟩
        refine nm_r (e' := mz_z (d' : Int)) (by rw [mz_zn, mz_zn, pk_m1]) (ih d' (by omega) (by omega) (by omega) fun e he hb' => ?_)
        by_cases y : e = ((d' + 1 : Nat) : Int)
        · rw [y]; exact hno
        · exact hm e (by omega) hb'
      by_cases z : d = 1
      · subst z
        refine br_t (by decide) ?_
        have := mz_cd (t := t) (b := b) (d := 1) (by omega) (by omega) (Int.one_dvd t) (Int.one_dvd b) (fun e he hb' => hm e (by omega) hb')
        rw [← this] at hp; exact hp
      · have ne : ¬ mz_z (d : Int) = 0 := by rw [hz]; exact nI_ne0 (by omega) (by omega)
        have t1 := mz_dv (t := t) (d := (d : Int)) ht (by omega)
        have t2 := mz_dv (t := b) (d := (d : Int)) (by omega) (by omega)
        refine br_f (by rw [hz]; exact nI_ge (b := d) (a := 1) (by omega) (by omega)) ⟨ne, ?_⟩
        by_cases x : (d : Int) ∣ t
        · refine br_t (t1.mpr x) ⟨ne, ?_⟩
          by_cases y : (d : Int) ∣ b
          · refine br_t (t2.mpr y) ?_
            rw [mz_cd (by omega) (by omega) x y hm]; exact hp
          · exact br_f (fun q => y (t2.mp q)) (nxt (by omega) fun q => y q.2)
        · exact br_f (fun q => x (t1.mp q)) (nxt (by omega) fun q => x q.1)
  obtain ⟨m, rfl⟩ := Int.eq_ofNat_of_zero_le (show 0 ≤ b by omega)
  exact ⟨m + 1, key (m + 1) m (by omega) (Int.le_refl _) (by omega) (fun e h1 h2 => by omega)⟩
end
section
/- the small questions -/
theorem mz_lc (x k : Int32) (v : Int) (hv : k.toInt = v) : (x < k ↔ x.toInt < v) ∧ (k < x ↔ v < x.toInt) ∧ (x ≤ k ↔ x.toInt ≤ v) ∧ (k ≤ x ↔ v ≤ x.toInt) := by
  subst hv
  exact ⟨Int32.lt_iff_toInt_lt, Int32.lt_iff_toInt_lt, Int32.le_iff_toInt_le, Int32.le_iff_toInt_le⟩
theorem mz_ofi {x : Int32} (h : 0 ≤ x.toInt) : x = nI x.toInt.toNat := by
  rw [← mz_zn, Int.toNat_of_nonneg h, mz_zt]
theorem mz_ofn {x : Int32} {n : Nat} (h : 0 ≤ x.toInt) (h' : x.toInt < n) : ∃ b : Nat, b < n ∧ x = nI b := ⟨x.toInt.toNat, by omega, mz_ofi h⟩
theorem mz_XisSlope (post : Int32 → Prop) (x : Int32) (hT : 0 ≤ x.toInt ∧ x.toInt ≤ 728 → post 1) (hF : ¬ (0 ≤ x.toInt ∧ x.toInt ≤ 728) → post 0) : wpX_isSlope post x := by
  have a := mz_lc x 0 0 (by decide)
  have b := mz_lc x 728 728 (by decide)
  by_cases h : x.toInt < 0
  · exact br_t (a.1.mpr h) (hF (by omega))
  · refine br_f (fun z => h (a.1.mp z)) ?_
    by_cases h' : 728 < x.toInt
    · exact br_t (b.2.1.mpr h') (hF (by omega))
    · exact br_f (fun z => h' (b.2.1.mp z)) (hT (by omega))
theorem mz_XisAxis (post : Int32 → Prop) (x : Int32) (hT : 0 ≤ x.toInt ∧ x.toInt < 3 → post 1) (hF : ¬ (0 ≤ x.toInt ∧ x.toInt < 3) → post 0) : wpX_isAxis post x := by
  have a := mz_lc x 0 0 (by decide)
  have b := mz_lc x 3 3 (by decide)
  by_cases h : x.toInt < 0
  · exact br_t (a.1.mpr h) (hF (by omega))
  · refine br_f (fun z => h (a.1.mp z)) ?_
    by_cases h' : 3 ≤ x.toInt
    · exact br_t (b.2.2.2.mpr h') (hF (by omega))
    · exact br_f (fun z => h' (b.2.2.2.mp z)) (hT (by omega))
theorem mz_XisScale (post : Int32 → Prop) (x : Int32) (hT : 1 ≤ x.toInt ∧ x.toInt ≤ 20 → post 1) (hF : ¬ (1 ≤ x.toInt ∧ x.toInt ≤ 20) → post 0) : wpX_isScale post x := by
  have a := mz_lc x 1 1 (by decide)
  have b := mz_lc x 20 20 (by decide)
  by_cases h : x.toInt < 1
  · exact br_t (a.1.mpr h) (hF (by omega))
  · refine br_f (fun z => h (a.1.mp z)) ?_
    by_cases h' : 20 < x.toInt
    · exact br_t (b.2.1.mpr h') (hF (by omega))
    · exact br_f (fun z => h' (b.2.1.mp z)) (hT (by omega))
theorem mz_XisWithin (post : Int32 → Prop) (x m : Int32) (v : Int) (h1 : m.toInt = v) (h2 : (-m).toInt = -v) (hT : -v ≤ x.toInt ∧ x.toInt ≤ v → post 1) (hF : ¬ (-v ≤ x.toInt ∧ x.toInt ≤ v) → post 0) : wpX_isWithin post x m := by
  have a := mz_lc x (-m) (-v) h2
  have b := mz_lc x m v h1
  by_cases h : x.toInt < -v
  · exact br_t (a.1.mpr h) (hF (by omega))
  · refine br_f (fun z => h (a.1.mp z)) ?_
    by_cases h' : v < x.toInt
    · exact br_t (b.2.1.mpr h') (hF (by omega))
    · exact br_f (fun z => h' (b.2.1.mp z)) (hT (by omega))
theorem mz_XisBound (post : Int32 → Prop) {c : Nat} (hc : c ≤ 7) (co : Int32) (F L T B : Nat → Int32) (x : Int32) (hT : 0 ≤ x.toInt ∧ x.toInt < c → post 1) (hF : ¬ (0 ≤ x.toInt ∧ x.toInt < c) → post 0) : wpX_isBound post (nI c, co, F, L, T, B) x := by
  have a := mz_lc x 0 0 (by decide)
  have b := mz_lc x (nI c) c (nI_toInt (by omega))
  by_cases h : x.toInt < 0
  · exact br_t (a.1.mpr h) (hF (by omega))
  · refine br_f (fun z => h (a.1.mp z)) ?_
    by_cases h' : (c : Int) ≤ x.toInt
    · exact br_t (b.2.2.2.mpr h') (hF (by omega))
    · exact br_f (fun z => h' (b.2.2.2.mp z)) (hT (by omega))
/- the reach -/
theorem mz_z64 (x : Int32) : x.toInt64 = mz_l x.toInt := by
  rw [← Int32.toInt_toInt64, mz_lt']
theorem mz_zd64 {a b : Int} (ha : mz_B a) (hb : mz_B b) (h1 : b ≠ -1) : (mz_z a / mz_z b).toInt64 = mz_l (a.tdiv b) := by
  have hb' : mz_z b ≠ -1 := by
    intro e
    have := congrArg Int32.toInt e
    rw [mz_ti hb] at this
    exact h1 (this.trans (by decide))
  have e := Int32.toInt_div_of_ne_right (mz_z a) (mz_z b) hb'
  rw [mz_ti ha, mz_ti hb] at e
  rw [mz_z64, e]
theorem mz_gz {a b : Int} (hb : 1 ≤ b ∧ b ≤ 384) : ¬ mz_z (mz_g a b) = 0 := by
  have h := mz_g1 (a := a) hb
  rw [← mz_z0, mz_zeq ⟨by omega, by omega⟩ ⟨by omega, by omega⟩]
  omega
theorem mz_Xrt (post : Int32 → SX → Prop) {c ax : Nat} {sg : Int} (hs : sg = 1 ∨ sg = -1) (p1 : Int32) (ep : p1 = mz_z sg) (hx : ax < 3) (hc : c ≤ 7) (co : Int32) (F L T B : Nat → Int32) (hR : ∀ e, e < 6 + c → mz_R 40 (mz_pl F L e))
    (hE : (∀ t, ¬ mz_C (mz_S (mz_pl F L) (mz_gd (6 + c) (-1))) t) → ∀ n T B, post (-2000000) (nI c, nI n, F, L, T, B))
    (hp : ∀ x a b, x.toInt64 = mz_l a → mz_Rc (mz_C (mz_S (mz_pl F L) (mz_gd (6 + c) (-1)))) ax sg a b → ∀ n T B, post x (nI c, nI n, F, L, T, B)) :
    wpX_reachTop post (nI c, co, F, L, T, B) (nI ax) p1 := by
  subst ep
  unfold wpX_reachTop
  dsimp only
  refine mz_XisAxis _ _ (fun _ => ?_) (fun h => absurd ⟨by rw [nI_toInt (by omega)]; omega, by rw [nI_toInt (by omega)]; omega⟩ h)
  refine br_f (by decide) ?_
  refine mz_Xfind _ hc co F L T B (-1) hR fun n T' B' hn hF => ?_
  have hQ : ∀ e, e < n → mz_Q (mz_pl T' B' e) := fun e he => mz_CQ (fun p ⟨q, hq, hqp⟩ => hqp ▸ hR q hq.1) (hF.1 e he)
  have hu : ∀ e, e < n → 1 ≤ (mz_pl T' B' e).2.2.2 := fun e he => mz_Cun (hF.1 e he)
  by_cases z : n = 0
  · subst z
    exact br_t rfl (hE ((mz_Fe hF).mp rfl) 0 T' B')
  · refine br_f (nI_ne0 (by omega) (by omega)) ?_
    refine mz_Xfar _ hs hx (by omega) hn F L T' B' hQ hu fun b hb hI => ?_
    have q := hQ b hb
    have u := hu b hb
    have e1 : T' (3 * b + ax) = mz_z (mz_co ax (mz_pl T' B' b)) := by rw [mz_plc T' B' b ax hx, mz_zt]
    have e2 : B' b = mz_z (mz_pl T' B' b).2.2.2 := (mz_zt (B' b)).symm
    refine ⟨mz_iv b ax (by omega) (by omega), nm_e ⟨vp_in_nI (by omega) (by omega), ?_⟩⟩
    dsimp only
    rw [mz_ic b ax (by omega), nI_clamp (show b < 2 ^ 31 by omega), e1, e2]
    have cb := mz_coQ q ax
    have qb := q.2.2.2
    have g := mz_g1 (a := mz_co ax (mz_pl T' B' b)) (b := (mz_pl T' B' b).2.2.2) ⟨u, qb.2⟩
    refine mz_Xgcd _ cb ⟨u, qb.2⟩ ⟨mz_gz ⟨u, qb.2⟩, ?_⟩
    exact hp _ _ _ (mz_zd64 ⟨by omega, by omega⟩ ⟨by omega, by omega⟩ (by omega)) (mz_FIe hI hF hb) n T' B'
theorem mz_Xrb (post : Int32 → SX → Prop) {c ax : Nat} {sg : Int} (hs : sg = 1 ∨ sg = -1) (p1 : Int32) (ep : p1 = mz_z sg) (hx : ax < 3) (hc : c ≤ 7) (co : Int32) (F L T B : Nat → Int32) (hR : ∀ e, e < 6 + c → mz_R 40 (mz_pl F L e))
    (hE : (∀ t, ¬ mz_C (mz_S (mz_pl F L) (mz_gd (6 + c) (-1))) t) → ∀ n T B, post 0 (nI c, nI n, F, L, T, B))
    (hp : ∀ x a b, x.toInt64 = mz_l b → mz_Rc (mz_C (mz_S (mz_pl F L) (mz_gd (6 + c) (-1)))) ax sg a b → ∀ n T B, post x (nI c, nI n, F, L, T, B)) :
    wpX_reachBottom post (nI c, co, F, L, T, B) (nI ax) p1 := by
  subst ep
  unfold wpX_reachBottom
  dsimp only
  refine mz_XisAxis _ _ (fun _ => ?_) (fun h => absurd ⟨by rw [nI_toInt (by omega)]; omega, by rw [nI_toInt (by omega)]; omega⟩ h)
  refine br_f (by decide) ?_
  refine mz_Xfind _ hc co F L T B (-1) hR fun n T' B' hn hF => ?_
  have hQ : ∀ e, e < n → mz_Q (mz_pl T' B' e) := fun e he => mz_CQ (fun p ⟨q, hq, hqp⟩ => hqp ▸ hR q hq.1) (hF.1 e he)
  have hu : ∀ e, e < n → 1 ≤ (mz_pl T' B' e).2.2.2 := fun e he => mz_Cun (hF.1 e he)
  by_cases z : n = 0
  · subst z
    exact br_t rfl (hE ((mz_Fe hF).mp rfl) 0 T' B')
  · refine br_f (nI_ne0 (by omega) (by omega)) ?_
    refine mz_Xfar _ hs hx (by omega) hn F L T' B' hQ hu fun b hb hI => ?_
    have q := hQ b hb
    have u := hu b hb
    have e1 : T' (3 * b + ax) = mz_z (mz_co ax (mz_pl T' B' b)) := by rw [mz_plc T' B' b ax hx, mz_zt]
    have e2 : B' b = mz_z (mz_pl T' B' b).2.2.2 := (mz_zt (B' b)).symm
    refine ⟨vp_in_nI (by omega) (by omega), nm_e ⟨mz_iv b ax (by omega) (by omega), ?_⟩⟩
    dsimp only
    rw [mz_ic b ax (by omega), nI_clamp (show b < 2 ^ 31 by omega), e1, e2]
    have cb := mz_coQ q ax
    have qb := q.2.2.2
    have g := mz_g1 (a := mz_co ax (mz_pl T' B' b)) (b := (mz_pl T' B' b).2.2.2) ⟨u, qb.2⟩
    refine mz_Xgcd _ cb ⟨u, qb.2⟩ ⟨mz_gz ⟨u, qb.2⟩, ?_⟩
    exact hp _ _ _ (mz_zd64 ⟨by omega, by omega⟩ ⟨by omega, by omega⟩ (by omega)) (mz_FIe hI hF hb) n T' B'
end
section
/- a line against the planes, the component's -/
theorem mz_Xl125 (post : Int32 → Prop) (J46 : Int32 → Int32 → Int32 → Int32 → Int32 → Prop) (x1 x2 x3 x4 x5 x6 cn co : Int32) (F L T B : Nat → Int32) {o r lt lb ht hb : Int} {e : Nat}
    (ho : -4 ≤ o ∧ o ≤ 4) (hr : -5600 ≤ r ∧ r ≤ 5600) (b : (-1000000 ≤ lt ∧ lt ≤ 1000000) ∧ (1 ≤ lb ∧ lb ≤ 4) ∧ (-1000000 ≤ ht ∧ ht ≤ 1000000) ∧ (1 ≤ hb ∧ hb ≤ 4))
    (hJ : ∀ lt' lb' ht' hb', ((mz_nh o r ht hb ∧ ht' = r ∧ hb' = o) ∨ (¬ mz_nh o r ht hb ∧ ht' = ht ∧ hb' = hb)) → ((mz_nl o r lt lb ∧ lt' = -r ∧ lb' = -o) ∨ (¬ mz_nl o r lt lb ∧ lt' = lt ∧ lb' = lb)) → J46 (mz_z lt') (mz_z lb') (mz_z ht') (mz_z hb') (nI (e + 1))) :
    wX_lineMeetsBody_125 post J46 x1 x2 x3 x4 x5 x6 (mz_z lt) (mz_z lb) (mz_z ht) (mz_z hb) (nI e) (mz_z o) (mz_z r) cn co F L T B := by
  have q0 := mz_q0 ho
  have q2 := mz_q2 ho hr b.2.2.1 b.2.2.2
  have q3 := mz_q3 ho hr b.1 b.2.1
  have s : ∀ ht' hb', ((mz_nh o r ht hb ∧ ht' = r ∧ hb' = o) ∨ (¬ mz_nh o r ht hb ∧ ht' = ht ∧ hb' = hb)) →
      wX_lineMeetsBody_151 post J46 x1 x2 x3 x4 x5 x6 (mz_z lt) (mz_z lb) (mz_z ht') (mz_z hb') (nI e) (mz_z o) (mz_z r) cn co F L T B := by
    intro ht' hb' hh
    by_cases y : 0 ≤ o
    · exact br_t (q0.2.2.mpr y) (nm_r (nI_1 e) (hJ lt lb ht' hb' hh (Or.inr ⟨fun z => by have := z.1; omega, rfl, rfl⟩)))
    · refine br_f (fun z => y (q0.2.2.mp z)) ?_
      by_cases x : -r * lb ≤ lt * -o
      · exact br_t (q3.mpr x) (nm_r (nI_1 e) (hJ lt lb ht' hb' hh (Or.inr ⟨fun z => by have := z.2; omega, rfl, rfl⟩)))
      · exact br_f (fun z => x (q3.mp z)) (nm_r (mz_zg r) (nm_r (mz_zg o) (nm_r (nI_1 e) (hJ (-r) (-o) ht' hb' hh (Or.inl ⟨⟨by omega, by omega⟩, rfl, rfl⟩)))))
  by_cases y : o ≤ 0
  · exact br_t (q0.2.1.mpr y) (s ht hb (Or.inr ⟨fun z => by have := z.1; omega, rfl, rfl⟩))
  · refine br_f (fun z => y (q0.2.1.mp z)) ?_
    by_cases x : ht * o ≤ r * hb
    · exact br_t (q2.mpr x) (s ht hb (Or.inr ⟨fun z => by have := z.2; omega, rfl, rfl⟩))
    · exact br_f (fun z => x (q2.mp z)) (s r o (Or.inl ⟨⟨by omega, by omega⟩, rfl, rfl⟩))
theorem mz_Xl46 (post : Int32 → Prop) {c ax A Q : Nat} (hc : c ≤ 7) (hx : ax < 3) (hA : A < 3) (hQ : Q < 3) (co : Int32) (F L T B : Nat → Int32) {p q k : Int} (hp : -400 ≤ p ∧ p ≤ 400) (hq : -400 ≤ q ∧ q ≤ 400) (hk : 1 ≤ k ∧ k ≤ 20)
    (hR : ∀ e, e < 6 + c → mz_R 40 (mz_pl F L e)) (hW : ∀ e, e < 6 → mz_S (mz_pl F L) (mz_gd (6 + c) (-1)) (mz_wl e))
    (hrest : ∀ e, L e * mz_z k - F (3 * e + A) * mz_z p - F (3 * e + Q) * mz_z q = mz_z (mz_rs ax p q k (mz_pl F L e)))
    (h : post (nI (mz_zi (mz_Z (mz_S (mz_pl F L) (mz_gd (6 + c) (-1))) (mz_co ax) (mz_rs ax p q k))))) :
    ∀ f e lt lb ht hb, e ≤ 6 + c → 6 + c - e < f → mz_ZI (mz_S (mz_pl F L) (mz_gd (6 + c) (-1))) (fun s => ∃ e', e' < e ∧ mz_pl F L e' = s) (mz_co ax) (mz_rs ax p q k) (10 * k) lt lb ht hb →
      wX_lineMeetsBody_46 post (nI ax) (mz_z p) (mz_z q) (mz_z k) (nI A) (nI Q) (nI c) co F L T B f (mz_z lt) (mz_z lb) (mz_z ht) (mz_z hb) (nI e) := by
  have e6 : (6 : Int32) + nI c = nI (6 + c) := nI_add 6 c
  have hS : ∀ s, mz_S (mz_pl F L) (mz_gd (6 + c) (-1)) s → mz_R 40 s := fun s ⟨e, g, he⟩ => he ▸ hR e g.1
  intro f
  induction f with
  | zero => intro e lt lb ht hb _ h; omega
  | succ f ih =>
    intro e lt lb ht hb he hf hI
    have b := mz_ZIb hI (fun s hs => ⟨mz_cob (hS s hs), mz_rsb (hS s hs) hp hq hk⟩) (by omega)
    by_cases z : e = 6 + c
    · subst z
      have fin := mz_ZIe hI (fun s ⟨e, g, he⟩ => ⟨e, g.1, he⟩) (Int.le_refl (10 * k)) ⟨mz_wl (2 * ax + 1), hW _ (by omega), mz_wlo ax p q k hx⟩ ⟨mz_wl (2 * ax), hW _ (by omega), mz_whi ax p q k hx⟩
      have q4 := mz_q4 b.1 b.2.1 b.2.2.1 b.2.2.2
      refine br_t (by rw [e6]; exact nI_le (Nat.le_refl _) (by omega)) ?_
      by_cases y : lt * hb ≤ ht * lb
      · rw [mz_ziT (fin.mp y)] at h
        exact br_f (fun x => by have := q4.2.mp x; omega) h
      · rw [mz_ziF (fun x => y (fin.mpr x))] at h
        exact br_t (q4.2.mpr (by omega)) h
    · refine br_f (by rw [e6]; exact nI_ge (by omega) (by omega)) ?_
      have Se : mz_S (mz_pl F L) (mz_gd (6 + c) (-1)) (mz_pl F L e) := ⟨e, ⟨by omega, mz_nm1 (by omega)⟩, rfl⟩
      have ho := mz_cob (ax := ax) (hR e (by omega))
      have hr := mz_rsb (ax := ax) (hR e (by omega)) hp hq hk
      have q0 := mz_q0 ho
      have q1 := mz_q1 hr
      have e1 : F ((3 : Int32) * nI e + nI ax).toNatClampNeg = mz_z (mz_co ax (mz_pl F L e)) := by rw [mz_ic e ax (by omega), mz_plc F L e ax hx, mz_zt]
      have e2 : L (nI e).toNatClampNeg * mz_z k - F ((3 : Int32) * nI e + nI A).toNatClampNeg * mz_z p - F ((3 : Int32) * nI e + nI Q).toNatClampNeg * mz_z q = mz_z (mz_rs ax p q k (mz_pl F L e)) := by
        rw [mz_ic e A (by omega), mz_ic e Q (by omega), nI_clamp (by omega), hrest]
      refine ⟨mz_iv e ax (by omega) (by omega), nm_r e1 ⟨vp_in_nI (by omega) (by omega), mz_iv e A (by omega) (by omega), mz_iv e Q (by omega) (by omega), nm_r e2 ?_⟩⟩
      have go : (mz_co ax (mz_pl F L e) = 0 → 0 ≤ mz_rs ax p q k (mz_pl F L e)) → wX_lineMeetsBody_125 post (wX_lineMeetsBody_46 post (nI ax) (mz_z p) (mz_z q) (mz_z k) (nI A) (nI Q) (nI c) co F L T B f) (nI ax) (mz_z p) (mz_z q) (mz_z k) (nI A) (nI Q) (mz_z lt) (mz_z lb) (mz_z ht) (mz_z hb) (nI e) (mz_z (mz_co ax (mz_pl F L e))) (mz_z (mz_rs ax p q k (mz_pl F L e))) (nI c) co F L T B := by
        intro h0
        refine mz_Xl125 post _ _ _ _ _ _ _ _ _ F L T B ho hr b fun lt' lb' ht' hb' hh hl => ?_
        refine ih (e + 1) lt' lb' ht' hb' (by omega) (by omega) (mz_ZIs hI Se (fun s ⟨e', h', es⟩ => ?_) h0 hh hl)
        rcases Nat.lt_or_ge e' e with a | a
        · exact Or.inl ⟨e', a, es⟩
        · have : e' = e := by omega
          subst this; exact Or.inr es.symm
      by_cases y : mz_co ax (mz_pl F L e) = 0
      · refine br_t (q0.1.mpr y) ?_
        by_cases x : 0 ≤ mz_rs ax p q k (mz_pl F L e)
        · exact br_t (q1.mpr x) (go fun _ => x)
        · rw [mz_ziF (fun w => x (w.1 _ Se y))] at h
          exact br_f (fun w => x (q1.mp w)) h
      · exact br_f (fun w => y (q0.1.mp w)) (go fun w => absurd w y)
theorem mz_Xrest (F L : Nat → Int32) (p q k : Int) : (∀ e, L e * mz_z k - F (3 * e + 1) * mz_z p - F (3 * e + 2) * mz_z q = mz_z (mz_rs 0 p q k (mz_pl F L e))) ∧
    (∀ e, L e * mz_z k - F (3 * e + 0) * mz_z p - F (3 * e + 2) * mz_z q = mz_z (mz_rs 1 p q k (mz_pl F L e))) ∧
    (∀ e, L e * mz_z k - F (3 * e + 0) * mz_z p - F (3 * e + 1) * mz_z q = mz_z (mz_rs 2 p q k (mz_pl F L e))) := by
  refine ⟨fun e => ?_, fun e => ?_, fun e => ?_⟩
  · have : mz_rs 0 p q k (mz_pl F L e) = (L e).toInt * k - (F (3 * e + 1)).toInt * p - (F (3 * e + 2)).toInt * q := by simp [mz_rs, mz_lx3, mz_pl]
    rw [this, ← mz_zs, ← mz_zs, ← mz_zm, ← mz_zm, ← mz_zm, mz_zt, mz_zt, mz_zt]
  · have : mz_rs 1 p q k (mz_pl F L e) = (L e).toInt * k - (F (3 * e + 0)).toInt * p - (F (3 * e + 2)).toInt * q := by simp [mz_rs, mz_lx3, mz_pl]
    rw [this, ← mz_zs, ← mz_zs, ← mz_zm, ← mz_zm, ← mz_zm, mz_zt, mz_zt, mz_zt]
  · have : mz_rs 2 p q k (mz_pl F L e) = (L e).toInt * k - (F (3 * e + 0)).toInt * p - (F (3 * e + 1)).toInt * q := by simp [mz_rs, mz_lx3, mz_pl]
    rw [this, ← mz_zs, ← mz_zs, ← mz_zm, ← mz_zm, ← mz_zm, mz_zt, mz_zt, mz_zt]
theorem mz_Xline (post : Int32 → Prop) {c ax : Nat} (hc : c ≤ 7) (hx : ax < 3) (co : Int32) (F L T B : Nat → Int32) {p q k : Int} (hp : -400 ≤ p ∧ p ≤ 400) (hq : -400 ≤ q ∧ q ≤ 400) (hk : 1 ≤ k ∧ k ≤ 20)
    (hR : ∀ e, e < 6 + c → mz_R 40 (mz_pl F L e)) (hW : ∀ e, e < 6 → mz_S (mz_pl F L) (mz_gd (6 + c) (-1)) (mz_wl e))
    (h : post (nI (mz_zi (mz_Z (mz_S (mz_pl F L) (mz_gd (6 + c) (-1))) (mz_co ax) (mz_rs ax p q k))))) :
    wpX_lineMeetsBody post (nI c, co, F, L, T, B) (nI ax) (mz_z p) (mz_z q) (mz_z k) := by
  have fin : ∀ A Q : Nat, A < 3 → Q < 3 → (∀ e, L e * mz_z k - F (3 * e + A) * mz_z p - F (3 * e + Q) * mz_z q = mz_z (mz_rs ax p q k (mz_pl F L e))) →
      wX_lineMeetsBody_21 post (nI ax) (mz_z p) (mz_z q) (mz_z k) (nI A) (nI Q) (nI c) co F L T B := by
    intro A Q hA hQ hrest
    have e1 : (-10 : Int32) * mz_z k = mz_z (-(10 * k)) := by
      rw [show (-10 : Int32) = mz_z (-10) by decide, mz_zm, Int.neg_mul]
    have e2 : (10 : Int32) * mz_z k = mz_z (10 * k) := by
      rw [show (10 : Int32) = mz_z 10 by decide, mz_zm]
    refine nm_r e1 (nm_r e2 ?_)
    have := mz_Xl46 post hc hx hA hQ co F L T B hp hq hk hR hW hrest h (6 + c + 1) 0 (-(10 * k)) 1 (10 * k) 1 (by omega) (by omega) (mz_ZI0 fun s ⟨e', h', _⟩ => Nat.not_lt_zero _ h')
    rw [mz_z1] at this
    exact ⟨6 + c + 1, this⟩
  have R := mz_Xrest F L p q k
  have e : ax = 0 ∨ ax = 1 ∨ ax = 2 := by omega
  rcases e with e | e | e <;> subst e
  · exact br_t rfl (br_f (by decide) (fin 1 2 (by omega) (by omega) R.1))
  · exact br_f (by decide) (br_f (by decide) (fin 0 2 (by omega) (by omega) R.2.1))
  · exact br_f (by decide) (br_t rfl (fin 0 1 (by omega) (by omega) R.2.2))
/- a point against the planes -/
theorem mz_Xhas (post : Int32 → Prop) {c : Nat} (hc : c ≤ 7) (co : Int32) (F L T B : Nat → Int32) {x y z k : Int} (hx : -400 ≤ x ∧ x ≤ 400) (hy : -400 ≤ y ∧ y ≤ 400) (hz : -400 ≤ z ∧ z ≤ 400) (hk : 1 ≤ k ∧ k ≤ 20)
    (hR : ∀ e, e < 6 + c → mz_R 40 (mz_pl F L e))
    (h : post (nI (mz_zi (∀ s, mz_S (mz_pl F L) (mz_gd (6 + c) (-1)) s → mz_kp s (x, y, z, k))))) :
    ∀ f e, e ≤ 6 + c → 6 + c - e < f → (∀ e', e' < e → mz_kp (mz_pl F L e') (x, y, z, k)) → wX_has_46 post (mz_z x) (mz_z y) (mz_z z) (mz_z k) (nI c) co F L T B f (nI e) := by
  have e6 : (6 : Int32) + nI c = nI (6 + c) := nI_add 6 c
  intro f
  induction f with
  | zero => intro e _ h; omega
  | succ f ih =>
    intro e he hf hI
    by_cases w : e = 6 + c
    · subst w
      rw [mz_ziT (fun s ⟨e, g, es⟩ => es ▸ hI e g.1)] at h
      exact br_t (by rw [e6]; exact nI_le (Nat.le_refl _) (by omega)) h
    · refine br_f (by rw [e6]; exact nI_ge (by omega) (by omega)) ?_
      have e1 : F (nI (3 * e)).toNatClampNeg * mz_z x + F (nI (3 * e) + 1).toNatClampNeg * mz_z y + F (nI (3 * e) + 2).toNatClampNeg * mz_z z = mz_z (mz_vl (mz_pl F L e) (x, y, z, k)) := by
        rw [nI_1, show nI (3 * e) + 2 = nI (3 * e + 2) from nI_add (3 * e) 2, nI_clamp (by omega), nI_clamp (by omega), nI_clamp (by omega)]
        show _ = mz_z ((F (3 * e)).toInt * x + (F (3 * e + 1)).toInt * y + (F (3 * e + 2)).toInt * z)
        rw [← mz_za, ← mz_za, ← mz_zm, ← mz_zm, ← mz_zm, mz_zt, mz_zt, mz_zt]
      have e2 : L (nI e).toNatClampNeg * mz_z k = mz_z ((mz_pl F L e).2.2.2 * k) := by
        rw [nI_clamp (by omega)]
        show _ = mz_z ((L e).toInt * k)
        rw [← mz_zm, mz_zt]
      have r := hR e (by omega)
      have b1 := mz_mb 4 400 r.1.1 r.1.2 hx.1 hx.2
      have b2 := mz_mb 4 400 r.2.1.1 r.2.1.2 hy.1 hy.2
      have b3 := mz_mb 4 400 r.2.2.1.1 r.2.2.1.2 hz.1 hz.2
      have b4 := mz_mb 40 20 r.2.2.2.1 r.2.2.2.2 (show -((20 : Nat) : Int) ≤ k by omega) (show k ≤ ((20 : Nat) : Int) by omega)
      have b5 : mz_B (mz_vl (mz_pl F L e) (x, y, z, k)) := by unfold mz_vl mz_B; dsimp only; omega
      have cmp := mz_zle b5 (show mz_B ((mz_pl F L e).2.2.2 * k) from ⟨by omega, by omega⟩)
      refine nm_r (mz_i0 e) ⟨vp_in_nI (by omega) (by omega), by rw [nI_1]; exact vp_in_nI (by omega) (by omega), by rw [show nI (3 * e) + 2 = nI (3 * e + 2) from nI_add (3 * e) 2]; exact vp_in_nI (by omega) (by omega), nm_r e1 ⟨vp_in_nI (by omega) (by omega), ?_⟩⟩
      rw [e2]
      by_cases v : mz_kp (mz_pl F L e) (x, y, z, k)
      · exact br_t (cmp.mpr v) (nm_r (nI_1 e) (ih (e + 1) (by omega) (by omega) (lt_s hI v)))
      · rw [mz_ziF (fun q => v (q _ ⟨e, ⟨by omega, mz_nm1 (by omega)⟩, rfl⟩))] at h
        exact br_f (fun q => v (cmp.mp q)) h
end
section
/- one point, the component's -/
theorem mz_Xifc (post : Int32 → Prop) {c n e : Nat} (hn : n ≤ 286) (he : e < n) (F L T B : Nat → Int32) (hQ : ∀ e, e < n → mz_Q (mz_pl T B e))
    (hT : (∀ ax, ax < 3 → mz_co ax (mz_pl T B e) * (mz_pl T B 0).2.2.2 = mz_co ax (mz_pl T B 0) * (mz_pl T B e).2.2.2) → post 1)
    (hF : (¬ ∀ ax, ax < 3 → mz_co ax (mz_pl T B e) * (mz_pl T B 0).2.2.2 = mz_co ax (mz_pl T B 0) * (mz_pl T B e).2.2.2) → post 0) :
    wpX_isFirstCorner post (nI c, nI n, F, L, T, B) (nI e) := by
  have key : ∀ f ax, ax ≤ 3 → 3 - ax < f → (∀ a, a < ax → mz_co a (mz_pl T B e) * (mz_pl T B 0).2.2.2 = mz_co a (mz_pl T B 0) * (mz_pl T B e).2.2.2) → wX_isFirstCorner_2 post (nI e) (nI c) (nI n) F L T B f (nI ax) := by
    intro f
    induction f with
    | zero => intro ax _ h; omega
    | succ f ih =>
      intro ax hx hf hI
      by_cases z : ax = 3
      · subst z
        exact br_t (nI_le (b := 3) (Nat.le_refl 3) (by decide)) (hT hI)
      · refine br_f (nI_ge (b := 3) (by omega) (by decide)) ?_
        have hx' : ax < 3 := by omega
        have e1 : T ((3 : Int32) * nI e + nI ax).toNatClampNeg * B 0 = mz_z (mz_co ax (mz_pl T B e) * (mz_pl T B 0).2.2.2) := by
          rw [mz_ic e ax (by omega), mz_plc T B e ax hx']
          show _ = mz_z ((T (3 * e + ax)).toInt * (B 0).toInt)
          rw [← mz_zm, mz_zt, mz_zt]
        have e2 : T (nI ax).toNatClampNeg * B (nI e).toNatClampNeg = mz_z (mz_co ax (mz_pl T B 0) * (mz_pl T B e).2.2.2) := by
          rw [nI_clamp (show ax < 2 ^ 31 by omega), nI_clamp (show e < 2 ^ 31 by omega), mz_plc T B 0 ax hx', show 3 * 0 + ax = ax by omega]
          show _ = mz_z ((T ax).toInt * (B e).toInt)
          rw [← mz_zm, mz_zt, mz_zt]
        have cmp := mz_zeq (mz_fs (hQ e he) (hQ 0 (by omega)) ax) (mz_fs (hQ 0 (by omega)) (hQ e he) ax)
        refine ⟨mz_iv e ax (by omega) (by omega), nm_r e1 ⟨vp_in_nI (by omega) (by omega), vp_in_nI (by omega) (by omega), nm_r e2 ?_⟩⟩
        by_cases y : mz_co ax (mz_pl T B e) * (mz_pl T B 0).2.2.2 = mz_co ax (mz_pl T B 0) * (mz_pl T B e).2.2.2
        · exact br_t (cmp.mpr y) (nm_r (nI_1 ax) (ih (ax + 1) (by omega) (by omega) (lt_s hI y)))
        · exact br_f (fun q => y (cmp.mp q)) (hF fun h => y (h ax hx'))
  exact ⟨4, key 4 0 (by omega) (by omega) (fun a h => absurd h (Nat.not_lt_zero a))⟩
theorem mz_Xs16 (post : Int32 → SX → Prop) {c n : Nat} (hn : n ≤ 286) (F L T B : Nat → Int32) (hQ : ∀ e, e < n → mz_Q (mz_pl T B e))
    (hT : (∀ e, e < n → ∀ ax, ax < 3 → mz_co ax (mz_pl T B e) * (mz_pl T B 0).2.2.2 = mz_co ax (mz_pl T B 0) * (mz_pl T B e).2.2.2) → post 1 (nI c, nI n, F, L, T, B))
    (hF : (¬ ∀ e, e < n → ∀ ax, ax < 3 → mz_co ax (mz_pl T B e) * (mz_pl T B 0).2.2.2 = mz_co ax (mz_pl T B 0) * (mz_pl T B e).2.2.2) → post 0 (nI c, nI n, F, L, T, B)) :
    ∀ f e, e ≤ n → n - e < f → (∀ e', e' < e → ∀ ax, ax < 3 → mz_co ax (mz_pl T B e') * (mz_pl T B 0).2.2.2 = mz_co ax (mz_pl T B 0) * (mz_pl T B e').2.2.2) → wX_single_16 post (nI c) (nI n) F L T B f (nI e) := by
  intro f
  induction f with
  | zero => intro e _ h; omega
  | succ f ih =>
    intro e he hf hI
    by_cases z : e = n
    · subst z
      exact br_t (nI_le (Nat.le_refl _) (by omega)) (hT hI)
    · refine br_f (nI_ge (by omega) (by omega)) ?_
      refine mz_Xifc _ hn (by omega) F L T B hQ (fun h => ?_) (fun h => ?_)
      · exact br_f (by decide) (nm_r (nI_1 e) (ih (e + 1) (by omega) (by omega) (lt_s hI h)))
      · exact br_t rfl (hF fun h' => h (h' e (by omega)))
/- copying and removing planes -/
theorem mz_Xcopy (post : SX → Prop) {a b : Nat} (ha : a < 14) (hb : b < 14) (cn co : Int32) (F L T B : Nat → Int32)
    (h : post (cn, co, upd (upd (upd F (3 * b) (F (3 * a))) (3 * b + 1) (F (3 * a + 1))) (3 * b + 2) (F (3 * a + 2)), upd L b (L a), T, B)) : wpX_copyPlane post (cn, co, F, L, T, B) (nI a) (nI b) := by
  refine ⟨4, ?_⟩
  refine br_f (by decide) ⟨mz_iv a 0 (by omega) (by omega), mz_iv b 0 (by omega) (by omega), nm_e (nm_r (e' := 1) (by decide) ?_)⟩
  refine br_f (by decide) ⟨mz_iv a 1 (by omega) (by omega), mz_iv b 1 (by omega) (by omega), nm_e (nm_r (e' := 2) (by decide) ?_)⟩
  refine br_f (by decide) ⟨mz_iv a 2 (by omega) (by omega), mz_iv b 2 (by omega) (by omega), nm_e (nm_r (e' := 3) (by decide) ?_)⟩
  refine br_t (by decide) ⟨vp_in_nI ha (by omega), vp_in_nI hb (by omega), nm_e ?_⟩
  rw [mz_ic0 a (by omega), mz_ic1 a (by omega), mz_ic2 a (by omega), mz_ic0 b (by omega), mz_ic1 b (by omega), mz_ic2 b (by omega), nI_clamp (show a < 2 ^ 31 by omega), nI_clamp (show b < 2 ^ 31 by omega)]
  rw [pk_un (show 3 * a + 2 ≠ 3 * b + 1 by omega), pk_un (show 3 * a + 2 ≠ 3 * b by omega), pk_un (show 3 * a + 1 ≠ 3 * b by omega)]
  exact h
theorem mz_plcp {F L : Nat → Int32} {a b : Nat} : mz_pl (upd (upd (upd F (3 * b) (F (3 * a))) (3 * b + 1) (F (3 * a + 1))) (3 * b + 2) (F (3 * a + 2))) (upd L b (L a)) b = mz_pl F L a := mz_plS
theorem mz_Xrem (post : Int32 → SX → Prop) {c b : Nat} (hc : c < 7) (hb : b ≤ c) (co : Int32) (F0 L0 T B : Nat → Int32)
    (hp : ∀ F L, (∀ e, e < 6 + b → mz_pl F L e = mz_pl F0 L0 e) → (∀ i, b ≤ i → i < c → mz_pl F L (6 + i) = mz_pl F0 L0 (6 + (i + 1))) → post (nI c) (nI c, co, F, L, T, B)) :
    ∀ f i F L, b ≤ i → i ≤ c → c - i < f → (∀ e, e < 6 + b → mz_pl F L e = mz_pl F0 L0 e) → (∀ i', b ≤ i' → i' < i → mz_pl F L (6 + i') = mz_pl F0 L0 (6 + (i' + 1))) → (∀ i', i ≤ i' → mz_pl F L (6 + i') = mz_pl F0 L0 (6 + i')) →
      wX_remove_25 post f (nI (6 + i)) (nI c) co F L T B := by
  have e6 : (6 : Int32) + nI c = nI (6 + c) := nI_add 6 c
  intro f
  induction f with
  | zero => intro i F L _ _ h; omega
  | succ f ih =>
    intro i F L hbi hi hf h1 h2 h3
    by_cases z : i = c
    · subst z
      exact br_t (by rw [e6]; exact nI_le (Nat.le_refl _) (by omega)) (hp F L h1 h2)
    · refine br_f (by rw [e6]; exact nI_ge (by omega) (by omega)) ?_
      rw [nI_1]
      refine mz_Xcopy _ (by omega) (by omega) (nI c) co F L T B ?_
      refine nm_e ?_
      refine ih (i + 1) _ _ (by omega) (by omega) (by omega) (fun e he => ?_) (fun i' hi' hl => ?_) (fun i' hi' => ?_)
      · rw [mz_plN (by omega)]; exact h1 e he
      · by_cases y : i' = i
        · subst y
          rw [mz_plcp]; exact h3 (i' + 1) (by omega)
        · rw [mz_plN (by omega)]; exact h2 i' hi' (by omega)
      · rw [mz_plN (by omega)]; exact h3 i' (by omega)
end
section
/- the reference: putting and taking planes -/
theorem mz_Yput (post : SY → Prop) {m : Nat} (hm : m < 13) (cn px py pz un an : Int32) (bt bb : Int64) (sl lm a b c d : Nat → Int32) (x y : Int32)
    (h : post (cn, nI (m + 1), px, py, pz, un, an, bt, bb, sl, lm, upd a m (x / 81 - 4), upd b m (x / 9 - x / 9 / 9 * 9 - 4), upd c m (x - x / 9 * 9 - 4), upd d m y)) : wpY_put post (cn, nI m, px, py, pz, un, an, bt, bb, sl, lm, a, b, c, d) x y := by
  unfold wpY_put
  dsimp only
  have v := vp_in_nI hm (show 13 < 2 ^ 31 by omega)
  refine ⟨by decide, v, nm_e ⟨by decide, by decide, v, nm_e ⟨by decide, v, nm_e ⟨v, nm_e (nm_r (nI_1 m) ?_)⟩⟩⟩⟩
  rw [nI_clamp (by omega)]
  exact h
def mz_Uk (sl lm : Nat → Int32) (c : Nat) (w : Int32) (k : Nat) (p : mz_P) : Prop := (∃ i, i < c ∧ ¬ nI i = w ∧ mz_dc (sl i) (lm i) = p) ∨ ∃ e, e < k ∧ mz_wl e = p
theorem mz_ptw {pl pl' : Nat → mz_P} {m k N : Nat} {sl lm : Nat → Int32} {w : Int32} (h : mz_pt pl m (mz_Uk sl lm N w k)) (he : ∀ e, e < m → pl' e = pl e) (h0 : pl' m = mz_wl k) : mz_pt pl' (m + 1) (mz_Uk sl lm N w (k + 1)) := by
  refine mz_pt1 h he h0 fun p => ?_
  constructor
  · rintro (z | ⟨e, he', ep⟩)
    · exact Or.inl (Or.inl z)
    · rcases Nat.lt_or_ge e k with y | y
      · exact Or.inl (Or.inr ⟨e, y, ep⟩)
      · have : e = k := by omega
        subst this; exact Or.inr ep
  · rintro ((z | ⟨e, he', ep⟩) | z)
    · exact Or.inl z
    · exact Or.inr ⟨e, by omega, ep⟩
    · exact Or.inr ⟨k, by omega, z⟩
theorem mz_qaD {a b c d : Nat → Int32} {m : Nat} {x y : Int32} : mz_qa (upd a m (x / 81 - 4)) (upd b m (x / 9 - x / 9 / 9 * 9 - 4)) (upd c m (x - x / 9 * 9 - 4)) (upd d m y) m = mz_dc x y := mz_qaS
theorem mz_Yt48 (post : SY → Prop) {m N : Nat} (hm : m ≤ 7) (w : Int32) (cn px py pz un an : Int32) (bt bb : Int64) (sl lm a b c d : Nat → Int32)
    (h : mz_pt (mz_qa a b c d) m (mz_Uk sl lm N w 0))
    (hp : ∀ m a b c d, 6 ≤ m → m ≤ 13 → mz_pt (mz_qa a b c d) m (mz_U sl lm N w) → post (cn, nI m, px, py, pz, un, an, bt, bb, sl, lm, a, b, c, d)) :
    wY_take_48 post cn (nI m) px py pz un an bt bb sl lm a b c d := by
  unfold wY_take_48
  refine mz_Yput _ (by omega) cn px py pz un an bt bb sl lm _ _ _ _ 445 10 ?_
  dsimp only
  refine mz_Yput _ (by omega) cn px py pz un an bt bb sl lm _ _ _ _ 283 10 ?_
  dsimp only
  refine mz_Yput _ (by omega) cn px py pz un an bt bb sl lm _ _ _ _ 373 10 ?_
  dsimp only
  refine mz_Yput _ (by omega) cn px py pz un an bt bb sl lm _ _ _ _ 355 10 ?_
  dsimp only
  refine mz_Yput _ (by omega) cn px py pz un an bt bb sl lm _ _ _ _ 365 10 ?_
  dsimp only
  refine mz_Yput _ (by omega) cn px py pz un an bt bb sl lm _ _ _ _ 363 10 ?_
  refine hp _ _ _ _ _ (by omega) (by omega) ?_
  have h0 := mz_ptw (pl' := mz_qa (upd a m (445 / 81 - 4)) (upd b m (445 / 9 - 445 / 9 / 9 * 9 - 4)) (upd c m (445 - 445 / 9 * 9 - 4)) (upd d m 10)) h (fun e he => mz_qaN (by omega)) (mz_qaD.trans mz_w0)
  have h1 := mz_ptw (pl' := mz_qa (upd _ (m + 1) (283 / 81 - 4)) (upd _ (m + 1) (283 / 9 - 283 / 9 / 9 * 9 - 4)) (upd _ (m + 1) (283 - 283 / 9 * 9 - 4)) (upd _ (m + 1) 10)) h0 (fun e he => mz_qaN (by omega)) (mz_qaD.trans mz_w1)
  have h2 := mz_ptw (pl' := mz_qa (upd _ (m + 2) (373 / 81 - 4)) (upd _ (m + 2) (373 / 9 - 373 / 9 / 9 * 9 - 4)) (upd _ (m + 2) (373 - 373 / 9 * 9 - 4)) (upd _ (m + 2) 10)) h1 (fun e he => mz_qaN (by omega)) (mz_qaD.trans mz_w2)
  have h3 := mz_ptw (pl' := mz_qa (upd _ (m + 3) (355 / 81 - 4)) (upd _ (m + 3) (355 / 9 - 355 / 9 / 9 * 9 - 4)) (upd _ (m + 3) (355 - 355 / 9 * 9 - 4)) (upd _ (m + 3) 10)) h2 (fun e he => mz_qaN (by omega)) (mz_qaD.trans mz_w3)
  have h4 := mz_ptw (pl' := mz_qa (upd _ (m + 4) (365 / 81 - 4)) (upd _ (m + 4) (365 / 9 - 365 / 9 / 9 * 9 - 4)) (upd _ (m + 4) (365 - 365 / 9 * 9 - 4)) (upd _ (m + 4) 10)) h3 (fun e he => mz_qaN (by omega)) (mz_qaD.trans mz_w4)
  have h5 := mz_ptw (pl' := mz_qa (upd _ (m + 5) (363 / 81 - 4)) (upd _ (m + 5) (363 / 9 - 363 / 9 / 9 * 9 - 4)) (upd _ (m + 5) (363 - 363 / 9 * 9 - 4)) (upd _ (m + 5) 10)) h4 (fun e he => mz_qaN (by omega)) (mz_qaD.trans mz_w5)
  exact h5
theorem mz_Yt7 (post : SY → Prop) {N : Nat} (hN : N ≤ 7) (w px py pz un an : Int32) (bt bb : Int64) (sl lm : Nat → Int32)
    (hp : ∀ m a b c d, 6 ≤ m → m ≤ 13 → mz_pt (mz_qa a b c d) m (mz_U sl lm N w) → post (nI N, nI m, px, py, pz, un, an, bt, bb, sl, lm, a, b, c, d)) :
    ∀ f i m a b c d, i ≤ N → m ≤ i → N - i < f → mz_pt (mz_qa a b c d) m (mz_Uk sl lm i w 0) → wY_take_7 post w f (nI i) (nI N) (nI m) px py pz un an bt bb sl lm a b c d := by
  intro f
  induction f with
  | zero => intro i m a b c d _ _ h; omega
  | succ f ih =>
    intro i m a b c d hi hm hf hI
    by_cases z : i = N
    · subst z
      exact br_t (nI_le (Nat.le_refl _) (by omega)) (mz_Yt48 post (by omega) w (nI i) px py pz un an bt bb sl lm a b c d hI hp)
    · refine br_f (nI_ge (by omega) (by omega)) ?_
      refine br_f (nI_ge (b := 7) (by omega) (by decide)) ?_
      by_cases y : nI i = w
      · refine br_t y (nm_r (nI_1 i) (ih (i + 1) m a b c d (by omega) (by omega) (by omega) fun p => (hI p).trans ?_))
        constructor
        · rintro (⟨e, he, x⟩ | ⟨e, he, _⟩)
          · exact Or.inl ⟨e, by omega, x⟩
          · omega
        · rintro (⟨e, he, x⟩ | ⟨e, he, _⟩)
          · refine Or.inl ⟨e, ?_, x⟩
            have : e ≠ i := fun q => x.1 (q ▸ y)
            omega
          · omega
      · have v := vp_in_nI (show i < 7 by omega) (show 7 < 2 ^ 31 by omega)
        refine br_f y ⟨v, v, ?_⟩
        rw [nI_clamp (by omega)]
        refine mz_Yput _ (by omega) (nI N) px py pz un an bt bb sl lm a b c d (sl i) (lm i) ?_
        refine nm_r (nI_1 i) (ih (i + 1) (m + 1) _ _ _ _ (by omega) (by omega) (by omega) ?_)
        refine mz_pt1 hI (fun e he => mz_qaN (by omega)) mz_qaD fun p => ?_
        constructor
        · rintro (⟨e, he, x⟩ | ⟨e, he, _⟩)
          · rcases Nat.lt_or_ge e i with q | q
            · exact Or.inl (Or.inl ⟨e, q, x⟩)
            · have : e = i := by omega
              subst this; exact Or.inr x.2
          · omega
        · rintro ((⟨e, he, x⟩ | ⟨e, he, _⟩) | x)
          · exact Or.inl ⟨e, by omega, x⟩
          · omega
          · exact Or.inl ⟨i, by omega, y, x⟩
theorem mz_Ytake (post : SY → Prop) {N : Nat} (hN : N ≤ 7) (w mn px py pz un an : Int32) (bt bb : Int64) (sl lm a b c d : Nat → Int32)
    (hp : ∀ m a b c d, 6 ≤ m → m ≤ 13 → mz_S (mz_qa a b c d) (mz_ltm m) = mz_U sl lm N w → post (nI N, nI m, px, py, pz, un, an, bt, bb, sl, lm, a, b, c, d)) :
    wpY_take post (nI N, mn, px, py, pz, un, an, bt, bb, sl, lm, a, b, c, d) w := by
  refine ⟨N + 1, mz_Yt7 post hN w px py pz un an bt bb sl lm (fun m a b c d h1 h2 h3 => hp m a b c d h1 h2 (funext fun p => propext (h3 p))) (N + 1) 0 0 a b c d (by omega) (by omega) (by omega) fun p => ?_⟩
  constructor
  · rintro ⟨e, he, _⟩
    exact absurd he (Nat.not_lt_zero e)
  · rintro (⟨e, he, _⟩ | ⟨e, he, _⟩) <;> omega
/- three planes -/
theorem mz_Yth3 (post : Int32 → Prop) {i j k : Nat} (hi : i < 13) (hj : j < 13) (hk : k < 13) (cn mn px py pz un an : Int32) (bt bb : Int64) (sl lm a b c d : Nat → Int32)
    (h : post (mz_z (mz_det (mz_qa a b c d i) (mz_qa a b c d j) (mz_qa a b c d k)))) : wpY_three post (cn, mn, px, py, pz, un, an, bt, bb, sl, lm, a, b, c, d) (nI i) (nI j) (nI k) 3 := by
  have vi := vp_in_nI hi (show 13 < 2 ^ 31 by omega)
  have vj := vp_in_nI hj (show 13 < 2 ^ 31 by omega)
  have vk := vp_in_nI hk (show 13 < 2 ^ 31 by omega)
  rw [← mz_v3] at h
  refine br_f (by decide) ⟨vi, ?_⟩
  refine br_f (by decide) ⟨vj, ?_⟩
  refine br_f (by decide) ⟨vk, ?_⟩
  refine br_f (by decide) ⟨vi, ?_⟩
  refine br_f (by decide) ⟨vj, ?_⟩
  refine br_f (by decide) ⟨vk, ?_⟩
  refine br_f (by decide) ⟨vi, ?_⟩
  refine br_f (by decide) ⟨vj, ?_⟩
  refine br_f (by decide) ⟨vk, ?_⟩
  unfold wY_three_202
  rw [nI_clamp (show i < 2 ^ 31 by omega), nI_clamp (show j < 2 ^ 31 by omega), nI_clamp (show k < 2 ^ 31 by omega)]
  exact h
theorem mz_Yth0 (post : Int32 → Prop) {i j k : Nat} (hi : i < 13) (hj : j < 13) (hk : k < 13) (cn mn px py pz un an : Int32) (bt bb : Int64) (sl lm a b c d : Nat → Int32)
    (h : post (mz_z (mz_tx (mz_qa a b c d i) (mz_qa a b c d j) (mz_qa a b c d k)))) : wpY_three post (cn, mn, px, py, pz, un, an, bt, bb, sl, lm, a, b, c, d) (nI i) (nI j) (nI k) 0 := by
  have vi := vp_in_nI hi (show 13 < 2 ^ 31 by omega)
  have vj := vp_in_nI hj (show 13 < 2 ^ 31 by omega)
  have vk := vp_in_nI hk (show 13 < 2 ^ 31 by omega)
  rw [← mz_v30] at h
  refine br_t rfl ⟨vi, ?_⟩
  refine br_t rfl ⟨vj, ?_⟩
  refine br_t rfl ⟨vk, ?_⟩
  refine br_f (by decide) ⟨vi, ?_⟩
  refine br_f (by decide) ⟨vj, ?_⟩
  refine br_f (by decide) ⟨vk, ?_⟩
  refine br_f (by decide) ⟨vi, ?_⟩
  refine br_f (by decide) ⟨vj, ?_⟩
  refine br_f (by decide) ⟨vk, ?_⟩
  unfold wY_three_202
  rw [nI_clamp (show i < 2 ^ 31 by omega), nI_clamp (show j < 2 ^ 31 by omega), nI_clamp (show k < 2 ^ 31 by omega)]
  exact h
theorem mz_Yth1 (post : Int32 → Prop) {i j k : Nat} (hi : i < 13) (hj : j < 13) (hk : k < 13) (cn mn px py pz un an : Int32) (bt bb : Int64) (sl lm a b c d : Nat → Int32)
    (h : post (mz_z (mz_ty (mz_qa a b c d i) (mz_qa a b c d j) (mz_qa a b c d k)))) : wpY_three post (cn, mn, px, py, pz, un, an, bt, bb, sl, lm, a, b, c, d) (nI i) (nI j) (nI k) 1 := by
  have vi := vp_in_nI hi (show 13 < 2 ^ 31 by omega)
  have vj := vp_in_nI hj (show 13 < 2 ^ 31 by omega)
  have vk := vp_in_nI hk (show 13 < 2 ^ 31 by omega)
  rw [← mz_v31] at h
  refine br_f (by decide) ⟨vi, ?_⟩
  refine br_f (by decide) ⟨vj, ?_⟩
  refine br_f (by decide) ⟨vk, ?_⟩
  refine br_t rfl ⟨vi, ?_⟩
  refine br_t rfl ⟨vj, ?_⟩
  refine br_t rfl ⟨vk, ?_⟩
  refine br_f (by decide) ⟨vi, ?_⟩
  refine br_f (by decide) ⟨vj, ?_⟩
  refine br_f (by decide) ⟨vk, ?_⟩
  unfold wY_three_202
  rw [nI_clamp (show i < 2 ^ 31 by omega), nI_clamp (show j < 2 ^ 31 by omega), nI_clamp (show k < 2 ^ 31 by omega)]
  exact h
theorem mz_Yth2 (post : Int32 → Prop) {i j k : Nat} (hi : i < 13) (hj : j < 13) (hk : k < 13) (cn mn px py pz un an : Int32) (bt bb : Int64) (sl lm a b c d : Nat → Int32)
    (h : post (mz_z (mz_tz (mz_qa a b c d i) (mz_qa a b c d j) (mz_qa a b c d k)))) : wpY_three post (cn, mn, px, py, pz, un, an, bt, bb, sl, lm, a, b, c, d) (nI i) (nI j) (nI k) 2 := by
  have vi := vp_in_nI hi (show 13 < 2 ^ 31 by omega)
  have vj := vp_in_nI hj (show 13 < 2 ^ 31 by omega)
  have vk := vp_in_nI hk (show 13 < 2 ^ 31 by omega)
  rw [← mz_v32] at h
  refine br_f (by decide) ⟨vi, ?_⟩
  refine br_f (by decide) ⟨vj, ?_⟩
  refine br_f (by decide) ⟨vk, ?_⟩
  refine br_f (by decide) ⟨vi, ?_⟩
  refine br_f (by decide) ⟨vj, ?_⟩
  refine br_f (by decide) ⟨vk, ?_⟩
  refine br_t rfl ⟨vi, ?_⟩
  refine br_t rfl ⟨vj, ?_⟩
  refine br_t rfl ⟨vk, ?_⟩
  unfold wY_three_202
  rw [nI_clamp (show i < 2 ^ 31 by omega), nI_clamp (show j < 2 ^ 31 by omega), nI_clamp (show k < 2 ^ 31 by omega)]
  exact h
theorem mz_vqt (a b c d : Nat → Int32) (e : Nat) (t : mz_P) : a e * mz_z t.1 + b e * mz_z t.2.1 + c e * mz_z t.2.2.1 = mz_z (mz_vl (mz_qa a b c d e) t) := by
  simp only [mz_vl, mz_qa, ← mz_za, ← mz_zm, mz_zt]
theorem mz_vdt (a b c d : Nat → Int32) (e : Nat) (u : Int) : d e * mz_z u = mz_z ((mz_qa a b c d e).2.2.2 * u) := by
  simp only [mz_qa, ← mz_zm, mz_zt]
theorem mz_Yc86 (post : Int32 → SY → Prop) {m : Nat} (hm : m ≤ 13) (t : mz_P) (hQ : mz_Q t) (cn an : Int32) (bt bb : Int64) (sl lm a b c d : Nat → Int32) (hR : ∀ e, e < m → mz_R 40 (mz_qa a b c d e))
    (hT : (∀ e, mz_ltm m e → mz_kp (mz_qa a b c d e) t) → post 1 (cn, nI m, mz_z t.1, mz_z t.2.1, mz_z t.2.2.1, mz_z t.2.2.2, an, bt, bb, sl, lm, a, b, c, d))
    (hF : (∃ e, mz_ltm m e ∧ ¬ mz_kp (mz_qa a b c d e) t) → post 0 (cn, nI m, mz_z t.1, mz_z t.2.1, mz_z t.2.2.1, mz_z t.2.2.2, an, bt, bb, sl, lm, a, b, c, d)) :
    ∀ f e, e ≤ m → m - e < f → (∀ e', e' < e → mz_kp (mz_qa a b c d e') t) → wY_corner_86 post cn (nI m) (mz_z t.1) (mz_z t.2.1) (mz_z t.2.2.1) (mz_z t.2.2.2) an bt bb sl lm a b c d f (nI e) := by
  intro f
  induction f with
  | zero => intro e _ h; omega
  | succ f ih =>
    intro e he hf hI
    by_cases z : e = m
    · subst z
      exact br_t (nI_le (Nat.le_refl _) (by omega)) (hT hI)
    · refine br_f (nI_ge (by omega) (by omega)) ?_
      refine br_f (nI_ge (b := 13) (by omega) (by decide)) ?_
      have v := vp_in_nI (show e < 13 by omega) (show 13 < 2 ^ 31 by omega)
      refine ⟨v, v, v, v, ?_⟩
      rw [nI_clamp (by omega), mz_vqt a b c d e t, mz_vdt a b c d e]
      have k := mz_vkp (mz_RD (hR e (by omega)) (by omega)) hQ
      by_cases y : mz_kp (mz_qa a b c d e) t
      · exact br_t (k.mpr y) (nm_r (nI_1 e) (ih (e + 1) (by omega) (by omega) (lt_s hI y)))
      · exact br_f (fun q => y (k.mp q)) (hF ⟨e, by unfold mz_ltm; omega, y⟩)
theorem mz_Ycor (post : Int32 → SY → Prop) {m i j k : Nat} (hm : m ≤ 13) (hi : i < m) (hj : j < m) (hk : k < m) (cn px py pz un an : Int32) (bt bb : Int64) (sl lm a b c d : Nat → Int32) (hR : ∀ e, e < m → mz_R 40 (mz_qa a b c d e)) (t : mz_P) (et : t = mz_cor (mz_qa a b c d i) (mz_qa a b c d j) (mz_qa a b c d k))
    (hY : mz_Yc (mz_qa a b c d) (mz_ltm m) i j k → post 1 (cn, nI m, mz_z t.1, mz_z t.2.1, mz_z t.2.2.1, mz_z t.2.2.2, an, bt, bb, sl, lm, a, b, c, d))
    (hN : mz_Nc (mz_qa a b c d) (mz_ltm m) i j k → ∀ px py pz un, post 0 (cn, nI m, px, py, pz, un, an, bt, bb, sl, lm, a, b, c, d)) :
    wpY_corner post (cn, nI m, px, py, pz, un, an, bt, bb, sl, lm, a, b, c, d) (nI i) (nI j) (nI k) := by
  have hd := mz_detb (hR i hi) (hR j hj) (hR k hk)
  have hs := mz_vsg hd
  have hQ := mz_corQ (hR i hi) (hR j hj) (hR k hk)
  rw [← et] at hQ
  unfold wpY_corner
  dsimp only
  refine mz_Yth3 _ (by omega) (by omega) (by omega) cn (nI m) px py pz un an bt bb sl lm a b c d ?_
  by_cases z : mz_det (mz_qa a b c d i) (mz_qa a b c d j) (mz_qa a b c d k) = 0
  · exact br_t (hs.2.mpr z) (hN (Or.inl z) px py pz un)
  · refine br_f (fun y => z (hs.2.mp y)) ?_
    have main : ∀ s : Int32, s = mz_z (mz_sg (mz_det (mz_qa a b c d i) (mz_qa a b c d j) (mz_qa a b c d k))) →
        wY_corner_27 post (nI i) (nI j) (nI k) (mz_z (mz_det (mz_qa a b c d i) (mz_qa a b c d j) (mz_qa a b c d k))) s cn (nI m) px py pz un an bt bb sl lm a b c d := by
      intro s es
      subst es
      refine nm_r (e' := mz_z t.2.2.2) (by rw [mz_zm, et]; rfl) ?_
      refine mz_Yth0 _ (by omega) (by omega) (by omega) cn (nI m) px py pz _ an bt bb sl lm a b c d ?_
      refine nm_r (e' := mz_z t.1) (by rw [mz_zm, et]; rfl) ?_
      refine mz_Yth1 _ (by omega) (by omega) (by omega) cn (nI m) _ py pz _ an bt bb sl lm a b c d ?_
      refine nm_r (e' := mz_z t.2.1) (by rw [mz_zm, et]; rfl) ?_
      refine mz_Yth2 _ (by omega) (by omega) (by omega) cn (nI m) _ _ pz _ an bt bb sl lm a b c d ?_
      refine nm_r (e' := mz_z t.2.2.1) (by rw [mz_zm, et]; rfl) ?_
      refine ⟨m + 1, mz_Yc86 post hm t hQ cn an bt bb sl lm a b c d hR ?_ ?_ (m + 1) 0 (by omega) (by omega) (fun e' h' => absurd h' (Nat.not_lt_zero e'))⟩
      · intro h
        exact hY ⟨z, fun e ge => by rw [← et]; exact h e ge⟩
      · rintro ⟨e, ge, h⟩
        exact hN (Or.inr ⟨e, ge, by rw [← et]; exact h⟩) _ _ _ _
    by_cases y : mz_det (mz_qa a b c d i) (mz_qa a b c d j) (mz_qa a b c d k) < 0
    · exact br_f (fun x => Int32.not_lt.mpr x (hs.1.mpr y)) (main _ (mz_sgT y).symm)
    · exact br_t (Int32.not_lt.mp fun x => y (hs.1.mp x)) (main _ (mz_sgF y).symm)
end
section
/- the reference's search -/
theorem mz_l64 {s t : mz_P} {D : Nat} (hs : mz_R D s) (ht : mz_Q t) : (mz_z s.1).toInt64 * (mz_z t.1).toInt64 + (mz_z s.2.1).toInt64 * (mz_z t.2.1).toInt64 + (mz_z s.2.2.1).toInt64 * (mz_z t.2.2.1).toInt64 = mz_l (mz_vl s t) := by
  have a1 := hs.1
  have a2 := hs.2.1
  have a3 := hs.2.2.1
  have b1 := ht.1
  have b2 := ht.2.1
  have b3 := ht.2.2.1
  rw [mz_zL (x := s.1) ⟨by omega, by omega⟩, mz_zL (x := s.2.1) ⟨by omega, by omega⟩, mz_zL (x := s.2.2.1) ⟨by omega, by omega⟩, mz_zL (x := t.1) ⟨by omega, by omega⟩, mz_zL (x := t.2.1) ⟨by omega, by omega⟩, mz_zL (x := t.2.2.1) ⟨by omega, by omega⟩, mz_lm, mz_lm, mz_lm, mz_la, mz_la]
  rfl
theorem mz_lcmp {v T B u : Int} (hv : -46080 ≤ v ∧ v ≤ 46080) (hT : -46080 ≤ T ∧ T ≤ 46080) (hB : 1 ≤ B ∧ B ≤ 384) (hu : -384 ≤ u ∧ u ≤ 384) : mz_l v * mz_l B ≤ mz_l T * mz_l u ↔ v * B ≤ T * u := by
  have a := mz_mb 46080 384 hv.1 hv.2 (show -((384 : Nat) : Int) ≤ B by omega) (show B ≤ ((384 : Nat) : Int) by omega)
  have b := mz_mb 46080 384 hT.1 hT.2 hu.1 hu.2
  rw [mz_lm, mz_lm]
  exact mz_lle ⟨by omega, by omega⟩ ⟨by omega, by omega⟩
theorem mz_Ys103 (post : SY → Prop) (J13 : Int32 → Int32 → Int32 → Int32 → Int32 → Int32 → Int32 → Int32 → Int64 → Int64 → (Nat → Int32) → (Nat → Int32) → (Nat → Int32) → (Nat → Int32) → (Nat → Int32) → (Nat → Int32) → Prop) {m i j k code any D : Nat} {T B : Int} (hm : m ≤ 13) (hi : i < m) (hj : j < m) (hk : k < m) (s : mz_P) (hs : mz_R D s) (cn px py pz un : Int32) (sl lm a b c d : Nat → Int32) (hR : ∀ e, e < m → mz_R 40 (mz_qa a b c d e))
    (ha : any = 0 ∨ any = 1) (hb : any = 1 → (-46080 ≤ T ∧ T ≤ 46080) ∧ (1 ≤ B ∧ B ≤ 384)) (t : mz_P) (et : t = mz_cor (mz_qa a b c d i) (mz_qa a b c d j) (mz_qa a b c d k))
    (hskip : ¬ (i < j ∧ j < k) → J13 (nI (code + 1)) cn (nI m) px py pz un (nI any) (mz_l T) (mz_l B) sl lm a b c d)
    (hno : mz_Nc (mz_qa a b c d) (mz_ltm m) i j k → ∀ px py pz un, J13 (nI (code + 1)) cn (nI m) px py pz un (nI any) (mz_l T) (mz_l B) sl lm a b c d)
    (hkeep : mz_Yc (mz_qa a b c d) (mz_ltm m) i j k → any = 1 → ¬ T * t.2.2.2 < mz_vl s t * B → ∀ px py pz un, J13 (nI (code + 1)) cn (nI m) px py pz un (nI 1) (mz_l T) (mz_l B) sl lm a b c d)
    (hnew : mz_Yc (mz_qa a b c d) (mz_ltm m) i j k → (any = 0 ∨ T * t.2.2.2 < mz_vl s t * B) → ∀ px py pz un, J13 (nI (code + 1)) cn (nI m) px py pz un (nI 1) (mz_l (mz_vl s t)) (mz_l t.2.2.2) sl lm a b c d) :
    wY_search_103 post J13 (mz_z s.1) (mz_z s.2.1) (mz_z s.2.2.1) (nI code) (nI i) (nI j) (nI k) cn (nI m) px py pz un (nI any) (mz_l T) (mz_l B) sl lm a b c d := by
  have hQ : mz_Q t := by rw [et]; exact mz_corQ (hR i hi) (hR j hj) (hR k hk)
  have hv := mz_Qv hs hQ
  have hu := hQ.2.2.2
  by_cases z : j ≤ i
  · exact br_t (nI_le z (by omega)) (nm_r (nI_1 code) (hskip (by omega)))
  · refine br_f (nI_ge (by omega) (by omega)) ?_
    by_cases y : k ≤ j
    · exact br_t (nI_le y (by omega)) (nm_r (nI_1 code) (hskip (by omega)))
    · refine br_f (nI_ge (by omega) (by omega)) ?_
      refine mz_Ycor _ hm hi hj hk cn px py pz un (nI any) (mz_l T) (mz_l B) sl lm a b c d hR t et (fun hy => ?_) (fun hn px py pz un => ?_)
      · refine br_f (by decide) (nm_r (mz_l64 hs hQ) ?_)
        have eu : (mz_z t.2.2.2).toInt64 = mz_l t.2.2.2 := mz_zL ⟨by omega, by omega⟩
        have new : (any = 0 ∨ T * t.2.2.2 < mz_vl s t * B) → wY_search_189 post J13 (mz_z s.1) (mz_z s.2.1) (mz_z s.2.2.1) (nI code) (mz_l (mz_vl s t)) cn (nI m) (mz_z t.1) (mz_z t.2.1) (mz_z t.2.2.1) (mz_z t.2.2.2) (nI any) (mz_l T) (mz_l B) sl lm a b c d := by
          intro h
          unfold wY_search_189
          rw [eu]
          exact nm_r (nI_1 code) (hnew hy h _ _ _ _)
        rcases ha with e | e
        · subst e
          exact br_t rfl (new (Or.inl rfl))
        · subst e
          have hb' := hb rfl
          refine br_f (by decide) ?_
          rw [eu]
          have cmp := mz_lcmp hv hb'.1 hb'.2 hu
          by_cases x : mz_vl s t * B ≤ T * t.2.2.2
          · exact br_t (cmp.mpr x) (nm_r (nI_1 code) (hkeep hy rfl (by omega) _ _ _ _))
          · exact br_f (fun q => x (cmp.mp q)) (new (Or.inr (by omega)))
      · exact br_t rfl (nm_r (nI_1 code) (hno hn px py pz un))
theorem mz_Ys13 (post : SY → Prop) {m D : Nat} (hm : 6 ≤ m ∧ m ≤ 13) (s : mz_P) (hs : mz_R D s) (cn : Int32) (sl lm a b c d : Nat → Int32) (hR : ∀ e, e < m → mz_R 40 (mz_qa a b c d e))
    (hp : ∀ px py pz un any T B, mz_G (mz_C (mz_S (mz_qa a b c d) (mz_ltm m))) s any T B → post (cn, nI m, px, py, pz, un, nI any, mz_l T, mz_l B, sl, lm, a, b, c, d)) :
    ∀ f code any T B px py pz un, code ≤ m * m * m → m * m * m - code < f → mz_YI (mz_qa a b c d) m s code any T B → wY_search_13 post (mz_z s.1) (mz_z s.2.1) (mz_z s.2.2.1) f (nI code) cn (nI m) px py pz un (nI any) (mz_l T) (mz_l B) sl lm a b c d := by
  have hM : m * m * m ≤ 2197 := Nat.mul_le_mul (Nat.mul_le_mul hm.2 hm.2) hm.2
  have e3 : nI m * nI m * nI m = nI (m * m * m) := by rw [pk_mul, pk_mul]
  have ne : ¬ nI m = 0 := nI_ne0 (by omega) (by omega)
  have one : (1 : Int32) ≤ nI m := nI_le (a := 1) (by omega) (by omega)
  intro f
  induction f with
  | zero => intro code any T B px py pz un _ h; omega
  | succ f ih =>
    intro code any T B px py pz un hc hf hI
    by_cases z : code = m * m * m
    · subst z
      exact br_t (by rw [e3]; exact nI_le (Nat.le_refl _) (by omega)) (hp px py pz un any T B (mz_Y6 hI))
    · have hlt : code < m * m * m := by omega
      have ck := mz_ck (show 0 < m by omega) hlt
      have hcd : code / m < 2 ^ 31 := Nat.lt_of_le_of_lt (Nat.div_le_self code m) (by omega)
      have r1 : nI code - nI code / nI m * nI m = nI (code % m) := pk_rem (by omega) (by omega) (by omega)
      have r0 : nI code / nI m = nI (code / m) := pk_div (by omega) (by omega) (by omega)
      have r2 : nI (code / m) - nI (code / m) / nI m * nI m = nI (code / m % m) := pk_rem hcd (by omega) (by omega)
      have r3 : nI (code / m) / nI m = nI (code / m / m) := pk_div hcd (by omega) (by omega)
      have ha : any = 0 ∨ any = 1 := hI.elim (fun x => Or.inl x.1) (fun x => Or.inr x.1)
      refine br_f (by rw [e3]; exact nI_ge (by omega) (by omega)) ?_
      refine br_t one ⟨ne, ?_⟩
      rw [r1]
      refine br_t one ⟨ne, ne, ?_⟩
      rw [r0, r2]
      refine br_t one ⟨ne, ne, ?_⟩
      rw [r0, r3]
      refine mz_Ys103 post _ hm.2 ck.1 ck.2.1 ck.2.2 s hs cn px py pz un sl lm a b c d hR ha (fun h => mz_YB hI h hR hs) _ rfl (fun h => ?_) (fun h px py pz un => ?_) (fun hy h1 h px py pz un => ?_) (fun hy h px py pz un => ?_)
      · exact ih (code + 1) any T B px py pz un (by omega) (by omega) (mz_Y2 hI h)
      · exact ih (code + 1) any T B px py pz un (by omega) (by omega) (mz_Y3 hI h)
      · exact ih (code + 1) 1 T B px py pz un (by omega) (by omega) (mz_Y4 hI (by omega) hlt hy h1 h)
      · exact ih (code + 1) 1 _ _ px py pz un (by omega) (by omega) (mz_Y5 hI (by omega) hlt hy h)
theorem mz_Ysearch (post : SY → Prop) {N D : Nat} (hN : N ≤ 7) (w u v x : Int32) (s : mz_P) (hs : mz_R D s) (eu : u = mz_z s.1) (ev : v = mz_z s.2.1) (ex : x = mz_z s.2.2.1) (mn px py pz un an : Int32) (bt bb : Int64) (sl lm a b c d : Nat → Int32) (hR : ∀ p, mz_U sl lm N w p → mz_R 40 p)
    (hp : ∀ m px py pz un any T B a b c d, mz_G (mz_C (mz_U sl lm N w)) s any T B → post (nI N, nI m, px, py, pz, un, nI any, mz_l T, mz_l B, sl, lm, a, b, c, d)) :
    wpY_search post (nI N, mn, px, py, pz, un, an, bt, bb, sl, lm, a, b, c, d) w u v x := by
  subst eu ev ex
  unfold wpY_search
  dsimp only
  refine mz_Ytake _ hN w mn px py pz un an bt bb sl lm a b c d fun m a b c d h1 h2 h3 => ?_
  have hR' : ∀ e, e < m → mz_R 40 (mz_qa a b c d e) := fun e he => hR _ (by rw [← h3]; exact ⟨e, he, rfl⟩)
  have k := mz_Ys13 post ⟨h1, h2⟩ s hs (nI N) sl lm a b c d hR' (fun px py pz un any T B hG => hp m px py pz un any T B a b c d (by rw [← h3]; exact hG)) (m * m * m + 1) 0 0 bt.toInt bb.toInt px py pz un (by omega) (by omega) mz_Y1
  rw [mz_lt', mz_lt'] at k
  exact ⟨m * m * m + 1, k⟩
theorem mz_GB {C : mz_P → Prop} {s : mz_P} {any D : Nat} {T B : Int} (h : mz_G C s any T B) (ha : any ≠ 0) (hs : mz_R D s) (hQ : ∀ t, C t → mz_Q t) (hu : ∀ t, C t → 1 ≤ t.2.2.2) : (-46080 ≤ T ∧ T ≤ 46080) ∧ (1 ≤ B ∧ B ≤ 384) := by
  rcases h with ⟨e, _⟩ | ⟨_, t0, h0, eT, eB, _⟩
  · exact absurd e ha
  · have v := mz_Qv hs (hQ t0 h0)
    have u := hu t0 h0
    have w := (hQ t0 h0).2.2.2
    rw [eT, eB]; omega
theorem mz_Gan {C : mz_P → Prop} {s : mz_P} {any : Nat} {T B : Int} (h : mz_G C s any T B) : any = 0 ∨ any = 1 := h.elim (fun x => Or.inl x.1) (fun x => Or.inr x.1)
end
section
/- states that the relation allows -/
def mz_sy (N : Nat) (sl lm : Nat → Int32) (v : SY) : Prop := ∃ (mn px py pz un an : Int32) (bt bb : Int64) (a b c d : Nat → Int32), v = (nI N, mn, px, py, pz, un, an, bt, bb, sl, lm, a, b, c, d)
def mz_sx (N : Nat) (F L : Nat → Int32) (u : SX) : Prop := ∃ (co : Int32) (T B : Nat → Int32), u = (nI N, co, F, L, T, B)
theorem mz_syI {N : Nat} {sl lm : Nat → Int32} (mn px py pz un an : Int32) (bt bb : Int64) (a b c d : Nat → Int32) : mz_sy N sl lm (nI N, mn, px, py, pz, un, an, bt, bb, sl, lm, a, b, c, d) := ⟨mn, px, py, pz, un, an, bt, bb, a, b, c, d, rfl⟩
theorem mz_sxI {N : Nat} {F L : Nat → Int32} (co : Int32) (T B : Nat → Int32) : mz_sx N F L (nI N, co, F, L, T, B) := ⟨co, T, B, rfl⟩
theorem mz_unR {ax : Nat} {sg : Int} (hs : sg = 1 ∨ sg = -1) : mz_R 0 (mz_un1 ax sg) := by
  unfold mz_R mz_un1
  dsimp only
  refine ⟨?_, ?_, ?_, by omega, by omega⟩ <;> split <;> omega
/- along an axis -/
theorem mz_Yalong (post : SY → Prop) {N ax : Nat} (hN : N ≤ 7) (hx : ax < 3) {sg : Int} (hs : sg = 1 ∨ sg = -1) (p1 : Int32) (ep : p1 = mz_z sg) (mn px py pz un an : Int32) (bt bb : Int64) (sl lm a b c d : Nat → Int32) (hR : ∀ p, mz_U sl lm N (-1) p → mz_R 40 p)
    (hp : ∀ m px py pz un any T B a b c d, mz_G (mz_C (mz_U sl lm N (-1))) (mz_un1 ax sg) any T B → post (nI N, nI m, px, py, pz, un, nI any, mz_l T, mz_l B, sl, lm, a, b, c, d)) :
    wpY_along post (nI N, mn, px, py, pz, un, an, bt, bb, sl, lm, a, b, c, d) (nI ax) p1 := by
  have e : ax = 0 ∨ ax = 1 ∨ ax = 2 := by omega
  rcases e with e | e | e <;> subst e
  · refine br_t rfl (br_f (by decide) (br_f (by decide) ?_))
    exact mz_Ysearch _ hN (-1) _ _ _ (mz_un1 0 sg) (mz_unR hs) ep mz_z0.symm mz_z0.symm mn px py pz un an bt bb sl lm a b c d hR hp
  · refine br_f (by decide) (br_t rfl (br_f (by decide) ?_))
    exact mz_Ysearch _ hN (-1) _ _ _ (mz_un1 1 sg) (mz_unR hs) mz_z0.symm ep mz_z0.symm mn px py pz un an bt bb sl lm a b c d hR hp
  · refine br_f (by decide) (br_f (by decide) (br_t rfl ?_))
    exact mz_Ysearch _ hN (-1) _ _ _ (mz_un1 2 sg) (mz_unR hs) mz_z0.symm mz_z0.symm ep mn px py pz un an bt bb sl lm a b c d hR hp
/- Euclid -/
theorem mz_Yd20 (post : Int64 → Prop) (cn : Int32) (mn px py pz un an : Int32) (bt bb : Int64) (sl lm a b c d : Nat → Int32) : ∀ f i p q, i ≤ 100 → 100 - i < f → p < 1000000 → q < 1000000 → 1 ≤ mz_eu (100 - i) p q → post (lN (mz_eu (100 - i) p q)) → wY_divisor_20 post cn mn px py pz un an bt bb sl lm a b c d f (lN p) (lN q) (nI i) := by
  intro f
  induction f with
  | zero => intro i p q _ h; omega
  | succ f ih =>
    intro i p q hi hf hp hq h1 h
    by_cases z : i = 100
    · subst z
      refine br_t (nI_le (b := 100) (Nat.le_refl _) (by decide)) ?_
      have e : mz_eu (100 - 100) p q = p := rfl
      rw [e] at h h1
      exact br_t ((lN_le (a := 1) (b := p) (by omega) (by omega)).mpr h1) h
    · refine br_f (nI_ge (b := 100) (by omega) (by decide)) ?_
      obtain ⟨n, en⟩ : ∃ n, 100 - i = n + 1 := ⟨100 - i - 1, by omega⟩
      have en' : 100 - (i + 1) = n := by omega
      rw [en] at h h1
      by_cases y : q = 0
      · subst y
        have e : mz_eu (n + 1) p 0 = mz_eu n p 0 := by
          show (if 0 < 0 then mz_eu n 0 (p % 0) else mz_eu n p 0) = _
          rw [if_neg (by omega)]
        rw [e] at h h1
        exact br_t ((lN_le (a := 0) (b := 0) (by omega) (by omega)).mpr (Nat.le_refl 0)) (nm_r (nI_1 i) (ih (i + 1) p 0 (by omega) (by omega) hp hq (by rw [en']; exact h1) (by rw [en']; exact h)))
      · have e : mz_eu (n + 1) p q = mz_eu n q (p % q) := by
          show (if 0 < q then mz_eu n q (p % q) else mz_eu n p q) = _
          rw [if_pos (by omega)]
        rw [e] at h h1
        have ne : ¬ lN q = 0 := fun w => y ((lN_eq (a := q) (b := 0) (by omega) (by omega)).mp w)
        refine br_f (fun w => y (by have := (lN_le (a := q) (b := 0) (by omega) (by omega)).mp w; omega)) ⟨ne, ?_⟩
        exact nm_r (pk_lRem (by omega) (by omega) (by omega)) (nm_r (nI_1 i) (ih (i + 1) q (p % q) (by omega) (by omega) hq (Nat.lt_of_le_of_lt (Nat.mod_le p q) hp) (by rw [en']; exact h1) (by rw [en']; exact h)))
theorem mz_Ydiv (post : Int64 → Prop) {T B : Int} (hT : -46080 ≤ T ∧ T ≤ 46080) (hB : 1 ≤ B ∧ B ≤ 384) (cn : Int32) (mn px py pz un an : Int32) (bt bb : Int64) (sl lm a b c d : Nat → Int32) (h : post (mz_l (mz_g T B))) : wpY_divisor post (cn, mn, px, py, pz, un, an, bt, bb, sl, lm, a, b, c, d) (mz_l T) (mz_l B) := by
  have e2 : mz_l B = lN B.natAbs := by rw [← mz_ln]; exact congrArg mz_l (by omega)
  have g1 : 1 ≤ mz_eu 100 T.natAbs B.natAbs := by
    rw [mz_eug 9 100 T.natAbs B.natAbs (by omega) (by omega)]
    exact Nat.gcd_pos_of_pos_right _ (by omega)
  rw [← mz_eul hB] at h
  have k := mz_Yd20 post cn mn px py pz un an bt bb sl lm a b c d 101 0 T.natAbs B.natAbs (by omega) (by omega) (by omega) (by omega) g1 h
  rw [e2]
  by_cases z : 0 ≤ T
  · have e1 : mz_l T = lN T.natAbs := by rw [← mz_ln]; exact congrArg mz_l (by omega)
    rw [← e1] at k
    refine br_t ?_ ⟨101, k⟩
    rw [← mz_l0]
    exact (mz_lle ⟨by omega, by omega⟩ ⟨by omega, by omega⟩).mpr z
  · have e1 : -mz_l T = lN T.natAbs := by rw [mz_lg, ← mz_ln]; exact congrArg mz_l (by omega)
    refine br_f ?_ (nm_r e1 ⟨101, k⟩)
    rw [← mz_l0]
    exact fun w => z ((mz_lle ⟨by omega, by omega⟩ ⟨by omega, by omega⟩).mp w)
/- the reach -/
theorem mz_lg1 {g : Int} (h : 1 ≤ g ∧ g ≤ 384) : (1 : Int64) ≤ mz_l g ∧ ¬ mz_l g = 0 := by
  refine ⟨?_, ?_⟩
  · rw [← mz_l1]; exact (mz_lle ⟨by omega, by omega⟩ ⟨by omega, by omega⟩).mpr h.1
  · rw [← mz_l0, mz_leq ⟨by omega, by omega⟩ ⟨by omega, by omega⟩]; omega
theorem mz_UC {N : Nat} {sl lm : Nat → Int32} {w : Int32} (hR : ∀ p, mz_U sl lm N w p → mz_R 40 p) : (∀ t, mz_C (mz_U sl lm N w) t → mz_Q t) ∧ ∀ t, mz_C (mz_U sl lm N w) t → 1 ≤ t.2.2.2 :=
  ⟨fun _ h => mz_CQ hR h, fun _ h => mz_Cun h⟩
theorem mz_YextT (post : Int64 → SY → Prop) {N ax : Nat} (hN : N ≤ 7) (hx : ax < 3) {sg : Int} (hs : sg = 1 ∨ sg = -1) (p1 : Int32) (ep : p1 = mz_z sg) (mn px py pz un an : Int32) (bt bb : Int64) (sl lm a b c d : Nat → Int32) (hR : ∀ p, mz_U sl lm N (-1) p → mz_R 40 p)
    (hE : (∀ t, ¬ mz_C (mz_U sl lm N (-1)) t) → ∀ v, mz_sy N sl lm v → post (-2000000) v)
    (hp : ∀ a b, mz_Rc (mz_C (mz_U sl lm N (-1))) ax sg a b → ∀ v, mz_sy N sl lm v → post (mz_l a) v) :
    wpY_extreme post (nI N, mn, px, py, pz, un, an, bt, bb, sl, lm, a, b, c, d) (nI ax) p1 1 := by
  have i1 := mz_lc (nI ax) 0 0 (by decide)
  have i2 := mz_lc (nI ax) 2 2 (by decide)
  have i3 := nI_toInt (n := ax) (by omega)
  refine br_f (fun w => by have := i1.1.mp w; omega) (br_t (i2.2.2.1.mpr (by omega)) ?_)
  refine mz_Yalong _ hN hx hs p1 ep mn px py pz un an bt bb sl lm a b c d hR fun m px py pz un any T B a b c d hG => ?_
  have hu := mz_UC hR
  rcases mz_Gan hG with e | e
  · subst e
    exact br_t rfl (br_f (by decide) (hE ((mz_Ge hG).mp rfl) _ (mz_syI _ _ _ _ _ _ _ _ _ _ _ _)))
  · subst e
    have bb' := mz_GB hG (by decide) (mz_unR hs) hu.1 hu.2
    have g := mz_g1 (a := T) bb'.2
    have gl := mz_lg1 g
    have hb : mz_Bst (mz_C (mz_U sl lm N (-1))) (mz_un1 ax sg) T B := hG.elim (fun x => absurd x.1 (by decide)) (fun x => x.2)
    have hrc := mz_Grc hs hx hb
    refine br_f (by decide) ?_
    refine mz_Ydiv _ bb'.1 bb'.2 (nI N) (nI m) px py pz un (nI 1) (mz_l T) (mz_l B) sl lm a b c d ?_
    refine br_t gl.1 ?_
    have e1 : p1.toInt64 * mz_l T / mz_l (mz_g T B) = mz_l ((sg * T).tdiv (mz_g T B)) := by
      rw [ep, mz_zL (x := sg) ⟨by omega, by omega⟩, mz_lm, mz_ld]
      · rcases hs with z | z <;> subst z <;> exact ⟨by omega, by omega⟩
      · exact ⟨by omega, by omega⟩
      · omega
    refine br_f (by decide) ⟨gl.2, ?_⟩
    rw [e1]
    exact hp _ _ hrc _ (mz_syI _ _ _ _ _ _ _ _ _ _ _ _)
theorem mz_YextB (post : Int64 → SY → Prop) {N ax : Nat} (hN : N ≤ 7) (hx : ax < 3) {sg : Int} (hs : sg = 1 ∨ sg = -1) (p1 : Int32) (ep : p1 = mz_z sg) (mn px py pz un an : Int32) (bt bb : Int64) (sl lm a b c d : Nat → Int32) (hR : ∀ p, mz_U sl lm N (-1) p → mz_R 40 p)
    (hE : (∀ t, ¬ mz_C (mz_U sl lm N (-1)) t) → ∀ v, mz_sy N sl lm v → post 0 v)
    (hp : ∀ a b, mz_Rc (mz_C (mz_U sl lm N (-1))) ax sg a b → ∀ v, mz_sy N sl lm v → post (mz_l b) v) :
    wpY_extreme post (nI N, mn, px, py, pz, un, an, bt, bb, sl, lm, a, b, c, d) (nI ax) p1 0 := by
  have i1 := mz_lc (nI ax) 0 0 (by decide)
  have i2 := mz_lc (nI ax) 2 2 (by decide)
  have i3 := nI_toInt (n := ax) (by omega)
  refine br_f (fun w => by have := i1.1.mp w; omega) (br_t (i2.2.2.1.mpr (by omega)) ?_)
  refine mz_Yalong _ hN hx hs p1 ep mn px py pz un an bt bb sl lm a b c d hR fun m px py pz un any T B a b c d hG => ?_
  have hu := mz_UC hR
  rcases mz_Gan hG with e | e
  · subst e
    exact br_t rfl (br_t rfl (hE ((mz_Ge hG).mp rfl) _ (mz_syI _ _ _ _ _ _ _ _ _ _ _ _)))
  · subst e
    have bb' := mz_GB hG (by decide) (mz_unR hs) hu.1 hu.2
    have g := mz_g1 (a := T) bb'.2
    have gl := mz_lg1 g
    have hb : mz_Bst (mz_C (mz_U sl lm N (-1))) (mz_un1 ax sg) T B := hG.elim (fun x => absurd x.1 (by decide)) (fun x => x.2)
    have hrc := mz_Grc hs hx hb
    refine br_f (by decide) ?_
    refine mz_Ydiv _ bb'.1 bb'.2 (nI N) (nI m) px py pz un (nI 1) (mz_l T) (mz_l B) sl lm a b c d ?_
    refine br_t gl.1 ?_
    have e1 : mz_l B / mz_l (mz_g T B) = mz_l (B.tdiv (mz_g T B)) := mz_ld ⟨by omega, by omega⟩ ⟨by omega, by omega⟩ (by omega)
    refine br_t rfl ⟨gl.2, ?_⟩
    rw [e1]
    exact hp _ _ hrc _ (mz_syI _ _ _ _ _ _ _ _ _ _ _ _)
theorem mz_Ytow (post : SY → Prop) {N D : Nat} (hN : N ≤ 7) (w x y : Int32) (hs : mz_R D (mz_dc x y)) (mn px py pz un an : Int32) (bt bb : Int64) (sl lm a b c d : Nat → Int32) (hR : ∀ p, mz_U sl lm N w p → mz_R 40 p)
    (hp : ∀ m px py pz un any T B a b c d, mz_G (mz_C (mz_U sl lm N w)) (mz_dc x y) any T B → post (nI N, nI m, px, py, pz, un, nI any, mz_l T, mz_l B, sl, lm, a, b, c, d)) :
    wpY_toward post (nI N, mn, px, py, pz, un, an, bt, bb, sl, lm, a, b, c, d) w x :=
  ⟨by decide, by decide, by decide, by decide, mz_Ysearch _ hN w _ _ _ (mz_dc x y) hs (mz_zt _).symm (mz_zt _).symm (mz_zt _).symm mn px py pz un an bt bb sl lm a b c d hR hp⟩
/- one point, the reference's -/
def mz_nw (C : mz_P → Prop) (ax : Nat) : Prop := (∃ t, C t) ∧ ∀ t t', C t → C t' → mz_co ax t * t'.2.2.2 = mz_co ax t' * t.2.2.2
theorem mz_Ynar (post : Int32 → SY → Prop) {N ax : Nat} (hN : N ≤ 7) (hx : ax < 3) (mn px py pz un an : Int32) (bt bb : Int64) (sl lm a b c d : Nat → Int32) (hR : ∀ p, mz_U sl lm N (-1) p → mz_R 40 p)
    (hT : mz_nw (mz_C (mz_U sl lm N (-1))) ax → ∀ v, mz_sy N sl lm v → post 1 v) (hF : ¬ mz_nw (mz_C (mz_U sl lm N (-1))) ax → ∀ v, mz_sy N sl lm v → post 0 v) :
    wpY_narrow post (nI N, mn, px, py, pz, un, an, bt, bb, sl, lm, a, b, c, d) (nI ax) := by
  have hu := mz_UC hR
  unfold wpY_narrow
  dsimp only
  refine mz_Yalong _ hN hx (Or.inl rfl) 1 mz_z1.symm mn px py pz un an bt bb sl lm a b c d hR fun m px py pz un any T B a b c d hG => ?_
  dsimp only
  refine mz_Yalong _ hN hx (Or.inr rfl) (-1) mz_zm1.symm _ _ _ _ _ _ _ _ sl lm _ _ _ _ hR fun m' px' py' pz' un' any' T' B' a' b' c' d' hG' => ?_
  dsimp only
  have k := mz_Gone hx hu.2 hG hG'
  rcases mz_Gan hG' with e | e
  · subst e
    exact br_t rfl (hF (fun z => (k.mpr z).1 rfl) _ (mz_syI _ _ _ _ _ _ _ _ _ _ _ _))
  · subst e
    refine br_f (by decide) ?_
    have hne : any ≠ 0 := by
      intro z
      have h1 := (mz_Ge hG).mp z
      have h2 := (mz_Ge hG').mpr h1
      omega
    have b1 := mz_GB hG hne (mz_unR (Or.inl rfl)) hu.1 hu.2
    have b2 := mz_GB hG' (by decide) (mz_unR (Or.inr rfl)) hu.1 hu.2
    have m1 := mz_mb 46080 384 b1.1.1 b1.1.2 (show -((384 : Nat) : Int) ≤ B' by omega) (show B' ≤ ((384 : Nat) : Int) by omega)
    have m2 := mz_mb 46080 384 (show -((46080 : Nat) : Int) ≤ -T' by omega) (show -T' ≤ ((46080 : Nat) : Int) by omega) (show -((384 : Nat) : Int) ≤ B by omega) (show B ≤ ((384 : Nat) : Int) by omega)
    have cmp : mz_l T * mz_l B' = -mz_l T' * mz_l B ↔ T * B' = -T' * B := by
      rw [mz_lg, mz_lm, mz_lm]
      exact mz_leq ⟨by omega, by omega⟩ ⟨by omega, by omega⟩
    by_cases z : T * B' = -T' * B
    · exact br_t (cmp.mpr z) (hT (k.mp ⟨by decide, z⟩) _ (mz_syI _ _ _ _ _ _ _ _ _ _ _ _))
    · exact br_f (fun q => z (cmp.mp q)) (hF (fun q => z (k.mpr q).2) _ (mz_syI _ _ _ _ _ _ _ _ _ _ _ _))
theorem mz_Ysingle (post : Int32 → SY → Prop) {N : Nat} (hN : N ≤ 7) (mn px py pz un an : Int32) (bt bb : Int64) (sl lm a b c d : Nat → Int32) (hR : ∀ p, mz_U sl lm N (-1) p → mz_R 40 p)
    (hp : ∀ v, mz_sy N sl lm v → post (nI (mz_zi (mz_one (mz_C (mz_U sl lm N (-1)))))) v) :
    wpY_single post (nI N, mn, px, py, pz, un, an, bt, bb, sl, lm, a, b, c, d) := by
  have no : ∀ ax, ax < 3 → ¬ mz_nw (mz_C (mz_U sl lm N (-1))) ax → ∀ v, mz_sy N sl lm v → post 0 v := by
    intro ax hx hn v hv
    have := hp v hv
    rw [mz_ziF (fun z => hn ⟨z.1, z.2 ax hx⟩)] at this
    exact this
  unfold wpY_single
  dsimp only
  refine mz_Ynar _ hN (ax := 0) (by omega) mn px py pz un an bt bb sl lm a b c d hR (fun h0 v hv => ?_) (fun h v hv => ?_)
  · obtain ⟨mn, px, py, pz, un, an, bt, bb, a, b, c, d, rfl⟩ := hv
    refine br_f (by decide) ?_
    refine mz_Ynar _ hN (ax := 1) (by omega) mn px py pz un an bt bb sl lm a b c d hR (fun h1 v hv => ?_) (fun h v hv => ?_)
    · obtain ⟨mn, px, py, pz, un, an, bt, bb, a, b, c, d, rfl⟩ := hv
      refine br_f (by decide) ?_
      refine mz_Ynar _ hN (ax := 2) (by omega) mn px py pz un an bt bb sl lm a b c d hR (fun h2 v hv => ?_) (fun h v hv => ?_)
      · obtain ⟨mn, px, py, pz, un, an, bt, bb, a, b, c, d, rfl⟩ := hv
        refine br_f (by decide) ?_
        have := hp _ (mz_syI mn px py pz un an bt bb a b c d)
        rw [mz_ziT ⟨h0.1, mz_all3 h0.2 h1.2 h2.2⟩] at this
        exact this
      · obtain ⟨mn, px, py, pz, un, an, bt, bb, a, b, c, d, rfl⟩ := hv
        exact br_t rfl (no 2 (by omega) h _ (mz_syI _ _ _ _ _ _ _ _ _ _ _ _))
    · obtain ⟨mn, px, py, pz, un, an, bt, bb, a, b, c, d, rfl⟩ := hv
      exact br_t rfl (no 1 (by omega) h _ (mz_syI _ _ _ _ _ _ _ _ _ _ _ _))
  · obtain ⟨mn, px, py, pz, un, an, bt, bb, a, b, c, d, rfl⟩ := hv
    exact br_t rfl (no 0 (by omega) h _ (mz_syI _ _ _ _ _ _ _ _ _ _ _ _))
end
section
/- a line against the planes, the reference's -/
theorem mz_Yl171 (post : Int32 → Prop) (J60 : Int32 → Int32 → Int32 → Int32 → Int32 → Prop) (x1 x4 x5 x6 x7 mn : Int32) (cn px py pz un an : Int32) (bt bb : Int64) (sl lm a b c d : Nat → Int32) {o r lt lb ht hb : Int} {e : Nat}
    (ho : -4 ≤ o ∧ o ≤ 4) (hr : -5600 ≤ r ∧ r ≤ 5600) (bd : (-1000000 ≤ lt ∧ lt ≤ 1000000) ∧ (1 ≤ lb ∧ lb ≤ 4) ∧ (-1000000 ≤ ht ∧ ht ≤ 1000000) ∧ (1 ≤ hb ∧ hb ≤ 4))
    (hJ : ∀ lt' lb' ht' hb', ((mz_nh o r ht hb ∧ ht' = r ∧ hb' = o) ∨ (¬ mz_nh o r ht hb ∧ ht' = ht ∧ hb' = hb)) → ((mz_nl o r lt lb ∧ lt' = -r ∧ lb' = -o) ∨ (¬ mz_nl o r lt lb ∧ lt' = lt ∧ lb' = lb)) → J60 (mz_z lt') (mz_z lb') (mz_z ht') (mz_z hb') (nI (e + 1))) :
    wY_shades_171 post J60 x1 x4 x5 x6 x7 (mz_z lt) (mz_z lb) (mz_z ht) (mz_z hb) (nI e) (mz_z r) (mz_z o) cn mn px py pz un an bt bb sl lm a b c d := by
  have q0 := mz_q0 ho
  have q2 := mz_q2 ho hr bd.2.2.1 bd.2.2.2
  have q3 := mz_q3 ho hr bd.1 bd.2.1
  have s : ∀ ht' hb', ((mz_nh o r ht hb ∧ ht' = r ∧ hb' = o) ∨ (¬ mz_nh o r ht hb ∧ ht' = ht ∧ hb' = hb)) →
      wY_shades_197 post J60 x1 x4 x5 x6 x7 (mz_z lt) (mz_z lb) (mz_z ht') (mz_z hb') (nI e) (mz_z r) (mz_z o) cn mn px py pz un an bt bb sl lm a b c d := by
    intro ht' hb' hh
    by_cases y : 0 ≤ o
    · exact br_t (q0.2.2.mpr y) (nm_r (nI_1 e) (hJ lt lb ht' hb' hh (Or.inr ⟨fun z => by have := z.1; omega, rfl, rfl⟩)))
    · refine br_f (fun z => y (q0.2.2.mp z)) ?_
      by_cases x : -r * lb ≤ lt * -o
      · exact br_t (q3.mpr x) (nm_r (nI_1 e) (hJ lt lb ht' hb' hh (Or.inr ⟨fun z => by have := z.2; omega, rfl, rfl⟩)))
      · exact br_f (fun z => x (q3.mp z)) (nm_r (mz_zg r) (nm_r (mz_zg o) (nm_r (nI_1 e) (hJ (-r) (-o) ht' hb' hh (Or.inl ⟨⟨by omega, by omega⟩, rfl, rfl⟩)))))
  by_cases y : o ≤ 0
  · exact br_t (q0.2.1.mpr y) (s ht hb (Or.inr ⟨fun z => by have := z.1; omega, rfl, rfl⟩))
  · refine br_f (fun z => y (q0.2.1.mp z)) ?_
    by_cases x : ht * o ≤ r * hb
    · exact br_t (q2.mpr x) (s ht hb (Or.inr ⟨fun z => by have := z.2; omega, rfl, rfl⟩))
    · exact br_f (fun z => x (q2.mp z)) (s r o (Or.inl ⟨⟨by omega, by omega⟩, rfl, rfl⟩))
theorem mz_Yl60 (post : Int32 → Prop) {m ax : Nat} (hm : m ≤ 13) (hx : ax < 3) (X Y Z : Int32) (cn px py pz un an : Int32) (bt bb : Int64) (sl lm a b c d : Nat → Int32) {p q k : Int} (hp : -400 ≤ p ∧ p ≤ 400) (hq : -400 ≤ q ∧ q ≤ 400) (hk : 1 ≤ k ∧ k ≤ 20)
    (hR : ∀ e, e < m → mz_R 40 (mz_qa a b c d e)) (hW : ∀ e, e < 6 → mz_S (mz_qa a b c d) (mz_ltm m) (mz_wl e))
    (hrest : ∀ e, d e * mz_z k - a e * X - b e * Y - c e * Z = mz_z (mz_rs ax p q k (mz_qa a b c d e)))
    (h : post (nI (mz_zi (mz_Z (mz_S (mz_qa a b c d) (mz_ltm m)) (mz_co ax) (mz_rs ax p q k))))) :
    ∀ f e lt lb ht hb, e ≤ m → m - e < f → mz_ZI (mz_S (mz_qa a b c d) (mz_ltm m)) (fun s => ∃ e', e' < e ∧ mz_qa a b c d e' = s) (mz_co ax) (mz_rs ax p q k) 1000000 lt lb ht hb →
      wY_shades_60 post (nI ax) (mz_z k) X Y Z cn (nI m) px py pz un an bt bb sl lm a b c d f (mz_z lt) (mz_z lb) (mz_z ht) (mz_z hb) (nI e) := by
  have hS : ∀ s, mz_S (mz_qa a b c d) (mz_ltm m) s → mz_R 40 s := fun s ⟨e, g, he⟩ => he ▸ hR e g
  intro f
  induction f with
  | zero => intro e lt lb ht hb _ h; omega
  | succ f ih =>
    intro e lt lb ht hb he hf hI
    have bd := mz_ZIb hI (fun s hs => ⟨mz_cob (hS s hs), mz_rsb (hS s hs) hp hq hk⟩) (by omega)
    by_cases z : e = m
    · subst z
      have fin := mz_ZIe hI (fun s ⟨e, g, he⟩ => ⟨e, g, he⟩) (show 10 * k ≤ 1000000 by omega) ⟨mz_wl (2 * ax + 1), hW _ (by omega), mz_wlo ax p q k hx⟩ ⟨mz_wl (2 * ax), hW _ (by omega), mz_whi ax p q k hx⟩
      have q4 := mz_q4 bd.1 bd.2.1 bd.2.2.1 bd.2.2.2
      refine br_t (nI_le (Nat.le_refl _) (by omega)) ?_
      by_cases y : lt * hb ≤ ht * lb
      · rw [mz_ziT (fin.mp y)] at h
        exact br_f (fun x => by have := q4.2.mp x; omega) h
      · rw [mz_ziF (fun x => y (fin.mpr x))] at h
        exact br_t (q4.2.mpr (by omega)) h
    · refine br_f (nI_ge (by omega) (by omega)) ?_
      refine br_f (nI_ge (b := 13) (by omega) (by decide)) ?_
      have v := vp_in_nI (show e < 13 by omega) (show 13 < 2 ^ 31 by omega)
      have Se : mz_S (mz_qa a b c d) (mz_ltm m) (mz_qa a b c d e) := ⟨e, by unfold mz_ltm; omega, rfl⟩
      have ho := mz_cob (ax := ax) (hR e (by omega))
      have hr := mz_rsb (ax := ax) (hR e (by omega)) hp hq hk
      have q0 := mz_q0 ho
      have q1 := mz_q1 hr
      have ec : (nI e).toNatClampNeg = e := nI_clamp (by omega)
      have e2 : d (nI e).toNatClampNeg * mz_z k - a (nI e).toNatClampNeg * X - b (nI e).toNatClampNeg * Y - c (nI e).toNatClampNeg * Z = mz_z (mz_rs ax p q k (mz_qa a b c d e)) := by
        rw [ec, hrest]
      have fin : wY_shades_157 post (wY_shades_60 post (nI ax) (mz_z k) X Y Z cn (nI m) px py pz un an bt bb sl lm a b c d f) (nI ax) (mz_z k) X Y Z (mz_z lt) (mz_z lb) (mz_z ht) (mz_z hb) (nI e) (mz_z (mz_rs ax p q k (mz_qa a b c d e))) (mz_z (mz_co ax (mz_qa a b c d e))) cn (nI m) px py pz un an bt bb sl lm a b c d := by
        have go : (mz_co ax (mz_qa a b c d e) = 0 → 0 ≤ mz_rs ax p q k (mz_qa a b c d e)) → wY_shades_171 post (wY_shades_60 post (nI ax) (mz_z k) X Y Z cn (nI m) px py pz un an bt bb sl lm a b c d f) (nI ax) (mz_z k) X Y Z (mz_z lt) (mz_z lb) (mz_z ht) (mz_z hb) (nI e) (mz_z (mz_rs ax p q k (mz_qa a b c d e))) (mz_z (mz_co ax (mz_qa a b c d e))) cn (nI m) px py pz un an bt bb sl lm a b c d := by
          intro h0
          refine mz_Yl171 post _ _ _ _ _ _ _ _ _ _ _ _ _ _ _ _ _ _ _ _ _ ho hr bd fun lt' lb' ht' hb' hh hl => ?_
          refine ih (e + 1) lt' lb' ht' hb' (by omega) (by omega) (mz_ZIs hI Se (fun s ⟨e', h', es⟩ => ?_) h0 hh hl)
          rcases Nat.lt_or_ge e' e with g | g
          · exact Or.inl ⟨e', g, es⟩
          · have : e' = e := by omega
            subst this; exact Or.inr es.symm
        by_cases y : mz_co ax (mz_qa a b c d e) = 0
        · refine br_t (q0.1.mpr y) ?_
          by_cases x : 0 ≤ mz_rs ax p q k (mz_qa a b c d e)
          · exact br_t (q1.mpr x) (go fun _ => x)
          · rw [mz_ziF (fun w => x (w.1 _ Se y))] at h
            exact br_f (fun w => x (q1.mp w)) h
        · exact br_f (fun w => y (q0.1.mp w)) (go fun w => absurd w y)
      refine ⟨v, v, v, v, nm_r e2 ?_⟩
      rw [ec]
      have g : ax = 0 ∨ ax = 1 ∨ ax = 2 := by omega
      rcases g with g | g | g <;> subst g
      · have k0 : mz_z (mz_co 0 (mz_qa a b c d e)) = a e := mz_zt (a e)
        rw [k0] at fin
        exact br_t rfl ⟨v, fin⟩
      · have k0 : mz_z (mz_co 1 (mz_qa a b c d e)) = b e := mz_zt (b e)
        rw [k0] at fin
        exact br_f (by decide) (br_t rfl ⟨v, fin⟩)
      · have k0 : mz_z (mz_co 2 (mz_qa a b c d e)) = c e := mz_zt (c e)
        rw [k0] at fin
        exact br_f (by decide) (br_f (by decide) ⟨v, fin⟩)
theorem mz_Yrest (a b c d : Nat → Int32) (p q k : Int) : (∀ e, d e * mz_z k - a e * 0 - b e * mz_z p - c e * mz_z q = mz_z (mz_rs 0 p q k (mz_qa a b c d e))) ∧
    (∀ e, d e * mz_z k - a e * mz_z p - b e * 0 - c e * mz_z q = mz_z (mz_rs 1 p q k (mz_qa a b c d e))) ∧
    (∀ e, d e * mz_z k - a e * mz_z p - b e * mz_z q - c e * 0 = mz_z (mz_rs 2 p q k (mz_qa a b c d e))) := by
  refine ⟨fun e => ?_, fun e => ?_, fun e => ?_⟩
  · show _ = mz_z ((d e).toInt * k - (a e).toInt * 0 - (b e).toInt * p - (c e).toInt * q)
    rw [← mz_zs, ← mz_zs, ← mz_zs, ← mz_zm, ← mz_zm, ← mz_zm, ← mz_zm, mz_zt, mz_zt, mz_zt, mz_zt, mz_z0]
  · show _ = mz_z ((d e).toInt * k - (a e).toInt * p - (b e).toInt * 0 - (c e).toInt * q)
    rw [← mz_zs, ← mz_zs, ← mz_zs, ← mz_zm, ← mz_zm, ← mz_zm, ← mz_zm, mz_zt, mz_zt, mz_zt, mz_zt, mz_z0]
  · show _ = mz_z ((d e).toInt * k - (a e).toInt * p - (b e).toInt * q - (c e).toInt * 0)
    rw [← mz_zs, ← mz_zs, ← mz_zs, ← mz_zm, ← mz_zm, ← mz_zm, ← mz_zm, mz_zt, mz_zt, mz_zt, mz_zt, mz_z0]
theorem mz_Yshades (post : Int32 → Prop) {m ax : Nat} (hm : m ≤ 13) (hx : ax < 3) (cn px py pz un an : Int32) (bt bb : Int64) (sl lm a b c d : Nat → Int32) {p q k : Int} (hp : -400 ≤ p ∧ p ≤ 400) (hq : -400 ≤ q ∧ q ≤ 400) (hk : 1 ≤ k ∧ k ≤ 20)
    (hR : ∀ e, e < m → mz_R 40 (mz_qa a b c d e)) (hW : ∀ e, e < 6 → mz_S (mz_qa a b c d) (mz_ltm m) (mz_wl e))
    (h : post (nI (mz_zi (mz_Z (mz_S (mz_qa a b c d) (mz_ltm m)) (mz_co ax) (mz_rs ax p q k))))) :
    wpY_shades post (cn, nI m, px, py, pz, un, an, bt, bb, sl, lm, a, b, c, d) (nI ax) (mz_z p) (mz_z q) (mz_z k) := by
  have fin : ∀ X Y Z : Int32, (∀ e, d e * mz_z k - a e * X - b e * Y - c e * Z = mz_z (mz_rs ax p q k (mz_qa a b c d e))) → wY_shades_41 post (nI ax) (mz_z k) X Y Z cn (nI m) px py pz un an bt bb sl lm a b c d := by
    intro X Y Z hrest
    have k1 := mz_Yl60 post hm hx X Y Z cn px py pz un an bt bb sl lm a b c d hp hq hk hR hW hrest h (m + 1) 0 (-1000000) 1 1000000 1 (by omega) (by omega) (mz_ZI0 fun s ⟨e', h', _⟩ => Nat.not_lt_zero _ h')
    have c1 : mz_z (-1000000) = -1000000 := by decide
    have c2 : mz_z 1000000 = 1000000 := by decide
    rw [c1, c2] at k1
    have k2 := mz_z1 ▸ k1
    exact ⟨m + 1, k2⟩
  have R := mz_Yrest a b c d p q k
  have e : ax = 0 ∨ ax = 1 ∨ ax = 2 := by omega
  rcases e with e | e | e <;> subst e
  · exact br_t rfl (br_t rfl (br_f (by decide) (fin _ _ _ R.1)))
  · exact br_f (by decide) (br_f (by decide) (br_t rfl (br_f (by decide) (fin _ _ _ R.2.1))))
  · exact br_f (by decide) (br_f (by decide) (br_f (by decide) (br_t rfl (fin _ _ _ R.2.2))))
/- a point against the planes, the reference's -/
theorem mz_Yhas (post : Int32 → SY → Prop) {m : Nat} (hm : m ≤ 13) (cn px py pz un an : Int32) (bt bb : Int64) (sl lm a b c d : Nat → Int32) {x y z k : Int} (hx : -400 ≤ x ∧ x ≤ 400) (hy : -400 ≤ y ∧ y ≤ 400) (hz : -400 ≤ z ∧ z ≤ 400) (hk : 1 ≤ k ∧ k ≤ 20)
    (hR : ∀ e, e < m → mz_R 40 (mz_qa a b c d e))
    (h : post (nI (mz_zi (∀ s, mz_S (mz_qa a b c d) (mz_ltm m) s → mz_kp s (x, y, z, k)))) (cn, nI m, px, py, pz, un, an, bt, bb, sl, lm, a, b, c, d)) :
    ∀ f e, e ≤ m → m - e < f → (∀ e', e' < e → mz_kp (mz_qa a b c d e') (x, y, z, k)) → wY_has_50 post (mz_z x) (mz_z y) (mz_z z) (mz_z k) cn (nI m) px py pz un an bt bb sl lm a b c d f (nI e) := by
  intro f
  induction f with
  | zero => intro e _ h; omega
  | succ f ih =>
    intro e he hf hI
    by_cases w : e = m
    · subst w
      rw [mz_ziT (fun s ⟨e, g, es⟩ => es ▸ hI e g)] at h
      exact br_t (nI_le (Nat.le_refl _) (by omega)) h
    · refine br_f (nI_ge (by omega) (by omega)) ?_
      refine br_f (nI_ge (b := 13) (by omega) (by decide)) ?_
      have v := vp_in_nI (show e < 13 by omega) (show 13 < 2 ^ 31 by omega)
      refine ⟨v, v, v, v, ?_⟩
      rw [nI_clamp (show e < 2 ^ 31 by omega)]
      have e1 : a e * mz_z x + b e * mz_z y + c e * mz_z z = mz_z (mz_vl (mz_qa a b c d e) (x, y, z, k)) := mz_vqt a b c d e (x, y, z, k)
      rw [e1, mz_vdt a b c d e k]
      have r := hR e (by omega)
      have b1 := mz_mb 4 400 r.1.1 r.1.2 hx.1 hx.2
      have b2 := mz_mb 4 400 r.2.1.1 r.2.1.2 hy.1 hy.2
      have b3 := mz_mb 4 400 r.2.2.1.1 r.2.2.1.2 hz.1 hz.2
      have b4 := mz_mb 40 20 r.2.2.2.1 r.2.2.2.2 (show -((20 : Nat) : Int) ≤ k by omega) (show k ≤ ((20 : Nat) : Int) by omega)
      have b5 : mz_B (mz_vl (mz_qa a b c d e) (x, y, z, k)) := by unfold mz_vl mz_B; dsimp only; omega
      have cmp := mz_zle b5 (show mz_B ((mz_qa a b c d e).2.2.2 * k) from ⟨by omega, by omega⟩)
      by_cases u : mz_kp (mz_qa a b c d e) (x, y, z, k)
      · exact br_t (cmp.mpr u) (nm_r (nI_1 e) (ih (e + 1) (by omega) (by omega) (lt_s hI u)))
      · rw [mz_ziF (fun q => u (q _ ⟨e, by unfold mz_ltm; omega, rfl⟩))] at h
        exact br_f (fun q => u (cmp.mp q)) h
/- grids -/
noncomputable def mz_gr (S : mz_P → Prop) (ax i j : Nat) : Nat := mz_zi (mz_Z S (mz_co ax) (mz_rs ax ((i : Int) - 10) ((j : Int) - 10) 1))
theorem mz_st (i : Nat) : mz_z ((i : Int) - 10) + 1 = mz_z (((i + 1 : Nat) : Int) - 10) := by
  rw [← mz_z1, mz_za]; exact congrArg mz_z (by omega)
theorem mz_gn (n i : Nat) (f : Nat → Nat) : n + mz_row f (i + 1) = n + mz_row f i + f i := by
  show n + (mz_row f i + f i) = _
  omega
theorem mz_Xg24 (post : Int32 → Prop) (J14 : Int32 → Int32 → Prop) {N ax i n : Nat} (hN : N ≤ 7) (hx : ax < 3) (hi : i < 21) (co : Int32) (F L T B : Nat → Int32)
    (hR : ∀ e, e < 6 + N → mz_R 40 (mz_pl F L e)) (hW : ∀ e, e < 6 → mz_S (mz_pl F L) (mz_gd (6 + N) (-1)) (mz_wl e))
    (hJ : J14 (nI (n + mz_row (mz_gr (mz_S (mz_pl F L) (mz_gd (6 + N) (-1))) ax i) 21)) (mz_z (((i + 1 : Nat) : Int) - 10))) :
    ∀ f j, j ≤ 21 → 21 - j < f → wX_shadowGrid_24 post J14 (nI ax) (mz_z ((i : Int) - 10)) (nI N) co F L T B f (nI (n + mz_row (mz_gr (mz_S (mz_pl F L) (mz_gd (6 + N) (-1))) ax i) j)) (mz_z ((j : Int) - 10)) := by
  intro f
  induction f with
  | zero => intro j _ h; omega
  | succ f ih =>
    intro j hj hf
    have cmp : (10 : Int32) < mz_z ((j : Int) - 10) ↔ (10 : Int) < (j : Int) - 10 := by
      rw [show (10 : Int32) = mz_z 10 by decide]
      exact mz_zlt ⟨by omega, by omega⟩ ⟨by omega, by omega⟩
    by_cases z : j = 21
    · subst z
      exact br_t (cmp.mpr (by omega)) (nm_r (mz_st i) hJ)
    · refine br_f (fun w => by have := cmp.mp w; omega) ?_
      have k := ih (j + 1) (by omega) (by omega)
      rw [mz_gn] at k
      refine mz_z1 ▸ mz_Xline _ hN hx co F L T B (p := (i : Int) - 10) (q := (j : Int) - 10) (k := 1) (by omega) (by omega) (by omega) hR hW ?_
      by_cases y : mz_Z (mz_S (mz_pl F L) (mz_gd (6 + N) (-1))) (mz_co ax) (mz_rs ax ((i : Int) - 10) ((j : Int) - 10) 1)
      · have e1 : mz_gr (mz_S (mz_pl F L) (mz_gd (6 + N) (-1))) ax i j = 1 := mz_ziT y
        rw [e1] at k
        rw [mz_ziT y]
        exact br_f (by decide) (nm_r (nI_1 _) (nm_r (mz_st j) k))
      · have e1 : mz_gr (mz_S (mz_pl F L) (mz_gd (6 + N) (-1))) ax i j = 0 := mz_ziF y
        rw [e1] at k
        rw [mz_ziF y]
        exact br_t rfl (nm_r (mz_st j) k)
theorem mz_Xg14 (post : Int32 → Prop) {N ax : Nat} (hN : N ≤ 7) (hx : ax < 3) (co : Int32) (F L T B : Nat → Int32)
    (hR : ∀ e, e < 6 + N → mz_R 40 (mz_pl F L e)) (hW : ∀ e, e < 6 → mz_S (mz_pl F L) (mz_gd (6 + N) (-1)) (mz_wl e))
    (hp : post (nI (0 + mz_row (fun i => mz_row (mz_gr (mz_S (mz_pl F L) (mz_gd (6 + N) (-1))) ax i) 21) 21))) :
    ∀ f i, i ≤ 21 → 21 - i < f → wX_shadowGrid_14 post (nI ax) (nI N) co F L T B f (nI (0 + mz_row (fun i => mz_row (mz_gr (mz_S (mz_pl F L) (mz_gd (6 + N) (-1))) ax i) 21) i)) (mz_z ((i : Int) - 10)) := by
  intro f
  induction f with
  | zero => intro i _ h; omega
  | succ f ih =>
    intro i hi hf
    have cmp : (10 : Int32) < mz_z ((i : Int) - 10) ↔ (10 : Int) < (i : Int) - 10 := by
      rw [show (10 : Int32) = mz_z 10 by decide]
      exact mz_zlt ⟨by omega, by omega⟩ ⟨by omega, by omega⟩
    by_cases z : i = 21
    · subst z
      exact br_t (cmp.mpr (by omega)) hp
    · refine br_f (fun w => by have := cmp.mp w; omega) ?_
      have k := ih (i + 1) (by omega) (by omega)
      rw [mz_gn] at k
      have w := mz_Xg24 post _ hN hx (show i < 21 by omega) co F L T B hR hW k 22 0 (by omega) (by omega)
      rw [show mz_z (((0 : Nat) : Int) - 10) = -10 by decide] at w
      exact ⟨22, w⟩
theorem mz_Yg31 (post : Int32 → SY → Prop) (J21 : Int32 → Int32 → Prop) {m ax i n : Nat} (hm : m ≤ 13) (hx : ax < 3) (hi : i < 21) (cn px py pz un an : Int32) (bt bb : Int64) (sl lm a b c d : Nat → Int32)
    (hR : ∀ e, e < m → mz_R 40 (mz_qa a b c d e)) (hW : ∀ e, e < 6 → mz_S (mz_qa a b c d) (mz_ltm m) (mz_wl e))
    (hJ : J21 (nI (n + mz_row (mz_gr (mz_S (mz_qa a b c d) (mz_ltm m)) ax i) 21)) (mz_z (((i + 1 : Nat) : Int) - 10))) :
    ∀ f j, j ≤ 21 → 21 - j < f → wY_shadowGrid_31 post J21 (nI ax) (mz_z ((i : Int) - 10)) cn (nI m) px py pz un an bt bb sl lm a b c d f (nI (n + mz_row (mz_gr (mz_S (mz_qa a b c d) (mz_ltm m)) ax i) j)) (mz_z ((j : Int) - 10)) := by
  intro f
  induction f with
  | zero => intro j _ h; omega
  | succ f ih =>
    intro j hj hf
    have cmp : (11 : Int32) ≤ mz_z ((j : Int) - 10) ↔ (11 : Int) ≤ (j : Int) - 10 := by
      rw [show (11 : Int32) = mz_z 11 by decide]
      exact mz_zle ⟨by omega, by omega⟩ ⟨by omega, by omega⟩
    by_cases z : j = 21
    · subst z
      exact br_t (cmp.mpr (by omega)) (nm_r (mz_st i) hJ)
    · refine br_f (fun w => by have := cmp.mp w; omega) ?_
      have k := ih (j + 1) (by omega) (by omega)
      rw [mz_gn] at k
      refine mz_z1 ▸ mz_Yshades _ hm hx cn px py pz un an bt bb sl lm a b c d (p := (i : Int) - 10) (q := (j : Int) - 10) (k := 1) (by omega) (by omega) (by omega) hR hW ?_
      by_cases y : mz_Z (mz_S (mz_qa a b c d) (mz_ltm m)) (mz_co ax) (mz_rs ax ((i : Int) - 10) ((j : Int) - 10) 1)
      · have e1 : mz_gr (mz_S (mz_qa a b c d) (mz_ltm m)) ax i j = 1 := mz_ziT y
        rw [e1] at k
        rw [mz_ziT y]
        exact br_f (by decide) (nm_r (nI_1 _) (nm_r (mz_st j) k))
      · have e1 : mz_gr (mz_S (mz_qa a b c d) (mz_ltm m)) ax i j = 0 := mz_ziF y
        rw [e1] at k
        rw [mz_ziF y]
        exact br_t rfl (nm_r (mz_st j) k)
theorem mz_Yg21 (post : Int32 → SY → Prop) {m ax : Nat} (hm : m ≤ 13) (hx : ax < 3) (cn px py pz un an : Int32) (bt bb : Int64) (sl lm a b c d : Nat → Int32)
    (hR : ∀ e, e < m → mz_R 40 (mz_qa a b c d e)) (hW : ∀ e, e < 6 → mz_S (mz_qa a b c d) (mz_ltm m) (mz_wl e))
    (hp : post (nI (0 + mz_row (fun i => mz_row (mz_gr (mz_S (mz_qa a b c d) (mz_ltm m)) ax i) 21) 21)) (cn, nI m, px, py, pz, un, an, bt, bb, sl, lm, a, b, c, d)) :
    ∀ f i, i ≤ 21 → 21 - i < f → wY_shadowGrid_21 post (nI ax) cn (nI m) px py pz un an bt bb sl lm a b c d f (nI (0 + mz_row (fun i => mz_row (mz_gr (mz_S (mz_qa a b c d) (mz_ltm m)) ax i) 21) i)) (mz_z ((i : Int) - 10)) := by
  intro f
  induction f with
  | zero => intro i _ h; omega
  | succ f ih =>
    intro i hi hf
    have cmp : (11 : Int32) ≤ mz_z ((i : Int) - 10) ↔ (11 : Int) ≤ (i : Int) - 10 := by
      rw [show (11 : Int32) = mz_z 11 by decide]
      exact mz_zle ⟨by omega, by omega⟩ ⟨by omega, by omega⟩
    by_cases z : i = 21
    · subst z
      exact br_t (cmp.mpr (by omega)) hp
    · refine br_f (fun w => by have := cmp.mp w; omega) ?_
      have k := ih (i + 1) (by omega) (by omega)
      rw [mz_gn] at k
      have w := mz_Yg31 post _ hm hx (show i < 21 by omega) cn px py pz un an bt bb sl lm a b c d hR hW k 22 0 (by omega) (by omega)
      rw [show mz_z (((0 : Nat) : Int) - 10) = -10 by decide] at w
      exact ⟨22, w⟩
end
section
/- the reference's small questions -/
theorem mz_YbadSlope (post : Int32 → Prop) (v : SY) (x : Int32) (hT : 0 ≤ x.toInt ∧ x.toInt ≤ 728 → post 0) (hF : ¬ (0 ≤ x.toInt ∧ x.toInt ≤ 728) → post 1) : wpY_badSlope post v x := by
  have a := mz_lc x 0 0 (by decide)
  have b := mz_lc x 728 728 (by decide)
  by_cases h : x.toInt < 0
  · exact br_t (a.1.mpr h) (hF (by omega))
  · refine br_f (fun z => h (a.1.mp z)) ?_
    by_cases h' : x.toInt ≤ 728
    · exact br_t (b.2.2.1.mpr h') (hT (by omega))
    · exact br_f (fun z => h' (b.2.2.1.mp z)) (hF (by omega))
theorem mz_Yfar (post : Int32 → Prop) (v : SY) (x : Int32) (hT : -400 ≤ x.toInt ∧ x.toInt ≤ 400 → post 0) (hF : ¬ (-400 ≤ x.toInt ∧ x.toInt ≤ 400) → post 1) : wpY_far post v x := by
  have a := mz_lc x (-400) (-400) (by decide)
  have b := mz_lc x 400 400 (by decide)
  by_cases h : x.toInt < -400
  · exact br_t (a.1.mpr h) (hF (by omega))
  · refine br_f (fun z => h (a.1.mp z)) ?_
    by_cases h' : x.toInt ≤ 400
    · exact br_t (b.2.2.1.mpr h') (hT (by omega))
    · exact br_f (fun z => h' (b.2.2.1.mp z)) (hF (by omega))
theorem mz_Ybad (post : Int32 → Prop) {N : Nat} (hN : N ≤ 7) (mn px py pz un an : Int32) (bt bb : Int64) (sl lm a b c d : Nat → Int32) (x : Int32) (hT : 0 ≤ x.toInt ∧ x.toInt < N → post 0) (hF : ¬ (0 ≤ x.toInt ∧ x.toInt < N) → post 1) : wpY_bad post (nI N, mn, px, py, pz, un, an, bt, bb, sl, lm, a, b, c, d) x := by
  have i0 := mz_lc x 0 0 (by decide)
  have i1 := mz_lc x (nI N) N (nI_toInt (by omega))
  have i2 := mz_lc x 6 6 (by decide)
  by_cases h : x.toInt < 0
  · exact br_t (i0.1.mpr h) (hF (by omega))
  · refine br_f (fun z => h (i0.1.mp z)) ?_
    by_cases h' : (N : Int) ≤ x.toInt
    · exact br_t (i1.2.2.2.mpr h') (hF (by omega))
    · refine br_f (fun z => h' (i1.2.2.2.mp z)) ?_
      exact br_t (i2.2.2.1.mpr (by omega)) (hT (by omega))
/- emptiness -/
theorem mz_Xempty (post : Int32 → SX → Prop) {N : Nat} {F L sl lm : Nat → Int32} (hr : mz_rel N F L sl lm) (co : Int32) (T B : Nat → Int32)
    (hp : ∀ u, mz_sx N F L u → post (nI (mz_zi (∀ t, ¬ mz_C (mz_U sl lm N (-1)) t))) u) : wpX_empty post (nI N, co, F, L, T, B) := by
  unfold wpX_empty
  dsimp only
  refine mz_Xfind _ hr.1 co F L T B (-1) (mz_relR hr) fun n T' B' hn hF => ?_
  rw [mz_U1 hr] at hF
  have h := hp _ (mz_sxI (nI n) T' B')
  by_cases z : n = 0
  · rw [mz_ziT ((mz_Fe hF).mp z)] at h
    subst z
    exact br_t rfl h
  · rw [mz_ziF (fun y => z ((mz_Fe hF).mpr y))] at h
    exact br_f (nI_ne0 (by omega) (by omega)) h
theorem mz_Yempty (post : Int32 → SY → Prop) {N : Nat} (hN : N ≤ 7) (mn px py pz un an : Int32) (bt bb : Int64) (sl lm a b c d : Nat → Int32) (hR : ∀ p, mz_U sl lm N (-1) p → mz_R 40 p)
    (hp : ∀ v, mz_sy N sl lm v → post (nI (mz_zi (∀ t, ¬ mz_C (mz_U sl lm N (-1)) t))) v) : wpY_empty post (nI N, mn, px, py, pz, un, an, bt, bb, sl, lm, a, b, c, d) := by
  unfold wpY_empty
  dsimp only
  refine mz_Ysearch _ hN (-1) 0 0 0 (0, 0, 0, 0) (D := 0) ⟨by decide, by decide, by decide, by decide⟩ mz_z0.symm mz_z0.symm mz_z0.symm mn px py pz un an bt bb sl lm a b c d hR fun m px py pz un any T B a b c d hG => ?_
  dsimp only
  have h := hp _ (mz_syI (nI m) px py pz un (nI any) (mz_l T) (mz_l B) a b c d)
  rcases mz_Gan hG with e | e
  · rw [mz_ziT ((mz_Ge hG).mp e)] at h
    subst e
    exact br_t rfl h
  · rw [mz_ziF (fun y => by have := (mz_Ge hG).mpr y; omega)] at h
    subst e
    exact br_f (by decide) h
/- a bound that follows -/
theorem mz_Xkeep (post : Int32 → SX → Prop) {N n P : Nat} {C : mz_P → Prop} (hn : n ≤ 286) (hP : P < 14) (F L T B : Nat → Int32) (hR : mz_R 1000 (mz_pl F L P)) (hF : mz_F C (mz_pl T B) n) (hQ : ∀ t, C t → mz_Q t)
    (hp : post (nI (mz_zi (∀ t, C t → mz_kp (mz_pl F L P) t))) (nI N, nI n, F, L, T, B)) :
    wpX_cornersKeep (fun r => ((r = 0 → post 0 (nI N, nI n, F, L, T, B)) ∧ (¬ r = 0 → post 1 (nI N, nI n, F, L, T, B)))) (nI N, nI n, F, L, T, B) (nI P) := by
  have k := mz_Fk hF (fun t => mz_kp (mz_pl F L P) t)
  refine mz_Xck _ hn hP F L T B hR (fun e he => hQ _ (hF.1 e he)) (fun h => ?_) (fun h => ?_)
  · rw [mz_ziT (k.mp h)] at hp
    exact br_f (by decide) hp
  · rw [mz_ziF (fun z => h (k.mpr z))] at hp
    exact br_t rfl hp
theorem mz_lcm2 {T B y : Int} (hT : -46080 ≤ T ∧ T ≤ 46080) (hB : 1 ≤ B ∧ B ≤ 384) (hy : -1000 ≤ y ∧ y ≤ 1000) : (mz_l y * mz_l B < mz_l T ↔ y * B < T) ∧ (mz_l T ≤ mz_l y * mz_l B ↔ T ≤ y * B) := by
  have b := mz_mb 1000 384 hy.1 hy.2 (show -((384 : Nat) : Int) ≤ B by omega) (show B ≤ ((384 : Nat) : Int) by omega)
  rw [mz_lm]
  exact ⟨mz_llt ⟨by omega, by omega⟩ ⟨by omega, by omega⟩, mz_lle ⟨by omega, by omega⟩ ⟨by omega, by omega⟩⟩
theorem mz_Xfol (post : Int32 → SX → Prop) {N s : Nat} {F L sl lm : Nat → Int32} (hr : mz_rel N F L sl lm) (hs : s < 729) (y : Int32) (hy : -1000 ≤ y.toInt ∧ y.toInt ≤ 1000) (co : Int32) (T B : Nat → Int32)
    (hp : ∀ F' L' u, mz_rel N F' L' sl lm → mz_sx N F' L' u → post (nI (mz_zi (∀ t, mz_C (mz_U sl lm N (-1)) t → mz_kp (mz_dc (nI s) y) t))) u) :
    wpX_setPlane (fun u => match u with | (f_count_6, f_corners_7, a_factors_8, a_limits_9, a_cornerTops_10, a_cornerBottoms_11) => (wpX_findCorners (fun u => match u with | (f_count_13, f_corners_14, a_factors_15, a_limits_16, a_cornerTops_17, a_cornerBottoms_18) => (wpX_cornersKeep (fun r_19 => (((r_19 = 0 → (post 0 (f_count_13, f_corners_14, a_factors_15, a_limits_16, a_cornerTops_17, a_cornerBottoms_18))) ∧ (¬ r_19 = 0 → (post 1 (f_count_13, f_corners_14, a_factors_15, a_limits_16, a_cornerTops_17, a_cornerBottoms_18)))))) (f_count_13, f_corners_14, a_factors_15, a_limits_16, a_cornerTops_17, a_cornerBottoms_18) 13)) (f_count_6, f_corners_7, a_factors_8, a_limits_9, a_cornerTops_10, a_cornerBottoms_11) (-1))) (nI N, co, F, L, T, B) 13 (nI s) y := by
  have hN := hr.1
  refine mz_XsetPlane _ 13 (by omega) (nI N) co F L T B (nI s) y ?_
  dsimp only
  have hr' : mz_rel N (upd (upd (upd F (3 * 13) (nI s / 81 - 4)) (3 * 13 + 1) (nI s / 9 - nI s / 9 / 9 * 9 - 4)) (3 * 13 + 2) (nI s - nI s / 9 * 9 - 4)) (upd L 13 y) sl lm := mz_relC hr fun e he => mz_plN (by omega)
  have hpl : mz_pl (upd (upd (upd F (3 * 13) (nI s / 81 - 4)) (3 * 13 + 1) (nI s / 9 - nI s / 9 / 9 * 9 - 4)) (3 * 13 + 2) (nI s - nI s / 9 * 9 - 4)) (upd L 13 y) 13 = mz_dc (nI s) y := mz_plS
  refine mz_Xfind _ hN co _ _ T B (-1) (mz_relR hr') fun n T' B' hn hF => ?_
  rw [mz_U1 hr'] at hF
  dsimp only
  refine mz_Xkeep post (P := 13) hn (by decide) _ _ T' B' ?_ hF (mz_UC (mz_UR hr')).1 ?_
  · rw [hpl]; exact mz_dcR (D := 1000) hs (by omega) (by omega)
  · rw [hpl]; exact hp _ _ _ hr' (mz_sxI _ _ _)
theorem mz_Yfol (post : Int32 → SY → Prop) {N s : Nat} (hN : N ≤ 7) (hs : s < 729) (y : Int32) (hy : -1000 ≤ y.toInt ∧ y.toInt ≤ 1000) (mn px py pz un an : Int32) (bt bb : Int64) (sl lm a b c d : Nat → Int32) (hR : ∀ p, mz_U sl lm N (-1) p → mz_R 40 p)
    (hp : ∀ v, mz_sy N sl lm v → post (nI (mz_zi (∀ t, mz_C (mz_U sl lm N (-1)) t → mz_kp (mz_dc (nI s) y) t))) v) : wpY_follows post (nI N, mn, px, py, pz, un, an, bt, bb, sl, lm, a, b, c, d) (nI s) y := by
  have i0 := mz_lc y (-1000) (-1000) (by decide)
  have i1 := mz_lc y 1000 1000 (by decide)
  have hu := mz_UC hR
  have es := nI_toInt (n := s) (by omega)
  unfold wpY_follows
  dsimp only
  refine mz_YbadSlope _ _ (nI s) (fun _ => ?_) (fun z => absurd ⟨by omega, by omega⟩ z)
  refine br_t rfl (br_f (fun z => by have := i0.1.mp z; omega) (br_t (i1.2.2.1.mpr hy.2) ?_))
  have hs' : mz_R 1000 (mz_dc (nI s) y) := mz_dcR hs (by omega) (by omega)
  refine mz_Ytow _ hN (-1) (nI s) y hs' mn px py pz un an bt bb sl lm a b c d hR fun m px py pz un any T B a b c d hG => ?_
  dsimp only
  have h := hp _ (mz_syI (nI m) px py pz un (nI any) (mz_l T) (mz_l B) a b c d)
  have k : (∀ t, mz_C (mz_U sl lm N (-1)) t → mz_kp (mz_dc (nI s) y) t) ↔ (any = 0 ∨ T ≤ y.toInt * B) := mz_Gk hu.2 hG y.toInt
  rcases mz_Gan hG with e | e
  · subst e
    rw [mz_ziT (k.mpr (Or.inl rfl))] at h
    exact br_t rfl h
  · subst e
    have bd := mz_GB hG (by decide) hs' hu.1 hu.2
    have cmp := (mz_lcm2 bd.1 bd.2 hy).1
    refine br_f (by decide) ?_
    rw [mz_z64]
    by_cases z : y.toInt * B < T
    · rw [mz_ziF (fun q => by have := k.mp q; omega)] at h
      exact br_t (cmp.mpr z) h
    · rw [mz_ziT (k.mpr (Or.inr (by omega)))] at h
      exact br_f (fun q => z (cmp.mp q)) h
/- a bound that can go -/
theorem mz_Xred (post : Int32 → SX → Prop) {N q : Nat} {F L sl lm : Nat → Int32} (hr : mz_rel N F L sl lm) (hq : q < N) (co : Int32) (T B : Nat → Int32)
    (hp : ∀ u, mz_sx N F L u → post (nI (mz_zi (∀ t, mz_C (mz_U sl lm N (nI q)) t → mz_kp (mz_dc (sl q) (lm q)) t))) u) : wpX_redundant post (nI N, co, F, L, T, B) (nI q) := by
  have hN := hr.1
  have es := nI_toInt (n := q) (by omega)
  have e6 : (6 : Int32) + nI q = nI (6 + q) := nI_add 6 q
  unfold wpX_redundant
  dsimp only
  refine mz_XisBound _ hN co F L T B (nI q) (fun _ => ?_) (fun z => absurd ⟨by omega, by omega⟩ z)
  refine br_f (by decide) ?_
  rw [e6]
  refine mz_Xfind _ hN co F L T B (nI (6 + q)) (mz_relR hr) fun n T' B' hn hF => ?_
  rw [mz_U2 hr hq] at hF
  dsimp only
  have hpl := (hr.2.2 q hq).2
  refine mz_Xkeep post hn (by omega) F L T' B' ?_ hF (mz_UC (mz_UR hr)).1 ?_
  · rw [hpl]; exact mz_RD (hr.2.2 q hq).1 (by omega)
  · rw [hpl]; exact hp _ (mz_sxI _ _ _)
theorem mz_Yred (post : Int32 → SY → Prop) {N q : Nat} (hN : N ≤ 7) (hq : q < N) (mn px py pz un an : Int32) (bt bb : Int64) (sl lm a b c d : Nat → Int32) (hs : mz_R 40 (mz_dc (sl q) (lm q))) (hR : ∀ p, mz_U sl lm N (nI q) p → mz_R 40 p)
    (hp : ∀ v, mz_sy N sl lm v → post (nI (mz_zi (∀ t, mz_C (mz_U sl lm N (nI q)) t → mz_kp (mz_dc (sl q) (lm q)) t))) v) : wpY_redundant post (nI N, mn, px, py, pz, un, an, bt, bb, sl, lm, a, b, c, d) (nI q) := by
  have hu := mz_UC hR
  have es := nI_toInt (n := q) (by omega)
  have vq := vp_in_nI (show q < 7 by omega) (show 7 < 2 ^ 31 by omega)
  unfold wpY_redundant
  dsimp only
  refine mz_Ybad _ hN mn px py pz un an bt bb sl lm a b c d (nI q) (fun _ => ?_) (fun z => absurd ⟨by omega, by omega⟩ z)
  refine br_t rfl ⟨vq, ?_⟩
  rw [nI_clamp (show q < 2 ^ 31 by omega)]
  refine mz_Ytow _ hN (nI q) (sl q) (lm q) hs mn px py pz un an bt bb sl lm a b c d hR fun m px py pz un any T B a b c d hG => ?_
  dsimp only
  have h := hp _ (mz_syI (nI m) px py pz un (nI any) (mz_l T) (mz_l B) a b c d)
  have k : (∀ t, mz_C (mz_U sl lm N (nI q)) t → mz_kp (mz_dc (sl q) (lm q)) t) ↔ (any = 0 ∨ T ≤ (lm q).toInt * B) := mz_Gk hu.2 hG (lm q).toInt
  rcases mz_Gan hG with e | e
  · subst e
    rw [mz_ziT (k.mpr (Or.inl rfl))] at h
    exact br_t rfl h
  · subst e
    have bd := mz_GB hG (by decide) hs hu.1 hu.2
    have hl : -40 ≤ (lm q).toInt ∧ (lm q).toInt ≤ 40 := hs.2.2.2
    have cmp := (mz_lcm2 bd.1 bd.2 (show -1000 ≤ (lm q).toInt ∧ (lm q).toInt ≤ 1000 by omega)).1
    refine br_f (by decide) ⟨vq, ?_⟩
    rw [mz_z64]
    by_cases z : (lm q).toInt * B < T
    · rw [mz_ziF (fun q => by have := k.mp q; omega)] at h
      exact br_t (cmp.mpr z) h
    · rw [mz_ziT (k.mpr (Or.inr (by omega)))] at h
      exact br_f (fun q => z (cmp.mp q)) h
end
section
/- the least limit -/
theorem mz_stp (i : Nat) (k : Int) : mz_z ((i : Int) - k) + 1 = mz_z (((i + 1 : Nat) : Int) - k) := by
  rw [← mz_z1, mz_za]; exact congrArg mz_z (by omega)
theorem mz_Xs30 (post : Int32 → SX → Prop) {N n s : Nat} {sl lm : Nat → Int32} {C : mz_P → Prop} (hN : N ≤ 7) (hn : n ≤ 286) (hs : s < 729) (T B : Nat → Int32) (hF : mz_F C (mz_pl T B) n) (hQ : ∀ t, C t → mz_Q t)
    (h120 : ∀ t, C t → mz_vl (mz_dc (nI s) 0) t ≤ 120 * t.2.2.2)
    (hp : ∀ r F' L' u, mz_Sup C (mz_dc (nI s) 0) r → mz_rel N F' L' sl lm → mz_sx N F' L' u → post (mz_z r) u) :
    ∀ (f i : Nat) (F L : Nat → Int32), i ≤ 240 → 240 - i < f → mz_rel N F L sl lm → (¬ ∀ t, C t → mz_vl (mz_dc (nI s) 0) t ≤ ((i : Int) - 121) * t.2.2.2) → wX_support_30 post (nI s) f (mz_z ((i : Int) - 120)) (nI N) (nI n) F L T B := by
  intro f
  induction f with
  | zero => intro i F L _ h; omega
  | succ f ih =>
    intro i F L hi hf hr hno
    have cmp : (120 : Int32) ≤ mz_z ((i : Int) - 120) ↔ (120 : Int) ≤ (i : Int) - 120 := by
      rw [show (120 : Int32) = mz_z 120 by decide]
      exact mz_zle ⟨by omega, by omega⟩ ⟨by omega, by omega⟩
    by_cases z : i = 240
    · subst z
      refine br_t (cmp.mpr (by omega)) ?_
      have := hp 120 F L _ (mz_Sup2 h120 hno) hr (mz_sxI (nI n) T B)
      rw [show mz_z 120 = 120 by decide] at this
      exact this
    · refine br_f (fun w => by have := cmp.mp w; omega) ?_
      have ey : (mz_z ((i : Int) - 120)).toInt = (i : Int) - 120 := mz_ti ⟨by omega, by omega⟩
      generalize mz_z ((i : Int) - 120) = y at *
      refine mz_XsetPlane _ 13 (by omega) (nI N) (nI n) F L T B (nI s) y ?_
      dsimp only
      have hr' : mz_rel N (upd (upd (upd F (3 * 13) (nI s / 81 - 4)) (3 * 13 + 1) (nI s / 9 - nI s / 9 / 9 * 9 - 4)) (3 * 13 + 2) (nI s - nI s / 9 * 9 - 4)) (upd L 13 y) sl lm := mz_relC hr fun e he => mz_plN (by omega)
      have hpl : mz_pl (upd (upd (upd F (3 * 13) (nI s / 81 - 4)) (3 * 13 + 1) (nI s / 9 - nI s / 9 / 9 * 9 - 4)) (3 * 13 + 2) (nI s - nI s / 9 * 9 - 4)) (upd L 13 y) 13 = mz_dc (nI s) y := mz_plS
      have k := mz_Fk hF (fun t => mz_kp (mz_dc (nI s) y) t)
      have ek : (∀ t, C t → mz_kp (mz_dc (nI s) y) t) ↔ ∀ t, C t → mz_vl (mz_dc (nI s) 0) t ≤ ((i : Int) - 120) * t.2.2.2 := by
        rw [← ey]; exact Iff.rfl
      refine mz_Xck _ (p := 13) hn (by decide) _ _ T B (by rw [hpl]; exact mz_dcR hs (by omega) (by omega)) (fun e he => hQ _ (hF.1 e he)) (fun h => ?_) (fun h => ?_)
      · rw [hpl] at h
        have sup : mz_Sup C (mz_dc (nI s) 0) ((i : Int) - 120) := mz_Sup2 (ek.mp (k.mp h)) (by rw [show (i : Int) - 120 - 1 = (i : Int) - 121 by omega]; exact hno)
        have := hp _ _ _ _ sup hr' (mz_sxI (nI n) T B)
        rw [← ey, mz_zt] at this
        exact br_f (by decide) this
      · rw [hpl] at h
        have no : ¬ ∀ t, C t → mz_vl (mz_dc (nI s) 0) t ≤ (((i + 1 : Nat) : Int) - 121) * t.2.2.2 := by
          rw [show ((i + 1 : Nat) : Int) - 121 = (i : Int) - 120 by omega]
          exact fun w => h (k.mpr (ek.mpr w))
        have st : y + 1 = mz_z (((i + 1 : Nat) : Int) - 120) := by
          rw [← mz_stp, ← ey, mz_zt]
        exact br_t rfl (nm_r st (ih (i + 1) _ _ (by omega) (by omega) hr' no))
theorem mz_Xsup (post : Int32 → SX → Prop) {N s : Nat} {F L sl lm : Nat → Int32} (hr : mz_rel N F L sl lm) (hs : s < 729) (co : Int32) (T B : Nat → Int32)
    (hE : (∀ t, ¬ mz_C (mz_U sl lm N (-1)) t) → ∀ u, mz_sx N F L u → post (-2000) u)
    (hp : ∀ r F' L' u, mz_Sup (mz_C (mz_U sl lm N (-1))) (mz_dc (nI s) 0) r → mz_rel N F' L' sl lm → mz_sx N F' L' u → post (mz_z r) u) : wpX_support post (nI N, co, F, L, T, B) (nI s) := by
  have hN := hr.1
  have es := nI_toInt (n := s) (by omega)
  have hu := mz_UC (w := -1) (mz_UR hr)
  unfold wpX_support
  dsimp only
  refine mz_XisSlope _ (nI s) (fun _ => ?_) (fun z => absurd ⟨by omega, by omega⟩ z)
  refine br_f (by decide) ?_
  refine mz_Xfind _ hN co F L T B (-1) (mz_relR hr) fun n T' B' hn hF => ?_
  rw [mz_U1 hr] at hF
  dsimp only
  by_cases z : n = 0
  · subst z
    exact br_t rfl (hE ((mz_Fe hF).mp rfl) _ (mz_sxI _ _ _))
  · refine br_f (nI_ne0 (by omega) (by omega)) ?_
    have b120 : ∀ t, mz_C (mz_U sl lm N (-1)) t → _ := fun t ht => mz_120 (s := mz_dc (nI s) 0) (D := 0) mz_Uw (mz_dcR hs (by decide) (by decide)) ht
    have k := mz_Xs30 post hN hn hs T' B' hF hu.1 (fun t ht => (b120 t ht).2) hp 241 0 F L (by omega) (by omega) hr (fun w => by
      have c0 := hF.1 0 (by omega)
      have h1 := w _ c0
      have h2 := (b120 _ c0).1
      have h3 := hu.2 _ c0
      omega)
    rw [show mz_z (((0 : Nat) : Int) - 120) = -120 by decide] at k
    exact ⟨241, k⟩
theorem mz_Ys33 (post : Int32 → SY → Prop) {T B : Int} (hT : -46080 ≤ T ∧ T ≤ 46080) (hB : 1 ≤ B ∧ B ≤ 384) (h120 : T ≤ 120 * B) (cn mn px py pz un an : Int32) (sl lm a b c d : Nat → Int32)
    (hp : ∀ r, T ≤ r * B → ¬ T ≤ (r - 1) * B → post (mz_z r) (cn, mn, px, py, pz, un, an, mz_l T, mz_l B, sl, lm, a, b, c, d)) :
    ∀ f i : Nat, i ≤ 2000 → 2000 - i < f → ¬ T ≤ ((i : Int) - 1001) * B → wY_support_33 post cn mn px py pz un an (mz_l T) (mz_l B) sl lm a b c d f (mz_z ((i : Int) - 1000)) := by
  intro f
  induction f with
  | zero => intro i _ h; omega
  | succ f ih =>
    intro i hi hf hno
    have cmp : (1000 : Int32) ≤ mz_z ((i : Int) - 1000) ↔ (1000 : Int) ≤ (i : Int) - 1000 := by
      rw [show (1000 : Int32) = mz_z 1000 by decide]
      exact mz_zle ⟨by omega, by omega⟩ ⟨by omega, by omega⟩
    by_cases z : i = 2000
    · subst z
      omega
    · refine br_f (fun w => by have := cmp.mp w; omega) ?_
      have eL : (mz_z ((i : Int) - 1000)).toInt64 = mz_l ((i : Int) - 1000) := mz_zL ⟨by omega, by omega⟩
      rw [eL]
      have c2 := (mz_lcm2 hT hB (show -1000 ≤ (i : Int) - 1000 ∧ (i : Int) - 1000 ≤ 1000 by omega)).2
      by_cases y : T ≤ ((i : Int) - 1000) * B
      · exact br_t (c2.mpr y) (hp _ y (by rw [show (i : Int) - 1000 - 1 = (i : Int) - 1001 by omega]; exact hno))
      · exact br_f (fun w => y (c2.mp w)) (nm_r (mz_stp i 1000) (ih (i + 1) (by omega) (by omega) (by rw [show ((i + 1 : Nat) : Int) - 1001 = (i : Int) - 1000 by omega]; exact y)))
theorem mz_Ysup (post : Int32 → SY → Prop) {N s : Nat} (hN : N ≤ 7) (hs : s < 729) (mn px py pz un an : Int32) (bt bb : Int64) (sl lm a b c d : Nat → Int32) (hR : ∀ p, mz_U sl lm N (-1) p → mz_R 40 p)
    (hE : (∀ t, ¬ mz_C (mz_U sl lm N (-1)) t) → ∀ v, mz_sy N sl lm v → post (-2000) v)
    (hp : ∀ r v, mz_Sup (mz_C (mz_U sl lm N (-1))) (mz_dc (nI s) 0) r → mz_sy N sl lm v → post (mz_z r) v) : wpY_support post (nI N, mn, px, py, pz, un, an, bt, bb, sl, lm, a, b, c, d) (nI s) := by
  have hu := mz_UC hR
  have es := nI_toInt (n := s) (by omega)
  have hs' : mz_R 0 (mz_dc (nI s) 0) := mz_dcR hs (by decide) (by decide)
  unfold wpY_support
  dsimp only
  refine mz_YbadSlope _ _ (nI s) (fun _ => ?_) (fun z => absurd ⟨by omega, by omega⟩ z)
  refine br_t rfl ?_
  refine mz_Ytow _ hN (-1) (nI s) 0 hs' mn px py pz un an bt bb sl lm a b c d hR fun m px py pz un any T B a b c d hG => ?_
  dsimp only
  rcases mz_Gan hG with e | e
  · subst e
    exact br_t rfl (hE ((mz_Ge hG).mp rfl) _ (mz_syI _ _ _ _ _ _ _ _ _ _ _ _))
  · subst e
    refine br_f (by decide) ?_
    have bd := mz_GB hG (by decide) hs' hu.1 hu.2
    have kk : ∀ r : Int, (∀ t, mz_C (mz_U sl lm N (-1)) t → mz_vl (mz_dc (nI s) 0) t ≤ r * t.2.2.2) ↔ T ≤ r * B := by
      intro r
      have := mz_Gk hu.2 hG r
      exact ⟨fun w => (this.mp w).resolve_left (by decide), fun w => this.mpr (Or.inr w)⟩
    have b120 : ∀ t, mz_C (mz_U sl lm N (-1)) t → _ := fun t ht => mz_120 (s := mz_dc (nI s) 0) (D := 0) mz_Uw hs' ht
    have h120 := (kk 120).mp fun t ht => (b120 t ht).2
    have low : ¬ T ≤ -1001 * B := by
      intro w
      have w' := (kk (-1001)).mpr w
      obtain ⟨t, ht, _⟩ : mz_Bst (mz_C (mz_U sl lm N (-1))) (mz_dc (nI s) 0) T B := hG.elim (fun x => absurd x.1 (by decide)) (fun x => x.2)
      have h1 := w' t ht
      have h2 := (b120 t ht).1
      have h3 := hu.2 t ht
      omega
    have k := mz_Ys33 post bd.1 bd.2 h120 (nI N) (nI m) px py pz un (nI 1) sl lm a b c d (fun r h1 h2 => hp r _ (mz_Sup2 ((kk r).mpr h1) (fun w => h2 ((kk (r - 1)).mp w))) (mz_syI _ _ _ _ _ _ _ _ _ _ _ _)) 2001 0 (by omega) (by omega) (by omega)
    rw [show mz_z (((0 : Nat) : Int) - 1000) = -1000 by decide] at k
    exact ⟨2001, k⟩
/- one point, the component's -/
theorem mz_Xsingle (post : Int32 → SX → Prop) {N : Nat} {F L sl lm : Nat → Int32} (hr : mz_rel N F L sl lm) (co : Int32) (T B : Nat → Int32)
    (hp : ∀ u, mz_sx N F L u → post (nI (mz_zi (mz_one (mz_C (mz_U sl lm N (-1)))))) u) : wpX_single post (nI N, co, F, L, T, B) := by
  have hu := mz_UC (w := -1) (mz_UR hr)
  unfold wpX_single
  dsimp only
  refine mz_Xfind _ hr.1 co F L T B (-1) (mz_relR hr) fun n T' B' hn hF => ?_
  rw [mz_U1 hr] at hF
  dsimp only
  have h := hp _ (mz_sxI (nI n) T' B')
  by_cases z : n = 0
  · rw [mz_ziF (fun y => y.1.elim fun t ht => (mz_Fe hF).mp z t ht)] at h
    subst z
    exact br_t rfl h
  · refine br_f (nI_ne0 (by omega) (by omega)) ?_
    have k := mz_Fone hu.2 hF (by omega)
    refine ⟨n + 1, mz_Xs16 post hn F L T' B' (fun e he => hu.1 _ (hF.1 e he)) (fun w => ?_) (fun w => ?_) (n + 1) 1 (by omega) (by omega) (fun e' h' ax _ => ?_)⟩
    · rw [mz_ziT (k.mp w)] at h; exact h
    · rw [mz_ziF (fun y => w (k.mpr y))] at h; exact h
    · have : e' = 0 := by omega
      subst this; rfl
end
section
/- has -/
theorem mz_Xhas1 (post : Int32 → Prop) {N : Nat} {F L sl lm : Nat → Int32} (hr : mz_rel N F L sl lm) (co : Int32) (T B : Nat → Int32) (x1 x2 x3 x4 : Int32) (hA : ¬ (1 ≤ x4.toInt ∧ x4.toInt ≤ 20) → post (-1)) (hB : (1 ≤ x4.toInt ∧ x4.toInt ≤ 20) → ¬ ((-400 ≤ x1.toInt ∧ x1.toInt ≤ 400) ∧ (-400 ≤ x2.toInt ∧ x2.toInt ≤ 400) ∧ (-400 ≤ x3.toInt ∧ x3.toInt ≤ 400)) → post (-2)) (h : (1 ≤ x4.toInt ∧ x4.toInt ≤ 20) → (-400 ≤ x1.toInt ∧ x1.toInt ≤ 400) ∧ (-400 ≤ x2.toInt ∧ x2.toInt ≤ 400) ∧ (-400 ≤ x3.toInt ∧ x3.toInt ≤ 400) → post (nI (mz_zi (∀ s, mz_U sl lm N (-1) s → mz_kp s (x1.toInt, x2.toInt, x3.toInt, x4.toInt))))) :
    wpX_has post (nI N, co, F, L, T, B) x1 x2 x3 x4 := by
  have hN := hr.1
  unfold wpX_has
  dsimp only
  refine mz_XisScale _ x4 (fun h4 => ?_) (fun h4 => br_t rfl (hA h4))
  refine br_f (by decide) (mz_XisWithin _ x1 400 400 (by decide) (by decide) (fun h1 => ?_) (fun h1 => br_t rfl (hB h4 fun w => h1 w.1)))
  refine br_f (by decide) (mz_XisWithin _ x2 400 400 (by decide) (by decide) (fun h2 => ?_) (fun h2 => br_t rfl (hB h4 fun w => h2 w.2.1)))
  refine br_f (by decide) (mz_XisWithin _ x3 400 400 (by decide) (by decide) (fun h3 => ?_) (fun h3 => br_t rfl (hB h4 fun w => h3 w.2.2)))
  refine br_f (by decide) ?_
  have g := h h4 ⟨h1, h2, h3⟩
  rw [← mz_U1 hr] at g
  have k := mz_Xhas post hN co F L T B h1 h2 h3 h4 (mz_relR hr) g (6 + N + 1) 0 (by omega) (by omega) (fun e he => absurd he (Nat.not_lt_zero e))
  rw [mz_zt, mz_zt, mz_zt, mz_zt] at k
  exact ⟨6 + N + 1, k⟩
theorem mz_Yhas1 (post : Int32 → SY → Prop) {N : Nat} (hN : N ≤ 7) (mn px py pz un an : Int32) (bt bb : Int64) (sl lm a b c d : Nat → Int32) (hR : ∀ p, mz_U sl lm N (-1) p → mz_R 40 p) (x1 x2 x3 x4 : Int32) (hA : ¬ (1 ≤ x4.toInt ∧ x4.toInt ≤ 20) → post (-1) (nI N, mn, px, py, pz, un, an, bt, bb, sl, lm, a, b, c, d)) (hB : (1 ≤ x4.toInt ∧ x4.toInt ≤ 20) → ¬ ((-400 ≤ x1.toInt ∧ x1.toInt ≤ 400) ∧ (-400 ≤ x2.toInt ∧ x2.toInt ≤ 400) ∧ (-400 ≤ x3.toInt ∧ x3.toInt ≤ 400)) → post (-2) (nI N, mn, px, py, pz, un, an, bt, bb, sl, lm, a, b, c, d)) (h : (1 ≤ x4.toInt ∧ x4.toInt ≤ 20) → (-400 ≤ x1.toInt ∧ x1.toInt ≤ 400) ∧ (-400 ≤ x2.toInt ∧ x2.toInt ≤ 400) ∧ (-400 ≤ x3.toInt ∧ x3.toInt ≤ 400) → ∀ v, mz_sy N sl lm v → post (nI (mz_zi (∀ s, mz_U sl lm N (-1) s → mz_kp s (x1.toInt, x2.toInt, x3.toInt, x4.toInt)))) v) :
    wpY_has post (nI N, mn, px, py, pz, un, an, bt, bb, sl, lm, a, b, c, d) x1 x2 x3 x4 := by
  have i0 := mz_lc x4 1 1 (by decide)
  have i1 := mz_lc x4 20 20 (by decide)
  unfold wpY_has
  dsimp only
  by_cases z : x4.toInt < 1
  · exact br_t (i0.1.mpr z) (hA (by omega))
  · refine br_f (fun w => z (i0.1.mp w)) ?_
    by_cases y : x4.toInt ≤ 20
    · have h4 : 1 ≤ x4.toInt ∧ x4.toInt ≤ 20 := by omega
      refine br_t (i1.2.2.1.mpr y) ?_
      refine mz_Yfar _ _ x1 (fun h1 => br_t rfl ?_) (fun h1 => br_f (by decide) (hB h4 fun w => h1 w.1))
      refine mz_Yfar _ _ x2 (fun h2 => br_t rfl ?_) (fun h2 => br_f (by decide) (hB h4 fun w => h2 w.2.1))
      refine mz_Yfar _ _ x3 (fun h3 => br_t rfl ?_) (fun h3 => br_f (by decide) (hB h4 fun w => h3 w.2.2))
      refine mz_Ytake _ hN (-1) mn px py pz un an bt bb sl lm a b c d fun m a b c d g1 g2 g3 => ?_
      dsimp only
      have g := h h4 ⟨h1, h2, h3⟩ _ (mz_syI (nI m) px py pz un an bt bb a b c d)
      rw [← g3] at g
      have k := mz_Yhas post g2 (nI N) px py pz un an bt bb sl lm a b c d h1 h2 h3 h4 (fun e he => hR _ (by rw [← g3]; exact ⟨e, he, rfl⟩)) g (m + 1) 0 (by omega) (by omega) (fun e he => absurd he (Nat.not_lt_zero e))
      rw [mz_zt, mz_zt, mz_zt, mz_zt] at k
      exact ⟨m + 1, k⟩
    · exact br_f (fun w => y (i1.2.2.1.mp w)) (hA (by omega))
/- shadow -/
theorem mz_zi01 {Z : Prop} {post : Int32 → Prop} (h : post (nI (mz_zi Z))) : (nI (mz_zi Z) = 0 → post 0) ∧ (¬ nI (mz_zi Z) = 0 → post 1) := by
  by_cases z : Z
  · rw [mz_ziT z] at h ⊢
    exact br_f (by decide) h
  · rw [mz_ziF z] at h ⊢
    exact br_t rfl h
theorem mz_Xsh1 (post : Int32 → Prop) {N : Nat} {F L sl lm : Nat → Int32} (hr : mz_rel N F L sl lm) (co : Int32) (T B : Nat → Int32) (x1 x2 x3 x4 : Int32) (hA : ¬ (0 ≤ x1.toInt ∧ x1.toInt < 3) → post (-1)) (hB : (0 ≤ x1.toInt ∧ x1.toInt < 3) → ¬ (1 ≤ x4.toInt ∧ x4.toInt ≤ 20) → post (-2)) (hC : (0 ≤ x1.toInt ∧ x1.toInt < 3) → (1 ≤ x4.toInt ∧ x4.toInt ≤ 20) → ¬ ((-400 ≤ x2.toInt ∧ x2.toInt ≤ 400) ∧ (-400 ≤ x3.toInt ∧ x3.toInt ≤ 400)) → post (-3)) (h : (0 ≤ x1.toInt ∧ x1.toInt < 3) → (1 ≤ x4.toInt ∧ x4.toInt ≤ 20) → (-400 ≤ x2.toInt ∧ x2.toInt ≤ 400) ∧ (-400 ≤ x3.toInt ∧ x3.toInt ≤ 400) → post (nI (mz_zi (mz_Z (mz_U sl lm N (-1)) (mz_co x1.toInt.toNat) (mz_rs x1.toInt.toNat x2.toInt x3.toInt x4.toInt))))) :
    wpX_shadow post (nI N, co, F, L, T, B) x1 x2 x3 x4 := by
  have hN := hr.1
  unfold wpX_shadow
  dsimp only
  refine mz_XisAxis _ x1 (fun h1 => ?_) (fun h1 => br_t rfl (hA h1))
  refine br_f (by decide) (mz_XisScale _ x4 (fun h4 => ?_) (fun h4 => br_t rfl (hB h1 h4)))
  refine br_f (by decide) (mz_XisWithin _ x2 400 400 (by decide) (by decide) (fun h2 => ?_) (fun h2 => br_t rfl (hC h1 h4 fun w => h2 w.1)))
  refine br_f (by decide) (mz_XisWithin _ x3 400 400 (by decide) (by decide) (fun h3 => ?_) (fun h3 => br_t rfl (hC h1 h4 fun w => h3 w.2)))
  refine br_f (by decide) ?_
  have g := h h1 h4 ⟨h2, h3⟩
  rw [← mz_U1 hr] at g
  have k := mz_Xline (fun r => (r = 0 → post 0) ∧ (¬ r = 0 → post 1)) hN (ax := x1.toInt.toNat) (by omega) co F L T B h2 h3 h4 (mz_relR hr) (fun e he => by rw [mz_U1 hr]; exact mz_Uw e he) (mz_zi01 g)
  rw [mz_zt, mz_zt, mz_zt, ← mz_ofi h1.1] at k
  exact k
theorem mz_Ysh1 (post : Int32 → SY → Prop) {N : Nat} (hN : N ≤ 7) (mn px py pz un an : Int32) (bt bb : Int64) (sl lm a b c d : Nat → Int32) (hR : ∀ p, mz_U sl lm N (-1) p → mz_R 40 p) (x1 x2 x3 x4 : Int32) (hA : ¬ (0 ≤ x1.toInt ∧ x1.toInt < 3) → post (-1) (nI N, mn, px, py, pz, un, an, bt, bb, sl, lm, a, b, c, d)) (hB : (0 ≤ x1.toInt ∧ x1.toInt < 3) → ¬ (1 ≤ x4.toInt ∧ x4.toInt ≤ 20) → post (-2) (nI N, mn, px, py, pz, un, an, bt, bb, sl, lm, a, b, c, d)) (hC : (0 ≤ x1.toInt ∧ x1.toInt < 3) → (1 ≤ x4.toInt ∧ x4.toInt ≤ 20) → ¬ ((-400 ≤ x2.toInt ∧ x2.toInt ≤ 400) ∧ (-400 ≤ x3.toInt ∧ x3.toInt ≤ 400)) → post (-3) (nI N, mn, px, py, pz, un, an, bt, bb, sl, lm, a, b, c, d)) (h : (0 ≤ x1.toInt ∧ x1.toInt < 3) → (1 ≤ x4.toInt ∧ x4.toInt ≤ 20) → (-400 ≤ x2.toInt ∧ x2.toInt ≤ 400) ∧ (-400 ≤ x3.toInt ∧ x3.toInt ≤ 400) → ∀ v, mz_sy N sl lm v → post (nI (mz_zi (mz_Z (mz_U sl lm N (-1)) (mz_co x1.toInt.toNat) (mz_rs x1.toInt.toNat x2.toInt x3.toInt x4.toInt)))) v) :
    wpY_shadow post (nI N, mn, px, py, pz, un, an, bt, bb, sl, lm, a, b, c, d) x1 x2 x3 x4 := by
  have i0 := mz_lc x4 1 1 (by decide)
  have i1 := mz_lc x4 20 20 (by decide)
  have j0 := mz_lc x1 0 0 (by decide)
  have j1 := mz_lc x1 2 2 (by decide)
  unfold wpY_shadow
  dsimp only
  by_cases u : x1.toInt < 0
  · exact br_t (j0.1.mpr u) (hA (by omega))
  · refine br_f (fun w => u (j0.1.mp w)) ?_
    by_cases v : x1.toInt ≤ 2
    · have h1 : 0 ≤ x1.toInt ∧ x1.toInt < 3 := by omega
      refine br_t (j1.2.2.1.mpr v) ?_
      by_cases z : x4.toInt < 1
      · exact br_t (i0.1.mpr z) (hB h1 (by omega))
      · refine br_f (fun w => z (i0.1.mp w)) ?_
        by_cases y : x4.toInt ≤ 20
        · have h4 : 1 ≤ x4.toInt ∧ x4.toInt ≤ 20 := by omega
          refine br_t (i1.2.2.1.mpr y) ?_
          refine mz_Yfar _ _ x2 (fun h2 => br_t rfl ?_) (fun h2 => br_f (by decide) (hC h1 h4 fun w => h2 w.1))
          refine mz_Yfar _ _ x3 (fun h3 => br_t rfl ?_) (fun h3 => br_f (by decide) (hC h1 h4 fun w => h3 w.2))
          refine mz_Ytake _ hN (-1) mn px py pz un an bt bb sl lm a b c d fun m a b c d g1 g2 g3 => ?_
          dsimp only
          have g := h h1 h4 ⟨h2, h3⟩ _ (mz_syI (nI m) px py pz un an bt bb a b c d)
          rw [← g3] at g
          have k := mz_Yshades (fun r => (r = 0 → post 0 (nI N, nI m, px, py, pz, un, an, bt, bb, sl, lm, a, b, c, d)) ∧ (¬ r = 0 → post 1 (nI N, nI m, px, py, pz, un, an, bt, bb, sl, lm, a, b, c, d))) g2 (ax := x1.toInt.toNat) (by omega) (nI N) px py pz un an bt bb sl lm a b c d h2 h3 h4 (fun e he => hR _ (by rw [← g3]; exact ⟨e, he, rfl⟩)) (fun e he => by rw [g3]; exact mz_Uw e he) (mz_zi01 (post := fun r => post r (nI N, nI m, px, py, pz, un, an, bt, bb, sl, lm, a, b, c, d)) g)
          rw [mz_zt, mz_zt, mz_zt, ← mz_ofi h1.1] at k
          exact k
        · exact br_f (fun w => y (i1.2.2.1.mp w)) (hB h1 (by omega))
    · exact br_f (fun w => v (j1.2.2.1.mp w)) (hA (by omega))
/- the grid of shadows -/
theorem mz_Xgr (post : Int32 → Prop) {N : Nat} {F L sl lm : Nat → Int32} (hr : mz_rel N F L sl lm) (co : Int32) (T B : Nat → Int32) (x1 : Int32) (hA : ¬ (0 ≤ x1.toInt ∧ x1.toInt < 3) → post (-1)) (h : (0 ≤ x1.toInt ∧ x1.toInt < 3) → post (nI (0 + mz_row (fun i => mz_row (mz_gr (mz_U sl lm N (-1)) x1.toInt.toNat i) 21) 21))) : wpX_shadowGrid post (nI N, co, F, L, T, B) x1 := by
  have hN := hr.1
  unfold wpX_shadowGrid
  dsimp only
  refine mz_XisAxis _ x1 (fun h1 => ?_) (fun h1 => br_t rfl (hA h1))
  refine br_f (by decide) ?_
  have g := h h1
  rw [← mz_U1 hr] at g
  have k := mz_Xg14 post hN (ax := x1.toInt.toNat) (by omega) co F L T B (mz_relR hr) (fun e he => by rw [mz_U1 hr]; exact mz_Uw e he) g 22 0 (by omega) (by omega)
  rw [← mz_ofi h1.1, show mz_z (((0 : Nat) : Int) - 10) = -10 by decide] at k
  exact ⟨22, k⟩
theorem mz_Ygr (post : Int32 → SY → Prop) {N : Nat} (hN : N ≤ 7) (mn px py pz un an : Int32) (bt bb : Int64) (sl lm a b c d : Nat → Int32) (hR : ∀ p, mz_U sl lm N (-1) p → mz_R 40 p) (x1 : Int32) (hA : ¬ (0 ≤ x1.toInt ∧ x1.toInt < 3) → post (-1) (nI N, mn, px, py, pz, un, an, bt, bb, sl, lm, a, b, c, d)) (h : (0 ≤ x1.toInt ∧ x1.toInt < 3) → ∀ v, mz_sy N sl lm v → post (nI (0 + mz_row (fun i => mz_row (mz_gr (mz_U sl lm N (-1)) x1.toInt.toNat i) 21) 21)) v) : wpY_shadowGrid post (nI N, mn, px, py, pz, un, an, bt, bb, sl, lm, a, b, c, d) x1 := by
  have j0 := mz_lc x1 0 0 (by decide)
  have j1 := mz_lc x1 2 2 (by decide)
  unfold wpY_shadowGrid
  dsimp only
  by_cases u : x1.toInt < 0
  · exact br_t (j0.1.mpr u) (hA (by omega))
  · refine br_f (fun w => u (j0.1.mp w)) ?_
    by_cases v : x1.toInt ≤ 2
    · have h1 : 0 ≤ x1.toInt ∧ x1.toInt < 3 := by omega
      refine br_t (j1.2.2.1.mpr v) ?_
      refine mz_Ytake _ hN (-1) mn px py pz un an bt bb sl lm a b c d fun m a b c d g1 g2 g3 => ?_
      dsimp only
      have g := h h1 _ (mz_syI (nI m) px py pz un an bt bb a b c d)
      rw [← g3] at g
      have k := mz_Yg21 post g2 (ax := x1.toInt.toNat) (by omega) (nI N) px py pz un an bt bb sl lm a b c d (fun e he => hR _ (by rw [← g3]; exact ⟨e, he, rfl⟩)) (fun e he => by rw [g3]; exact mz_Uw e he) g 22 0 (by omega) (by omega)
      rw [← mz_ofi h1.1, show mz_z (((0 : Nat) : Int) - 10) = -10 by decide] at k
      exact ⟨22, k⟩
    · exact br_f (fun w => v (j1.2.2.1.mp w)) (hA (by omega))
/- removing, the reference's -/
theorem mz_Yrem (post : Int32 → SY → Prop) {N q : Nat} (hN : N < 7) (hq : q ≤ N) (mn px py pz un an : Int32) (bt bb : Int64) (sl0 lm0 a b c d : Nat → Int32)
    (hp : ∀ sl lm, (∀ i, i < q → sl i = sl0 i ∧ lm i = lm0 i) → (∀ i, q ≤ i → i < N → sl i = sl0 (i + 1) ∧ lm i = lm0 (i + 1)) → post (nI N) (nI N, mn, px, py, pz, un, an, bt, bb, sl, lm, a, b, c, d)) :
    ∀ f i sl lm, q ≤ i → i ≤ N → N - i < f → (∀ e, e < q → sl e = sl0 e ∧ lm e = lm0 e) → (∀ e, q ≤ e → e < i → sl e = sl0 (e + 1) ∧ lm e = lm0 (e + 1)) → (∀ e, i ≤ e → sl e = sl0 e ∧ lm e = lm0 e) →
      wY_remove_12 post (nI (N + 1)) mn px py pz un an bt bb f (nI i) sl lm a b c d := by
  intro f
  induction f with
  | zero => intro i sl lm _ _ h; omega
  | succ f ih =>
    intro i sl lm hqi hi hf h1 h2 h3
    have ep : nI (N + 1) - 1 = nI N := nI_pred N
    by_cases z : i = N
    · subst z
      exact br_t (by rw [ep]; exact nI_le (Nat.le_refl _) (by omega)) (nm_r ep (hp sl lm h1 h2))
    · refine br_f (by rw [ep]; exact nI_ge (by omega) (by omega)) (br_f (nI_ge (b := 6) (by omega) (by decide)) ?_)
      have v := vp_in_nI (show i < 7 by omega) (show 7 < 2 ^ 31 by omega)
      have v' : vp_in (nI i + 1) 7 := by rw [nI_1]; exact vp_in_nI (by omega) (by omega)
      have e1 : (nI i).toNatClampNeg = i := nI_clamp (by omega)
      have e2 : (nI i + 1).toNatClampNeg = i + 1 := by rw [nI_1]; exact nI_clamp (by omega)
      refine ⟨v', v, nm_e ⟨v', v, nm_e (nm_r (nI_1 i) ?_)⟩⟩
      rw [e1, e2]
      refine ih (i + 1) _ _ (by omega) (by omega) (by omega) (fun e he => ?_) (fun e he hl => ?_) (fun e he => ?_)
      · rw [pk_un (by omega), pk_un (by omega)]; exact h1 e he
      · by_cases y : e = i
        · subst y
          rw [pk_us, pk_us]; exact h3 (e + 1) (by omega)
        · rw [pk_un y, pk_un y]; exact h2 e he (by omega)
      · rw [pk_un (by omega), pk_un (by omega)]; exact h3 e (by omega)
end
section
/- the owed statements -/
/-- the same count of bounds; the component's planes are the reference's walls and bounds; all else is free -/
def i_Rel (k : Nat) (u : SX) (v : SY) : Prop := ∃ (N : Nat) (F L sl lm : Nat → Int32), mz_rel N F L sl lm ∧ mz_sx N F L u ∧ mz_sy N sl lm v
theorem i_up {k : Nat} {u : SX} {v : SY} (h : i_Rel k u v) : i_Rel (k + 5) u v := h
theorem i_vc0 : wpX_init (fun u => wpY_init (fun v => i_Rel 0 u v)) := by
  unfold wpX_init
  refine mz_XsetPlane _ 0 (by omega) 0 0 _ _ _ _ 445 10 ?_
  dsimp only
  refine mz_XsetPlane _ 1 (by omega) 0 0 _ _ _ _ 283 10 ?_
  dsimp only
  refine mz_XsetPlane _ 2 (by omega) 0 0 _ _ _ _ 373 10 ?_
  dsimp only
  refine mz_XsetPlane _ 3 (by omega) 0 0 _ _ _ _ 355 10 ?_
  dsimp only
  refine mz_XsetPlane _ 4 (by omega) 0 0 _ _ _ _ 365 10 ?_
  dsimp only
  refine mz_XsetPlane _ 5 (by omega) 0 0 _ _ _ _ 363 10 ?_
  dsimp only
  refine ⟨0, _, _, _, _, ⟨by omega, fun e he => ?_, fun i hi => absurd hi (Nat.not_lt_zero i)⟩, mz_sxI _ _ _, mz_syI _ _ _ _ _ _ _ _ _ _ _ _⟩
  have h : e = 0 ∨ e = 1 ∨ e = 2 ∨ e = 3 ∨ e = 4 ∨ e = 5 := by omega
  rcases h with h | h | h | h | h | h <;> subst h
  · exact (mz_plN (by omega)).trans ((mz_plN (by omega)).trans ((mz_plN (by omega)).trans ((mz_plN (by omega)).trans ((mz_plN (by omega)).trans (mz_plS.trans mz_w0)))))
  · exact (mz_plN (by omega)).trans ((mz_plN (by omega)).trans ((mz_plN (by omega)).trans ((mz_plN (by omega)).trans (mz_plS.trans mz_w1))))
  · exact (mz_plN (by omega)).trans ((mz_plN (by omega)).trans ((mz_plN (by omega)).trans (mz_plS.trans mz_w2)))
  · exact (mz_plN (by omega)).trans ((mz_plN (by omega)).trans (mz_plS.trans mz_w3))
  · exact (mz_plN (by omega)).trans (mz_plS.trans mz_w4)
  · exact mz_plS.trans mz_w5
theorem mz_fin {k N : Nat} {F L sl lm : Nat → Int32} (hr : mz_rel N F L sl lm) {u : SX} {v : SY} (hu : mz_sx N F L u) (hv : mz_sy N sl lm v) : i_Rel k u v := ⟨N, F, L, sl, lm, hr, hu, hv⟩
theorem i_vc_add {k : Nat} {u : SX} {v : SY} (I : i_Rel k u v) (hk : k + 5 ≤ 2560) (v1 : Int32) (v2 : Int32) : wpX_add (fun r u' => wpY_add (fun r' v' => r' = r ∧ i_Rel (k + 5) u' v') v v1 v2) u v1 v2 := by
  obtain ⟨N, F, L, sl, lm, hr, ⟨co, T, B, rfl⟩, ⟨mn, px, py, pz, un, an, bt, bb, a, b, c, d, rfl⟩⟩ := I
  have hN := hr.1
  have hR := mz_UR (w := -1) hr
  have j0 := mz_lc v2 (-40) (-40) (by decide)
  have j1 := mz_lc v2 40 40 (by decide)
  unfold wpX_add
  dsimp only
  refine mz_XisSlope _ v1 (fun h1 => br_f (by decide) ?_) (fun h1 => br_t rfl ?_)
  · refine mz_XisWithin _ v2 40 40 (by decide) (by decide) (fun h2 => br_f (by decide) ?_) (fun h2 => br_t rfl ?_)
    · by_cases z : N < 7
      · refine br_t (nI_lt (b := 7) z (by decide)) ?_
        obtain ⟨s, hs, rfl⟩ := mz_ofn (n := 729) h1.1 (by omega)
        rw [show (6 : Int32) + nI N = nI (6 + N) from nI_add 6 N]
        refine mz_XsetPlane _ (6 + N) (by omega) (nI N) co F L T B (nI s) v2 ?_
        refine nm_r (nI_1 N) ?_
        rw [nI_pred]
        unfold wpY_add
        dsimp only
        have v := vp_in_nI z (show 7 < 2 ^ 31 by omega)
        refine mz_YbadSlope _ _ (nI s) (fun _ => br_t rfl ?_) (fun q => absurd h1 q)
        refine br_f (fun w => by have := j0.1.mp w; omega) (br_t (j1.2.2.1.mpr h2.2) (br_t (nI_le (b := 6) (by omega) (by decide)) ?_))
        refine ⟨v, nm_e ⟨v, nm_e (nm_r (nI_1 N) ⟨rfl, ?_⟩)⟩⟩
        rw [nI_clamp (show N < 2 ^ 31 by omega)]
        exact mz_fin (mz_relA hr z (mz_dcR hs (by omega) (by omega)) (fun e he => mz_plN (by omega)) mz_plS) (mz_sxI _ _ _) (mz_syI _ _ _ _ _ _ _ _ _ _ _ _)
      · have e7 : N = 7 := by omega
        refine br_f (nI_nlt (b := 7) (by omega) (by omega)) ?_
        unfold wpY_add
        dsimp only
        refine mz_YbadSlope _ _ v1 (fun _ => br_t rfl ?_) (fun q => absurd h1 q)
        refine br_f (fun w => by have := j0.1.mp w; omega) (br_t (j1.2.2.1.mpr h2.2) (br_f (nI_ge (a := 6) (by omega) (by omega)) ?_))
        exact ⟨rfl, mz_fin hr (mz_sxI _ _ _) (mz_syI _ _ _ _ _ _ _ _ _ _ _ _)⟩
    · unfold wpY_add
      dsimp only
      refine mz_YbadSlope _ _ v1 (fun _ => br_t rfl ?_) (fun q => absurd h1 q)
      by_cases w : v2.toInt < -40
      · exact br_t (j0.1.mpr w) ⟨rfl, mz_fin hr (mz_sxI _ _ _) (mz_syI _ _ _ _ _ _ _ _ _ _ _ _)⟩
      · exact br_f (fun q => w (j0.1.mp q)) (br_f (fun q => h2 ⟨by omega, j1.2.2.1.mp q⟩) ⟨rfl, mz_fin hr (mz_sxI _ _ _) (mz_syI _ _ _ _ _ _ _ _ _ _ _ _)⟩)
  · unfold wpY_add
    dsimp only
    exact mz_YbadSlope _ _ v1 (fun q => absurd q h1) (fun _ => br_f (by decide) ⟨rfl, mz_fin hr (mz_sxI _ _ _) (mz_syI _ _ _ _ _ _ _ _ _ _ _ _)⟩)
theorem i_vc_remove {k : Nat} {u : SX} {v : SY} (I : i_Rel k u v) (hk : k + 5 ≤ 2560) (v1 : Int32) : wpX_remove (fun r u' => wpY_remove (fun r' v' => r' = r ∧ i_Rel (k + 5) u' v') v v1) u v1 := by
  obtain ⟨N, F, L, sl, lm, hr, ⟨co, T, B, rfl⟩, ⟨mn, px, py, pz, un, an, bt, bb, a, b, c, d, rfl⟩⟩ := I
  have hN := hr.1
  have hR := mz_UR (w := -1) hr
  unfold wpX_remove
  dsimp only
  refine mz_XisBound _ hN co F L T B v1 (fun h1 => br_f (by decide) ?_) (fun h1 => br_t rfl ?_)
  · obtain ⟨q, hq, rfl⟩ := mz_ofn (n := N) h1.1 h1.2
    obtain ⟨M, rfl⟩ : ∃ M, N = M + 1 := ⟨N - 1, by omega⟩
    refine nm_r (nI_pred M) (nm_r (nI_add 6 q) ?_)
    refine ⟨M + 1, mz_Xrem _ (c := M) (b := q) (by omega) (by omega) co F L T B (fun F' L' g1 g2 => ?_) (M + 1) q F L (by omega) (by omega) (by omega) (fun _ _ => rfl) (fun i h h' => by omega) (fun _ _ => rfl)⟩
    unfold wpY_remove
    dsimp only
    refine mz_Ybad _ hN mn px py pz un an bt bb sl lm a b c d (nI q) (fun _ => br_t rfl ?_) (fun w => absurd h1 w)
    refine ⟨M + 1, mz_Yrem _ (N := M) (q := q) (by omega) (by omega) mn px py pz un an bt bb sl lm a b c d (fun sl' lm' g3 g4 => ⟨rfl, ?_⟩) (M + 1) q sl lm (by omega) (by omega) (by omega) (fun _ _ => ⟨rfl, rfl⟩) (fun i h h' => by omega) (fun _ _ => ⟨rfl, rfl⟩)⟩
    exact mz_fin (mz_relD hr (by omega) g1 g2 g3 g4) (mz_sxI _ _ _) (mz_syI _ _ _ _ _ _ _ _ _ _ _ _)
  · unfold wpY_remove
    dsimp only
    exact mz_Ybad _ hN mn px py pz un an bt bb sl lm a b c d v1 (fun q => absurd q h1) (fun _ => br_f (by decide) ⟨rfl, mz_fin hr (mz_sxI _ _ _) (mz_syI _ _ _ _ _ _ _ _ _ _ _ _)⟩)
theorem i_vc_move {k : Nat} {u : SX} {v : SY} (I : i_Rel k u v) (hk : k + 5 ≤ 2560) (v1 : Int32) (v2 : Int32) : wpX_move (fun r u' => wpY_move (fun r' v' => r' = r ∧ i_Rel (k + 5) u' v') v v1 v2) u v1 v2 := by
  obtain ⟨N, F, L, sl, lm, hr, ⟨co, T, B, rfl⟩, ⟨mn, px, py, pz, un, an, bt, bb, a, b, c, d, rfl⟩⟩ := I
  have hN := hr.1
  have hR := mz_UR (w := -1) hr
  have j0 := mz_lc v2 (-40) (-40) (by decide)
  have j1 := mz_lc v2 40 40 (by decide)
  unfold wpX_move
  dsimp only
  refine mz_XisBound _ hN co F L T B v1 (fun h1 => br_f (by decide) ?_) (fun h1 => br_t rfl ?_)
  · refine mz_XisWithin _ v2 40 40 (by decide) (by decide) (fun h2 => br_f (by decide) ?_) (fun h2 => br_t rfl ?_)
    · obtain ⟨q, hq, rfl⟩ := mz_ofn (n := N) h1.1 h1.2
      have e6 : (6 : Int32) + nI q = nI (6 + q) := nI_add 6 q
      rw [e6, nI_clamp (show 6 + q < 2 ^ 31 by omega)]
      have v := vp_in_nI (show 6 + q < 14 by omega) (show 14 < 2 ^ 31 by omega)
      refine ⟨v, nm_e ⟨v, nm_e ?_⟩⟩
      unfold wpY_move
      dsimp only
      refine mz_Ybad _ hN mn px py pz un an bt bb sl lm a b c d (nI q) (fun _ => br_t rfl ?_) (fun w => absurd h1 w)
      have v' := vp_in_nI (show q < 7 by omega) (show 7 < 2 ^ 31 by omega)
      refine br_f (fun w => by have := j0.1.mp w; omega) (br_t (j1.2.2.1.mpr h2.2) ⟨v', nm_e ⟨v', nm_e ⟨?_, ?_⟩⟩⟩)
      · rw [nI_clamp (show q < 2 ^ 31 by omega)]
        have g := congrArg (fun p : mz_P => p.2.2.2) (hr.2.2 q hq).2
        exact (Int32.toInt_inj.mp g).symm
      · rw [nI_clamp (show q < 2 ^ 31 by omega)]
        exact mz_fin (mz_relM hr hq h2 (fun e he hne => mz_plM hne) mz_plL) (mz_sxI _ _ _) (mz_syI _ _ _ _ _ _ _ _ _ _ _ _)
    · unfold wpY_move
      dsimp only
      refine mz_Ybad _ hN mn px py pz un an bt bb sl lm a b c d v1 (fun _ => br_t rfl ?_) (fun q => absurd h1 q)
      by_cases w : v2.toInt < -40
      · exact br_t (j0.1.mpr w) ⟨rfl, mz_fin hr (mz_sxI _ _ _) (mz_syI _ _ _ _ _ _ _ _ _ _ _ _)⟩
      · exact br_f (fun q => w (j0.1.mp q)) (br_f (fun q => h2 ⟨by omega, j1.2.2.1.mp q⟩) ⟨rfl, mz_fin hr (mz_sxI _ _ _) (mz_syI _ _ _ _ _ _ _ _ _ _ _ _)⟩)
  · unfold wpY_move
    dsimp only
    exact mz_Ybad _ hN mn px py pz un an bt bb sl lm a b c d v1 (fun q => absurd q h1) (fun _ => br_f (by decide) ⟨rfl, mz_fin hr (mz_sxI _ _ _) (mz_syI _ _ _ _ _ _ _ _ _ _ _ _)⟩)
end
section
theorem i_vc_bounds {k : Nat} {u : SX} {v : SY} (I : i_Rel k u v) (hk : k + 5 ≤ 2560) : wpX_bounds (fun r => wpY_bounds (fun r' => r' = r ∧ i_Rel (k + 5) u v) v) u := by
  obtain ⟨N, F, L, sl, lm, hr, ⟨co, T, B, rfl⟩, ⟨mn, px, py, pz, un, an, bt, bb, a, b, c, d, rfl⟩⟩ := I
  have hN := hr.1
  have hR := mz_UR (w := -1) hr
  exact ⟨rfl, mz_fin hr (mz_sxI _ _ _) (mz_syI _ _ _ _ _ _ _ _ _ _ _ _)⟩
theorem i_vc_empty {k : Nat} {u : SX} {v : SY} (I : i_Rel k u v) (hk : k + 5 ≤ 2560) : wpX_empty (fun r u' => wpY_empty (fun r' v' => r' = r ∧ i_Rel (k + 5) u' v') v) u := by
  obtain ⟨N, F, L, sl, lm, hr, ⟨co, T, B, rfl⟩, ⟨mn, px, py, pz, un, an, bt, bb, a, b, c, d, rfl⟩⟩ := I
  have hN := hr.1
  have hR := mz_UR (w := -1) hr
  exact mz_Xempty _ hr co T B fun u hu => mz_Yempty _ hN mn px py pz un an bt bb sl lm a b c d hR fun v hv => ⟨rfl, mz_fin hr hu hv⟩
theorem i_vc_mostTop {k : Nat} {u : SX} {v : SY} (I : i_Rel k u v) (hk : k + 5 ≤ 2560) (v1 : Int32) : wpX_mostTop (fun r u' => wpY_mostTop (fun r' v' => r' = r ∧ i_Rel (k + 5) u' v') v v1) u v1 := by
  obtain ⟨N, F, L, sl, lm, hr, ⟨co, T, B, rfl⟩, ⟨mn, px, py, pz, un, an, bt, bb, a, b, c, d, rfl⟩⟩ := I
  have hN := hr.1
  have hR := mz_UR (w := -1) hr
  have hu := mz_UC hR
  have i0 := mz_lc v1 0 0 (by decide)
  have i1 := mz_lc v1 2 2 (by decide)
  unfold wpX_mostTop
  dsimp only
  by_cases h1 : 0 ≤ v1.toInt ∧ v1.toInt < 3
  · obtain ⟨ax, hx, rfl⟩ := mz_ofn (n := 3) h1.1 h1.2
    refine mz_Xrt _ (sg := 1) (Or.inl rfl) 1 mz_z1.symm hx hN co F L T B (mz_relR hr) (fun hE n T' B' => ?_) (fun x ra rb ex hrc n T' B' => ?_)
    · rw [mz_U1 hr] at hE
      dsimp only
      unfold wpY_mostTop
      dsimp only
      refine mz_YextT _ hN hx (sg := 1) (Or.inl rfl) 1 mz_z1.symm mn px py pz un an bt bb sl lm a b c d hR (fun _ v hv => ?_) (fun a' b' hrc' v hv => ?_)
      · obtain ⟨mn, px, py, pz, un, an, bt, bb, a, b, c, d, rfl⟩ := hv
        exact ⟨by decide, mz_fin hr (mz_sxI _ _ _) (mz_syI _ _ _ _ _ _ _ _ _ _ _ _)⟩
      · obtain ⟨t, ht, _⟩ := hrc'
        exact absurd ht (hE t)
    · rw [mz_U1 hr] at hrc
      dsimp only
      unfold wpY_mostTop
      dsimp only
      refine mz_YextT _ hN hx (sg := 1) (Or.inl rfl) 1 mz_z1.symm mn px py pz un an bt bb sl lm a b c d hR (fun hE v hv => ?_) (fun a' b' hrc' v hv => ?_)
      · obtain ⟨t, ht, _⟩ := hrc
        exact absurd ht (hE t)
      · obtain ⟨mn, px, py, pz, un, an, bt, bb, a, b, c, d, rfl⟩ := hv
        have e := mz_Rc1 (Or.inl rfl) hu.2 hrc hrc'
        exact ⟨by rw [ex, e.1], mz_fin hr (mz_sxI _ _ _) (mz_syI _ _ _ _ _ _ _ _ _ _ _ _)⟩
  · unfold wpX_reachTop
    dsimp only
    refine mz_XisAxis _ v1 (fun q => absurd q h1) (fun _ => br_t rfl ?_)
    unfold wpY_mostTop
    dsimp only
    by_cases w : v1.toInt < 0
    · exact br_t (i0.1.mpr w) (br_f (by decide) ⟨by decide, mz_fin hr (mz_sxI _ _ _) (mz_syI _ _ _ _ _ _ _ _ _ _ _ _)⟩)
    · exact br_f (fun q => w (i0.1.mp q)) (br_f (fun q => h1 ⟨by omega, by have := i1.2.2.1.mp q; omega⟩) (br_f (by decide) ⟨by decide, mz_fin hr (mz_sxI _ _ _) (mz_syI _ _ _ _ _ _ _ _ _ _ _ _)⟩))
theorem i_vc_mostBottom {k : Nat} {u : SX} {v : SY} (I : i_Rel k u v) (hk : k + 5 ≤ 2560) (v1 : Int32) : wpX_mostBottom (fun r u' => wpY_mostBottom (fun r' v' => r' = r ∧ i_Rel (k + 5) u' v') v v1) u v1 := by
  obtain ⟨N, F, L, sl, lm, hr, ⟨co, T, B, rfl⟩, ⟨mn, px, py, pz, un, an, bt, bb, a, b, c, d, rfl⟩⟩ := I
  have hN := hr.1
  have hR := mz_UR (w := -1) hr
  have hu := mz_UC hR
  have i0 := mz_lc v1 0 0 (by decide)
  have i1 := mz_lc v1 2 2 (by decide)
  unfold wpX_mostBottom
  dsimp only
  by_cases h1 : 0 ≤ v1.toInt ∧ v1.toInt < 3
  · obtain ⟨ax, hx, rfl⟩ := mz_ofn (n := 3) h1.1 h1.2
    refine mz_Xrb _ (sg := 1) (Or.inl rfl) 1 mz_z1.symm hx hN co F L T B (mz_relR hr) (fun hE n T' B' => ?_) (fun x ra rb ex hrc n T' B' => ?_)
    · rw [mz_U1 hr] at hE
      dsimp only
      unfold wpY_mostBottom
      dsimp only
      refine mz_YextB _ hN hx (sg := 1) (Or.inl rfl) 1 mz_z1.symm mn px py pz un an bt bb sl lm a b c d hR (fun _ v hv => ?_) (fun a' b' hrc' v hv => ?_)
      · obtain ⟨mn, px, py, pz, un, an, bt, bb, a, b, c, d, rfl⟩ := hv
        exact ⟨by decide, mz_fin hr (mz_sxI _ _ _) (mz_syI _ _ _ _ _ _ _ _ _ _ _ _)⟩
      · obtain ⟨t, ht, _⟩ := hrc'
        exact absurd ht (hE t)
    · rw [mz_U1 hr] at hrc
      dsimp only
      unfold wpY_mostBottom
      dsimp only
      refine mz_YextB _ hN hx (sg := 1) (Or.inl rfl) 1 mz_z1.symm mn px py pz un an bt bb sl lm a b c d hR (fun hE v hv => ?_) (fun a' b' hrc' v hv => ?_)
      · obtain ⟨t, ht, _⟩ := hrc
        exact absurd ht (hE t)
      · obtain ⟨mn, px, py, pz, un, an, bt, bb, a, b, c, d, rfl⟩ := hv
        have e := mz_Rc1 (Or.inl rfl) hu.2 hrc hrc'
        exact ⟨by rw [ex, e.2], mz_fin hr (mz_sxI _ _ _) (mz_syI _ _ _ _ _ _ _ _ _ _ _ _)⟩
  · unfold wpX_reachBottom
    dsimp only
    refine mz_XisAxis _ v1 (fun q => absurd q h1) (fun _ => br_t rfl ?_)
    unfold wpY_mostBottom
    dsimp only
    by_cases w : v1.toInt < 0
    · exact br_t (i0.1.mpr w) (br_t rfl ⟨by decide, mz_fin hr (mz_sxI _ _ _) (mz_syI _ _ _ _ _ _ _ _ _ _ _ _)⟩)
    · exact br_f (fun q => w (i0.1.mp q)) (br_f (fun q => h1 ⟨by omega, by have := i1.2.2.1.mp q; omega⟩) (br_t rfl ⟨by decide, mz_fin hr (mz_sxI _ _ _) (mz_syI _ _ _ _ _ _ _ _ _ _ _ _)⟩))
theorem i_vc_leastTop {k : Nat} {u : SX} {v : SY} (I : i_Rel k u v) (hk : k + 5 ≤ 2560) (v1 : Int32) : wpX_leastTop (fun r u' => wpY_leastTop (fun r' v' => r' = r ∧ i_Rel (k + 5) u' v') v v1) u v1 := by
  obtain ⟨N, F, L, sl, lm, hr, ⟨co, T, B, rfl⟩, ⟨mn, px, py, pz, un, an, bt, bb, a, b, c, d, rfl⟩⟩ := I
  have hN := hr.1
  have hR := mz_UR (w := -1) hr
  have hu := mz_UC hR
  have i0 := mz_lc v1 0 0 (by decide)
  have i1 := mz_lc v1 2 2 (by decide)
  unfold wpX_leastTop
  dsimp only
  by_cases h1 : 0 ≤ v1.toInt ∧ v1.toInt < 3
  · obtain ⟨ax, hx, rfl⟩ := mz_ofn (n := 3) h1.1 h1.2
    refine mz_Xrt _ (sg := -1) (Or.inr rfl) (-1) mz_zm1.symm hx hN co F L T B (mz_relR hr) (fun hE n T' B' => ?_) (fun x ra rb ex hrc n T' B' => ?_)
    · rw [mz_U1 hr] at hE
      dsimp only
      unfold wpY_leastTop
      dsimp only
      refine mz_YextT _ hN hx (sg := -1) (Or.inr rfl) (-1) mz_zm1.symm mn px py pz un an bt bb sl lm a b c d hR (fun _ v hv => ?_) (fun a' b' hrc' v hv => ?_)
      · obtain ⟨mn, px, py, pz, un, an, bt, bb, a, b, c, d, rfl⟩ := hv
        exact ⟨by decide, mz_fin hr (mz_sxI _ _ _) (mz_syI _ _ _ _ _ _ _ _ _ _ _ _)⟩
      · obtain ⟨t, ht, _⟩ := hrc'
        exact absurd ht (hE t)
    · rw [mz_U1 hr] at hrc
      dsimp only
      unfold wpY_leastTop
      dsimp only
      refine mz_YextT _ hN hx (sg := -1) (Or.inr rfl) (-1) mz_zm1.symm mn px py pz un an bt bb sl lm a b c d hR (fun hE v hv => ?_) (fun a' b' hrc' v hv => ?_)
      · obtain ⟨t, ht, _⟩ := hrc
        exact absurd ht (hE t)
      · obtain ⟨mn, px, py, pz, un, an, bt, bb, a, b, c, d, rfl⟩ := hv
        have e := mz_Rc1 (Or.inr rfl) hu.2 hrc hrc'
        exact ⟨by rw [ex, e.1], mz_fin hr (mz_sxI _ _ _) (mz_syI _ _ _ _ _ _ _ _ _ _ _ _)⟩
  · unfold wpX_reachTop
    dsimp only
    refine mz_XisAxis _ v1 (fun q => absurd q h1) (fun _ => br_t rfl ?_)
    unfold wpY_leastTop
    dsimp only
    by_cases w : v1.toInt < 0
    · exact br_t (i0.1.mpr w) (br_f (by decide) ⟨by decide, mz_fin hr (mz_sxI _ _ _) (mz_syI _ _ _ _ _ _ _ _ _ _ _ _)⟩)
    · exact br_f (fun q => w (i0.1.mp q)) (br_f (fun q => h1 ⟨by omega, by have := i1.2.2.1.mp q; omega⟩) (br_f (by decide) ⟨by decide, mz_fin hr (mz_sxI _ _ _) (mz_syI _ _ _ _ _ _ _ _ _ _ _ _)⟩))
theorem i_vc_leastBottom {k : Nat} {u : SX} {v : SY} (I : i_Rel k u v) (hk : k + 5 ≤ 2560) (v1 : Int32) : wpX_leastBottom (fun r u' => wpY_leastBottom (fun r' v' => r' = r ∧ i_Rel (k + 5) u' v') v v1) u v1 := by
  obtain ⟨N, F, L, sl, lm, hr, ⟨co, T, B, rfl⟩, ⟨mn, px, py, pz, un, an, bt, bb, a, b, c, d, rfl⟩⟩ := I
  have hN := hr.1
  have hR := mz_UR (w := -1) hr
  have hu := mz_UC hR
  have i0 := mz_lc v1 0 0 (by decide)
  have i1 := mz_lc v1 2 2 (by decide)
  unfold wpX_leastBottom
  dsimp only
  by_cases h1 : 0 ≤ v1.toInt ∧ v1.toInt < 3
  · obtain ⟨ax, hx, rfl⟩ := mz_ofn (n := 3) h1.1 h1.2
    refine mz_Xrb _ (sg := -1) (Or.inr rfl) (-1) mz_zm1.symm hx hN co F L T B (mz_relR hr) (fun hE n T' B' => ?_) (fun x ra rb ex hrc n T' B' => ?_)
    · rw [mz_U1 hr] at hE
      dsimp only
      unfold wpY_leastBottom
      dsimp only
      refine mz_YextB _ hN hx (sg := -1) (Or.inr rfl) (-1) mz_zm1.symm mn px py pz un an bt bb sl lm a b c d hR (fun _ v hv => ?_) (fun a' b' hrc' v hv => ?_)
      · obtain ⟨mn, px, py, pz, un, an, bt, bb, a, b, c, d, rfl⟩ := hv
        exact ⟨by decide, mz_fin hr (mz_sxI _ _ _) (mz_syI _ _ _ _ _ _ _ _ _ _ _ _)⟩
      · obtain ⟨t, ht, _⟩ := hrc'
        exact absurd ht (hE t)
    · rw [mz_U1 hr] at hrc
      dsimp only
      unfold wpY_leastBottom
      dsimp only
      refine mz_YextB _ hN hx (sg := -1) (Or.inr rfl) (-1) mz_zm1.symm mn px py pz un an bt bb sl lm a b c d hR (fun hE v hv => ?_) (fun a' b' hrc' v hv => ?_)
      · obtain ⟨t, ht, _⟩ := hrc
        exact absurd ht (hE t)
      · obtain ⟨mn, px, py, pz, un, an, bt, bb, a, b, c, d, rfl⟩ := hv
        have e := mz_Rc1 (Or.inr rfl) hu.2 hrc hrc'
        exact ⟨by rw [ex, e.2], mz_fin hr (mz_sxI _ _ _) (mz_syI _ _ _ _ _ _ _ _ _ _ _ _)⟩
  · unfold wpX_reachBottom
    dsimp only
    refine mz_XisAxis _ v1 (fun q => absurd q h1) (fun _ => br_t rfl ?_)
    unfold wpY_leastBottom
    dsimp only
    by_cases w : v1.toInt < 0
    · exact br_t (i0.1.mpr w) (br_t rfl ⟨by decide, mz_fin hr (mz_sxI _ _ _) (mz_syI _ _ _ _ _ _ _ _ _ _ _ _)⟩)
    · exact br_f (fun q => w (i0.1.mp q)) (br_f (fun q => h1 ⟨by omega, by have := i1.2.2.1.mp q; omega⟩) (br_t rfl ⟨by decide, mz_fin hr (mz_sxI _ _ _) (mz_syI _ _ _ _ _ _ _ _ _ _ _ _)⟩))
theorem i_vc_follows {k : Nat} {u : SX} {v : SY} (I : i_Rel k u v) (hk : k + 5 ≤ 2560) (v1 : Int32) (v2 : Int32) : wpX_follows (fun r u' => wpY_follows (fun r' v' => r' = r ∧ i_Rel (k + 5) u' v') v v1 v2) u v1 v2 := by
  obtain ⟨N, F, L, sl, lm, hr, ⟨co, T, B, rfl⟩, ⟨mn, px, py, pz, un, an, bt, bb, a, b, c, d, rfl⟩⟩ := I
  have hN := hr.1
  have hR := mz_UR (w := -1) hr
  have j0 := mz_lc v2 (-1000) (-1000) (by decide)
  have j1 := mz_lc v2 1000 1000 (by decide)
  unfold wpX_follows
  dsimp only
  refine mz_XisSlope _ v1 (fun h1 => br_f (by decide) ?_) (fun h1 => br_t rfl ?_)
  · refine mz_XisWithin _ v2 1000 1000 (by decide) (by decide) (fun h2 => br_f (by decide) ?_) (fun h2 => br_t rfl ?_)
    · obtain ⟨s, hs, rfl⟩ := mz_ofn (n := 729) h1.1 (by omega)
      exact mz_Xfol (fun r u' => wpY_follows (fun r' v' => r' = r ∧ i_Rel (k + 5) u' v') (nI N, mn, px, py, pz, un, an, bt, bb, sl, lm, a, b, c, d) (nI s) v2) hr hs v2 h2 co T B fun F' L' u hr' hu => mz_Yfol _ hN hs v2 h2 mn px py pz un an bt bb sl lm a b c d hR fun v hv => ⟨rfl, mz_fin hr' hu hv⟩
    · unfold wpY_follows
      dsimp only
      refine mz_YbadSlope _ _ v1 (fun _ => br_t rfl ?_) (fun q => absurd h1 q)
      by_cases w : v2.toInt < -1000
      · exact br_t (j0.1.mpr w) ⟨rfl, mz_fin hr (mz_sxI _ _ _) (mz_syI _ _ _ _ _ _ _ _ _ _ _ _)⟩
      · exact br_f (fun q => w (j0.1.mp q)) (br_f (fun q => h2 ⟨by omega, j1.2.2.1.mp q⟩) ⟨rfl, mz_fin hr (mz_sxI _ _ _) (mz_syI _ _ _ _ _ _ _ _ _ _ _ _)⟩)
  · unfold wpY_follows
    dsimp only
    exact mz_YbadSlope _ _ v1 (fun q => absurd q h1) (fun _ => br_f (by decide) ⟨rfl, mz_fin hr (mz_sxI _ _ _) (mz_syI _ _ _ _ _ _ _ _ _ _ _ _)⟩)
theorem i_vc_support {k : Nat} {u : SX} {v : SY} (I : i_Rel k u v) (hk : k + 5 ≤ 2560) (v1 : Int32) : wpX_support (fun r u' => wpY_support (fun r' v' => r' = r ∧ i_Rel (k + 5) u' v') v v1) u v1 := by
  obtain ⟨N, F, L, sl, lm, hr, ⟨co, T, B, rfl⟩, ⟨mn, px, py, pz, un, an, bt, bb, a, b, c, d, rfl⟩⟩ := I
  have hN := hr.1
  have hR := mz_UR (w := -1) hr
  have hu := mz_UC hR
  by_cases h1 : 0 ≤ v1.toInt ∧ v1.toInt ≤ 728
  · obtain ⟨s, hs, rfl⟩ := mz_ofn (n := 729) h1.1 (by omega)
    refine mz_Xsup _ hr hs co T B (fun hE u hu' => ?_) (fun r F' L' u hsup hr' hu' => ?_)
    · exact mz_Ysup _ hN hs mn px py pz un an bt bb sl lm a b c d hR (fun _ v hv => ⟨rfl, mz_fin hr hu' hv⟩) (fun r' v hsup hv => hsup.2.elim fun t ht => absurd ht.1 (hE t))
    · exact mz_Ysup _ hN hs mn px py pz un an bt bb sl lm a b c d hR (fun hE v hv => hsup.2.elim fun t ht => absurd ht.1 (hE t)) (fun r' v hsup' hv => ⟨by rw [mz_Sup1 hu.2 hsup hsup'], mz_fin hr' hu' hv⟩)
  · unfold wpX_support
    dsimp only
    refine mz_XisSlope _ v1 (fun q => absurd q h1) (fun _ => br_t rfl ?_)
    unfold wpY_support
    dsimp only
    exact mz_YbadSlope _ _ v1 (fun q => absurd q h1) (fun _ => br_f (by decide) ⟨rfl, mz_fin hr (mz_sxI _ _ _) (mz_syI _ _ _ _ _ _ _ _ _ _ _ _)⟩)
theorem i_vc_redundant {k : Nat} {u : SX} {v : SY} (I : i_Rel k u v) (hk : k + 5 ≤ 2560) (v1 : Int32) : wpX_redundant (fun r u' => wpY_redundant (fun r' v' => r' = r ∧ i_Rel (k + 5) u' v') v v1) u v1 := by
  obtain ⟨N, F, L, sl, lm, hr, ⟨co, T, B, rfl⟩, ⟨mn, px, py, pz, un, an, bt, bb, a, b, c, d, rfl⟩⟩ := I
  have hN := hr.1
  have hR := mz_UR (w := -1) hr
  by_cases h1 : 0 ≤ v1.toInt ∧ v1.toInt < N
  · obtain ⟨q, hq, rfl⟩ := mz_ofn (n := N) h1.1 h1.2
    exact mz_Xred _ hr hq co T B fun u hu => mz_Yred _ hN hq mn px py pz un an bt bb sl lm a b c d (hr.2.2 q hq).1 (mz_UR hr) fun v hv => ⟨rfl, mz_fin hr hu hv⟩
  · unfold wpX_redundant
    dsimp only
    refine mz_XisBound _ hN co F L T B v1 (fun q => absurd q h1) (fun _ => br_t rfl ?_)
    unfold wpY_redundant
    dsimp only
    exact mz_Ybad _ hN mn px py pz un an bt bb sl lm a b c d v1 (fun q => absurd q h1) (fun _ => br_f (by decide) ⟨rfl, mz_fin hr (mz_sxI _ _ _) (mz_syI _ _ _ _ _ _ _ _ _ _ _ _)⟩)
theorem i_vc_has {k : Nat} {u : SX} {v : SY} (I : i_Rel k u v) (hk : k + 5 ≤ 2560) (v1 : Int32) (v2 : Int32) (v3 : Int32) (v4 : Int32) : wpX_has (fun r => wpY_has (fun r' v' => r' = r ∧ i_Rel (k + 5) u v') v v1 v2 v3 v4) u v1 v2 v3 v4 := by
  obtain ⟨N, F, L, sl, lm, hr, ⟨co, T, B, rfl⟩, ⟨mn, px, py, pz, un, an, bt, bb, a, b, c, d, rfl⟩⟩ := I
  have hN := hr.1
  have hR := mz_UR (w := -1) hr
  refine mz_Xhas1 _ hr co T B v1 v2 v3 v4 (fun h => ?_) (fun h h' => ?_) (fun h h' => ?_)
  · exact mz_Yhas1 _ hN mn px py pz un an bt bb sl lm a b c d hR v1 v2 v3 v4 (fun _ => ⟨rfl, mz_fin hr (mz_sxI _ _ _) (mz_syI _ _ _ _ _ _ _ _ _ _ _ _)⟩) (fun q => absurd q h) (fun q => absurd q h)
  · exact mz_Yhas1 _ hN mn px py pz un an bt bb sl lm a b c d hR v1 v2 v3 v4 (fun q => absurd h q) (fun _ _ => ⟨rfl, mz_fin hr (mz_sxI _ _ _) (mz_syI _ _ _ _ _ _ _ _ _ _ _ _)⟩) (fun _ q => absurd q h')
  · exact mz_Yhas1 _ hN mn px py pz un an bt bb sl lm a b c d hR v1 v2 v3 v4 (fun q => absurd h q) (fun _ q => absurd h' q) (fun _ _ v hv => ⟨rfl, mz_fin hr (mz_sxI _ _ _) hv⟩)
theorem i_vc_shadow {k : Nat} {u : SX} {v : SY} (I : i_Rel k u v) (hk : k + 5 ≤ 2560) (v1 : Int32) (v2 : Int32) (v3 : Int32) (v4 : Int32) : wpX_shadow (fun r => wpY_shadow (fun r' v' => r' = r ∧ i_Rel (k + 5) u v') v v1 v2 v3 v4) u v1 v2 v3 v4 := by
  obtain ⟨N, F, L, sl, lm, hr, ⟨co, T, B, rfl⟩, ⟨mn, px, py, pz, un, an, bt, bb, a, b, c, d, rfl⟩⟩ := I
  have hN := hr.1
  have hR := mz_UR (w := -1) hr
  refine mz_Xsh1 _ hr co T B v1 v2 v3 v4 (fun h => ?_) (fun h h' => ?_) (fun h h' h2 => ?_) (fun h h' h2 => ?_)
  · exact mz_Ysh1 _ hN mn px py pz un an bt bb sl lm a b c d hR v1 v2 v3 v4 (fun _ => ⟨rfl, mz_fin hr (mz_sxI _ _ _) (mz_syI _ _ _ _ _ _ _ _ _ _ _ _)⟩) (fun q => absurd q h) (fun q => absurd q h) (fun q => absurd q h)
  · exact mz_Ysh1 _ hN mn px py pz un an bt bb sl lm a b c d hR v1 v2 v3 v4 (fun q => absurd h q) (fun _ _ => ⟨rfl, mz_fin hr (mz_sxI _ _ _) (mz_syI _ _ _ _ _ _ _ _ _ _ _ _)⟩) (fun _ q => absurd q h') (fun _ q => absurd q h')
  · exact mz_Ysh1 _ hN mn px py pz un an bt bb sl lm a b c d hR v1 v2 v3 v4 (fun q => absurd h q) (fun _ q => absurd h' q) (fun _ _ _ => ⟨rfl, mz_fin hr (mz_sxI _ _ _) (mz_syI _ _ _ _ _ _ _ _ _ _ _ _)⟩) (fun _ _ q => absurd q h2)
  · exact mz_Ysh1 _ hN mn px py pz un an bt bb sl lm a b c d hR v1 v2 v3 v4 (fun q => absurd h q) (fun _ q => absurd h' q) (fun _ _ q => absurd h2 q) (fun _ _ _ v hv => ⟨rfl, mz_fin hr (mz_sxI _ _ _) hv⟩)
theorem i_vc_shadowGrid {k : Nat} {u : SX} {v : SY} (I : i_Rel k u v) (hk : k + 5 ≤ 2560) (v1 : Int32) : wpX_shadowGrid (fun r => wpY_shadowGrid (fun r' v' => r' = r ∧ i_Rel (k + 5) u v') v v1) u v1 := by
  obtain ⟨N, F, L, sl, lm, hr, ⟨co, T, B, rfl⟩, ⟨mn, px, py, pz, un, an, bt, bb, a, b, c, d, rfl⟩⟩ := I
  have hN := hr.1
  have hR := mz_UR (w := -1) hr
  refine mz_Xgr _ hr co T B v1 (fun h => ?_) (fun h => ?_)
  · exact mz_Ygr _ hN mn px py pz un an bt bb sl lm a b c d hR v1 (fun _ => ⟨rfl, mz_fin hr (mz_sxI _ _ _) (mz_syI _ _ _ _ _ _ _ _ _ _ _ _)⟩) (fun q => absurd q h)
  · exact mz_Ygr _ hN mn px py pz un an bt bb sl lm a b c d hR v1 (fun q => absurd h q) (fun _ v hv => ⟨rfl, mz_fin hr (mz_sxI _ _ _) hv⟩)
theorem i_vc_single {k : Nat} {u : SX} {v : SY} (I : i_Rel k u v) (hk : k + 5 ≤ 2560) : wpX_single (fun r u' => wpY_single (fun r' v' => r' = r ∧ i_Rel (k + 5) u' v') v) u := by
  obtain ⟨N, F, L, sl, lm, hr, ⟨co, T, B, rfl⟩, ⟨mn, px, py, pz, un, an, bt, bb, a, b, c, d, rfl⟩⟩ := I
  have hN := hr.1
  have hR := mz_UR (w := -1) hr
  exact mz_Xsingle _ hr co T B fun u hu => mz_Ysingle _ hN mn px py pz un an bt bb sl lm a b c d hR fun v hv => ⟨rfl, mz_fin hr hu hv⟩
end
