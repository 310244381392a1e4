/- planes (a, b, c, d) and points (x, y, z, under); the corner of three planes; the set of corners of a set of planes -/
abbrev mz_P : Type := Int × Int × Int × Int
def mz_cx (p q : mz_P) : Int := p.2.1 * q.2.2.1 - p.2.2.1 * q.2.1
def mz_cy (p q : mz_P) : Int := p.2.2.1 * q.1 - p.1 * q.2.2.1
def mz_cz (p q : mz_P) : Int := p.1 * q.2.1 - p.2.1 * q.1
def mz_det (p q r : mz_P) : Int := p.1 * mz_cx q r + p.2.1 * mz_cy q r + p.2.2.1 * mz_cz q r
def mz_tx (p q r : mz_P) : Int := p.2.2.2 * mz_cx q r + q.2.2.2 * mz_cx r p + r.2.2.2 * mz_cx p q
def mz_ty (p q r : mz_P) : Int := p.2.2.2 * mz_cy q r + q.2.2.2 * mz_cy r p + r.2.2.2 * mz_cy p q
def mz_tz (p q r : mz_P) : Int := p.2.2.2 * mz_cz q r + q.2.2.2 * mz_cz r p + r.2.2.2 * mz_cz p q
def mz_sg (x : Int) : Int := if x < 0 then -1 else 1
def mz_cor (p q r : mz_P) : mz_P := (mz_sg (mz_det p q r) * mz_tx p q r, mz_sg (mz_det p q r) * mz_ty p q r, mz_sg (mz_det p q r) * mz_tz p q r, mz_sg (mz_det p q r) * mz_det p q r)
def mz_vl (s t : mz_P) : Int := s.1 * t.1 + s.2.1 * t.2.1 + s.2.2.1 * t.2.2.1
def mz_kp (s t : mz_P) : Prop := mz_vl s t ≤ s.2.2.2 * t.2.2.2
def mz_C (S : mz_P → Prop) (t : mz_P) : Prop := ∃ p q r, S p ∧ S q ∧ S r ∧ mz_det p q r ≠ 0 ∧ t = mz_cor p q r ∧ ∀ s, S s → mz_kp s t
/- three planes in another order: the same corner -/
theorem mz_det12 (p q r : mz_P) : mz_det q p r = - mz_det p q r := by
  simp only [mz_det, mz_cx, mz_cy, mz_cz]; grind
theorem mz_det23 (p q r : mz_P) : mz_det p r q = - mz_det p q r := by
  simp only [mz_det, mz_cx, mz_cy, mz_cz]; grind
theorem mz_sgn {x : Int} (h : x ≠ 0) : mz_sg (-x) = - mz_sg x := by
  unfold mz_sg
  by_cases h1 : x < 0
  · rw [if_neg (by omega), if_pos h1]; rfl
  · rw [if_pos (by omega), if_neg h1]
theorem mz_sw12 {p q r t : mz_P} (h : mz_det p q r ≠ 0 ∧ t = mz_cor p q r) : mz_det q p r ≠ 0 ∧ t = mz_cor q p r := by
  have e1 : mz_tx q p r = - mz_tx p q r := by simp only [mz_tx, mz_cx]; grind
  have e2 : mz_ty q p r = - mz_ty p q r := by simp only [mz_ty, mz_cy]; grind
  have e3 : mz_tz q p r = - mz_tz p q r := by simp only [mz_tz, mz_cz]; grind
  refine ⟨by rw [mz_det12 p q r]; have := h.1; omega, ?_⟩
  rw [h.2]
  unfold mz_cor
  rw [mz_det12 p q r, mz_sgn h.1, e1, e2, e3]
  simp only [Int.neg_mul_neg]
theorem mz_sw23 {p q r t : mz_P} (h : mz_det p q r ≠ 0 ∧ t = mz_cor p q r) : mz_det p r q ≠ 0 ∧ t = mz_cor p r q := by
  have e1 : mz_tx p r q = - mz_tx p q r := by simp only [mz_tx, mz_cx]; grind
  have e2 : mz_ty p r q = - mz_ty p q r := by simp only [mz_ty, mz_cy]; grind
  have e3 : mz_tz p r q = - mz_tz p q r := by simp only [mz_tz, mz_cz]; grind
  refine ⟨by rw [mz_det23 p q r]; have := h.1; omega, ?_⟩
  rw [h.2]
  unfold mz_cor
  rw [mz_det23 p q r, mz_sgn h.1, e1, e2, e3]
  simp only [Int.neg_mul_neg]
theorem mz_dd12 (p r : mz_P) : mz_det p p r = 0 := by simp only [mz_det, mz_cx, mz_cy, mz_cz]; grind
theorem mz_dd23 (p r : mz_P) : mz_det r p p = 0 := by simp only [mz_det, mz_cx, mz_cy, mz_cz]; grind
theorem mz_dd13 (p r : mz_P) : mz_det p r p = 0 := by simp only [mz_det, mz_cx, mz_cy, mz_cz]; grind
/- the set of the planes with a good number -/
def mz_S (pl : Nat → mz_P) (g : Nat → Prop) (p : mz_P) : Prop := ∃ i, g i ∧ pl i = p
theorem mz_Cix {pl : Nat → mz_P} {g : Nat → Prop} {t : mz_P} (h : mz_C (mz_S pl g) t) :
    ∃ i j k, i < j ∧ j < k ∧ g i ∧ g j ∧ g k ∧ mz_det (pl i) (pl j) (pl k) ≠ 0 ∧ t = mz_cor (pl i) (pl j) (pl k) := by
  obtain ⟨_, _, _, ⟨i, gi, rfl⟩, ⟨j, gj, rfl⟩, ⟨k, gk, rfl⟩, hd, ht, _⟩ := h
  have hij : i ≠ j := by intro e; subst e; exact hd (mz_dd12 _ _)
  have hjk : j ≠ k := by intro e; subst e; exact hd (mz_dd23 _ _)
  have hik : i ≠ k := by intro e; subst e; exact hd (mz_dd13 _ _)
  have H := And.intro hd ht
  rcases Nat.lt_or_gt_of_ne hij with a | a <;> rcases Nat.lt_or_gt_of_ne hjk with b | b <;> rcases Nat.lt_or_gt_of_ne hik with c | c
  · exact ⟨i, j, k, a, b, gi, gj, gk, H⟩
  · omega
  · exact ⟨i, k, j, c, b, gi, gk, gj, mz_sw23 H⟩
  · exact ⟨k, i, j, c, a, gk, gi, gj, mz_sw12 (mz_sw23 H)⟩
  · exact ⟨j, i, k, a, c, gj, gi, gk, mz_sw12 H⟩
  · exact ⟨j, k, i, b, c, gj, gk, gi, mz_sw23 (mz_sw12 H)⟩
  · omega
  · exact ⟨k, j, i, b, a, gk, gj, gi, mz_sw12 (mz_sw23 (mz_sw12 H))⟩
theorem mz_Cof {pl : Nat → mz_P} {g : Nat → Prop} {i j k : Nat} (gi : g i) (gj : g j) (gk : g k)
    (hd : mz_det (pl i) (pl j) (pl k) ≠ 0) (hk : ∀ e, g e → mz_kp (pl e) (mz_cor (pl i) (pl j) (pl k))) :
    mz_C (mz_S pl g) (mz_cor (pl i) (pl j) (pl k)) :=
  ⟨_, _, _, ⟨i, gi, rfl⟩, ⟨j, gj, rfl⟩, ⟨k, gk, rfl⟩, hd, rfl, fun _ ⟨e, ge, he⟩ => he ▸ hk e ge⟩
theorem mz_Cext {S S' : mz_P → Prop} (h : ∀ p, S p ↔ S' p) (t : mz_P) : mz_C S t ↔ mz_C S' t := by
  have e : S = S' := funext fun p => propext (h p)
  rw [e]
theorem mz_un {p q r : mz_P} (h : mz_det p q r ≠ 0) : 1 ≤ (mz_cor p q r).2.2.2 := by
  show 1 ≤ mz_sg (mz_det p q r) * mz_det p q r
  unfold mz_sg
  by_cases h1 : mz_det p q r < 0
  · rw [if_pos h1]; omega
  · rw [if_neg h1]; omega
theorem mz_Cun {S : mz_P → Prop} {t : mz_P} (h : mz_C S t) : 1 ≤ t.2.2.2 := by
  obtain ⟨p, q, r, _, _, _, hd, ht, _⟩ := h
  rw [ht]; exact mz_un hd
/- the greatest value at the corners -/
def mz_Bst (C : mz_P → Prop) (s : mz_P) (T B : Int) : Prop := ∃ t, C t ∧ T = mz_vl s t ∧ B = t.2.2.2 ∧ ∀ t', C t' → mz_vl s t' * B ≤ T * t'.2.2.2
theorem mz_tr {a b c d e f : Int} (hb : 0 ≤ b) (hd : 0 < d) (hf : 0 ≤ f) (h1 : a * d ≤ c * b) (h2 : c * f ≤ e * d) : a * f ≤ e * b := by
  have g1 := Int.mul_le_mul_of_nonneg_right h1 hf
  have g2 := Int.mul_le_mul_of_nonneg_right h2 hb
  have e1 : a * d * f = a * f * d := by grind
  have e2 : c * b * f = c * f * b := by grind
  have e3 : e * d * b = e * b * d := by grind
  rw [e1, e2] at g1
  rw [e3] at g2
  exact Int.le_of_mul_le_mul_right (Int.le_trans g1 g2) hd
theorem mz_keep {C : mz_P → Prop} {s : mz_P} {T B : Int} (d : Int) (hu : ∀ t, C t → 1 ≤ t.2.2.2) (hb : mz_Bst C s T B) :
    (∀ t, C t → mz_vl s t ≤ d * t.2.2.2) ↔ T ≤ d * B := by
  obtain ⟨t, ht, rfl, rfl, hm⟩ := hb
  refine ⟨fun h => h t ht, fun h t' ht' => ?_⟩
  have u := hu t ht
  have u' := hu t' ht'
  have := mz_tr (a := mz_vl s t') (b := t'.2.2.2) (c := mz_vl s t) (d := t.2.2.2) (e := d) (f := 1) (by omega) (by omega) (by omega) (hm t' ht') (by omega)
  omega
/- the least whole d -/
theorem mz_sup {T B r r' : Int} (hB : 0 < B) (h1 : T ≤ r * B) (h2 : (r - 1) * B < T) (h3 : T ≤ r' * B) (h4 : (r' - 1) * B < T) : r = r' := by
  rcases Int.lt_trichotomy r r' with h | h | h
  · have := Int.mul_le_mul_of_nonneg_right (show r ≤ r' - 1 by omega) (Int.le_of_lt hB)
    omega
  · exact h
  · have := Int.mul_le_mul_of_nonneg_right (show r' ≤ r - 1 by omega) (Int.le_of_lt hB)
    omega
/- fractions in lowest terms -/
def mz_g (a b : Int) : Int := (Int.gcd a b : Int)
theorem mz_red {a b c d : Int} (hb : 0 < b) (hd : 0 < d) (h : a * d = c * b) :
    a.tdiv (mz_g a b) = c.tdiv (mz_g c d) ∧ b.tdiv (mz_g a b) = d.tdiv (mz_g c d) := by
  obtain ⟨m, rfl⟩ := Int.eq_ofNat_of_zero_le (Int.le_of_lt hb)
  obtain ⟨n, rfl⟩ := Int.eq_ofNat_of_zero_le (Int.le_of_lt hd)
  have hm : m ≠ 0 := by omega
  have hn : n ≠ 0 := by omega
  have e : mkRat a m = mkRat c n := (Rat.mkRat_eq_iff hm hn).mpr h
  have e1 := congrArg Rat.num e
  have e2 := congrArg Rat.den e
  rw [Rat.num_mkRat, Rat.num_mkRat, if_neg hm, if_neg hn] at e1
  rw [Rat.den_mkRat, Rat.den_mkRat, if_neg hm, if_neg hn] at e2
  have k1 : ((m.gcd a.natAbs : Nat) : Int) = mz_g a m := congrArg (fun x : Nat => (x : Int)) (Nat.gcd_comm m a.natAbs)
  have k2 : ((n.gcd c.natAbs : Nat) : Int) = mz_g c n := congrArg (fun x : Nat => (x : Int)) (Nat.gcd_comm n c.natAbs)
  rw [k1, k2] at e1
  have e2' : ((m / m.gcd a.natAbs : Nat) : Int) = ((n / n.gcd c.natAbs : Nat) : Int) := congrArg (fun x : Nat => (x : Int)) e2
  rw [Int.natCast_ediv, Int.natCast_ediv, k1, k2] at e2'
  have q1 : a.tdiv (mz_g a m) = a / mz_g a m := Int.tdiv_eq_ediv_of_dvd (Int.gcd_dvd_left a m)
  have q2 : c.tdiv (mz_g c n) = c / mz_g c n := Int.tdiv_eq_ediv_of_dvd (Int.gcd_dvd_left c n)
  have q3 : (m : Int).tdiv (mz_g a m) = m / mz_g a m := Int.tdiv_eq_ediv_of_dvd (Int.gcd_dvd_right a m)
  have q4 : (n : Int).tdiv (mz_g c n) = n / mz_g c n := Int.tdiv_eq_ediv_of_dvd (Int.gcd_dvd_right c n)
  rw [q1, q2, q3, q4]
  exact ⟨e1, e2'⟩
/- Euclid in a fixed number of steps -/
def mz_eu : Nat → Nat → Nat → Nat
  | 0, p, _ => p
  | n + 1, p, q => if 0 < q then mz_eu n q (p % q) else mz_eu n p q
theorem mz_eu0 (n p : Nat) : mz_eu n p 0 = p := by
  induction n with
  | zero => rfl
  | succ n ih => unfold mz_eu; rw [if_neg (by omega)]; exact ih
theorem mz_eug : ∀ m n p q : Nat, q < 2 ^ m → 2 * m ≤ n → mz_eu n p q = Nat.gcd p q := by
  intro m
  induction m with
  | zero =>
    intro n p q hq _
    have : q = 0 := by omega
    subst this
    rw [mz_eu0, Nat.gcd_zero_right]
  | succ m ih =>
    intro n p q hq hn
    rcases Nat.eq_zero_or_pos q with h | h
    · subst h; rw [mz_eu0, Nat.gcd_zero_right]
    · obtain ⟨n, rfl⟩ : ∃ n', n = n' + 2 := ⟨n - 2, by omega⟩
      have e1 : mz_eu (n + 2) p q = mz_eu (n + 1) q (p % q) := by
        show (if 0 < q then mz_eu (n + 1) q (p % q) else mz_eu (n + 1) p q) = _
        rw [if_pos h]
      have g1 : Nat.gcd p q = Nat.gcd q (p % q) := by rw [Nat.gcd_comm p q, Nat.gcd_rec q p, Nat.gcd_comm]
      rw [e1, g1]
      generalize hr : p % q = r
      have hrq : r < q := by rw [← hr]; exact Nat.mod_lt _ h
      rcases Nat.eq_zero_or_pos r with h0 | h0
      · subst h0; rw [mz_eu0, Nat.gcd_zero_right]
      · have e2 : mz_eu (n + 1) q r = mz_eu n r (q % r) := by
          show (if 0 < r then mz_eu n r (q % r) else mz_eu n q r) = _
          rw [if_pos h0]
        have g2 : Nat.gcd q r = Nat.gcd r (q % r) := by rw [Nat.gcd_comm q r, Nat.gcd_rec r q, Nat.gcd_comm]
        rw [e2, g2]
        apply ih
        · have a1 := Nat.mod_lt q h0
          have a2 : q % r + r ≤ q := by
            have := Nat.div_add_mod q r
            have b : 1 ≤ q / r := (Nat.one_le_div_iff h0).mpr (Nat.le_of_lt hrq)
            have c := Nat.mul_le_mul_left r b
            omega
          rw [Nat.pow_succ] at hq
          omega
        · omega
