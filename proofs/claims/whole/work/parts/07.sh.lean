/- shadows: bounds -/
theorem mz_cob {D ax : Nat} {s : mz_P} (h : mz_R D s) : -4 ≤ mz_co ax s ∧ mz_co ax s ≤ 4 := by
  unfold mz_co
  split
  · exact h.1
  · split
    · exact h.2.1
    · exact h.2.2.1
theorem mz_lxb {ax : Nat} {p q : Int} (hp : -400 ≤ p ∧ p ≤ 400) (hq : -400 ≤ q ∧ q ≤ 400) :
    (-400 ≤ (mz_lx3 ax p q).1 ∧ (mz_lx3 ax p q).1 ≤ 400) ∧ (-400 ≤ (mz_lx3 ax p q).2.1 ∧ (mz_lx3 ax p q).2.1 ≤ 400) ∧ (-400 ≤ (mz_lx3 ax p q).2.2.1 ∧ (mz_lx3 ax p q).2.2.1 ≤ 400) := by
  unfold mz_lx3
  refine ⟨?_, ?_, ?_⟩
  · show -400 ≤ (if ax = 0 then (0 : Int) else p) ∧ (if ax = 0 then (0 : Int) else p) ≤ 400
    split <;> omega
  · show -400 ≤ (if ax = 0 then p else if ax = 1 then (0 : Int) else q) ∧ (if ax = 0 then p else if ax = 1 then (0 : Int) else q) ≤ 400
    split
    · omega
    · split <;> omega
  · show -400 ≤ (if ax = 2 then (0 : Int) else q) ∧ (if ax = 2 then (0 : Int) else q) ≤ 400
    split <;> omega
theorem mz_rsb {ax : Nat} {p q k : Int} {s : mz_P} (hs : mz_R 40 s) (hp : -400 ≤ p ∧ p ≤ 400) (hq : -400 ≤ q ∧ q ≤ 400) (hk : 1 ≤ k ∧ k ≤ 20) : -5600 ≤ mz_rs ax p q k s ∧ mz_rs ax p q k s ≤ 5600 := by
  have h := mz_lxb (ax := ax) hp hq
  have h0 := mz_mb 40 20 hs.2.2.2.1 hs.2.2.2.2 (show -((20 : Nat) : Int) ≤ k by omega) (show k ≤ ((20 : Nat) : Int) by omega)
  have h1 := mz_mb 4 400 hs.1.1 hs.1.2 h.1.1 h.1.2
  have h2 := mz_mb 4 400 hs.2.1.1 hs.2.1.2 h.2.1.1 h.2.1.2
  have h3 := mz_mb 4 400 hs.2.2.1.1 hs.2.2.1.2 h.2.2.1 h.2.2.2
  unfold mz_rs
  omega
theorem mz_ZIb {S Dn : mz_P → Prop} {own rest : mz_P → Int} {M lt lb ht hb : Int} (h : mz_ZI S Dn own rest M lt lb ht hb)
    (hb' : ∀ s, S s → (-4 ≤ own s ∧ own s ≤ 4) ∧ (-5600 ≤ rest s ∧ rest s ≤ 5600)) (hM : 0 ≤ M ∧ M ≤ 1000000) :
    (-1000000 ≤ lt ∧ lt ≤ 1000000) ∧ (1 ≤ lb ∧ lb ≤ 4) ∧ (-1000000 ≤ ht ∧ ht ≤ 1000000) ∧ (1 ≤ hb ∧ hb ≤ 4) := by
  obtain ⟨_, _, l2, _, u2⟩ := h
  have a : (-1000000 ≤ lt ∧ lt ≤ 1000000) ∧ (1 ≤ lb ∧ lb ≤ 4) := by
    rcases l2 with ⟨e1, e2⟩ | ⟨s, Ss, o, e1, e2⟩
    · omega
    · have := hb' s Ss; omega
  have b : (-1000000 ≤ ht ∧ ht ≤ 1000000) ∧ (1 ≤ hb ∧ hb ≤ 4) := by
    rcases u2 with ⟨e1, e2⟩ | ⟨s, Ss, o, e1, e2⟩
    · omega
    · have := hb' s Ss; omega
  exact ⟨a.1, a.2, b.1, b.2⟩
theorem mz_wlo (ax : Nat) (p q k : Int) (h : ax < 3) : mz_co ax (mz_wl (2 * ax + 1)) = -1 ∧ mz_rs ax p q k (mz_wl (2 * ax + 1)) = 10 * k := by
  have : ax = 0 ∨ ax = 1 ∨ ax = 2 := by omega
  rcases this with e | e | e <;> subst e <;> simp [mz_co, mz_rs, mz_wl, mz_lx3]
theorem mz_whi (ax : Nat) (p q k : Int) (h : ax < 3) : mz_co ax (mz_wl (2 * ax)) = 1 ∧ mz_rs ax p q k (mz_wl (2 * ax)) = 10 * k := by
  have : ax = 0 ∨ ax = 1 ∨ ax = 2 := by omega
  rcases this with e | e | e <;> subst e <;> simp [mz_co, mz_rs, mz_wl, mz_lx3]
/- the three questions of the loop, in numbers -/
theorem mz_q0 {o : Int} (h : -4 ≤ o ∧ o ≤ 4) : (mz_z o = 0 ↔ o = 0) ∧ (mz_z o ≤ 0 ↔ o ≤ 0) ∧ (0 ≤ mz_z o ↔ 0 ≤ o) := by
  rw [← mz_z0]
  exact ⟨mz_zeq ⟨by omega, by omega⟩ ⟨by omega, by omega⟩, mz_zle ⟨by omega, by omega⟩ ⟨by omega, by omega⟩, mz_zle ⟨by omega, by omega⟩ ⟨by omega, by omega⟩⟩
theorem mz_q1 {r : Int} (h : -5600 ≤ r ∧ r ≤ 5600) : 0 ≤ mz_z r ↔ 0 ≤ r := by
  rw [← mz_z0]
  exact mz_zle ⟨by omega, by omega⟩ ⟨by omega, by omega⟩
theorem mz_q2 {o r ht hb : Int} (ho : -4 ≤ o ∧ o ≤ 4) (hr : -5600 ≤ r ∧ r ≤ 5600) (h1 : -1000000 ≤ ht ∧ ht ≤ 1000000) (h2 : 1 ≤ hb ∧ hb ≤ 4) : mz_z ht * mz_z o ≤ mz_z r * mz_z hb ↔ ht * o ≤ r * hb := by
  have a := mz_mb 1000000 4 h1.1 h1.2 ho.1 ho.2
  have b := mz_mb 5600 4 hr.1 hr.2 (show -((4 : Nat) : Int) ≤ hb by omega) (show hb ≤ ((4 : Nat) : Int) by omega)
  rw [mz_zm, mz_zm]
  exact mz_zle ⟨by omega, by omega⟩ ⟨by omega, by omega⟩
theorem mz_q3 {o r lt lb : Int} (ho : -4 ≤ o ∧ o ≤ 4) (hr : -5600 ≤ r ∧ r ≤ 5600) (h1 : -1000000 ≤ lt ∧ lt ≤ 1000000) (h2 : 1 ≤ lb ∧ lb ≤ 4) : -mz_z r * mz_z lb ≤ mz_z lt * -mz_z o ↔ -r * lb ≤ lt * -o := by
  have a := mz_mb 1000000 4 h1.1 h1.2 (show -((4 : Nat) : Int) ≤ -o by omega) (show -o ≤ ((4 : Nat) : Int) by omega)
  have b := mz_mb 5600 4 (show -((5600 : Nat) : Int) ≤ -r by omega) (show -r ≤ ((5600 : Nat) : Int) by omega) (show -((4 : Nat) : Int) ≤ lb by omega) (show lb ≤ ((4 : Nat) : Int) by omega)
  rw [mz_zg, mz_zg, mz_zm, mz_zm]
  exact mz_zle ⟨by omega, by omega⟩ ⟨by omega, by omega⟩
theorem mz_q4 {lt lb ht hb : Int} (h1 : -1000000 ≤ lt ∧ lt ≤ 1000000) (h2 : 1 ≤ lb ∧ lb ≤ 4) (h3 : -1000000 ≤ ht ∧ ht ≤ 1000000) (h4 : 1 ≤ hb ∧ hb ≤ 4) : (mz_z lt * mz_z hb ≤ mz_z ht * mz_z lb ↔ lt * hb ≤ ht * lb) ∧ (mz_z ht * mz_z lb < mz_z lt * mz_z hb ↔ ht * lb < lt * hb) := by
  have a := mz_mb 1000000 4 h1.1 h1.2 (show -((4 : Nat) : Int) ≤ hb by omega) (show hb ≤ ((4 : Nat) : Int) by omega)
  have b := mz_mb 1000000 4 h3.1 h3.2 (show -((4 : Nat) : Int) ≤ lb by omega) (show lb ≤ ((4 : Nat) : Int) by omega)
  rw [mz_zm, mz_zm]
  exact ⟨mz_zle ⟨by omega, by omega⟩ ⟨by omega, by omega⟩, mz_zlt ⟨by omega, by omega⟩ ⟨by omega, by omega⟩⟩
/- counting over a grid -/
def mz_row (f : Nat → Nat) : Nat → Nat
  | 0 => 0
  | q + 1 => mz_row f q + f q
theorem mz_rowb {f : Nat → Nat} (h : ∀ q, f q ≤ 1) : ∀ n, mz_row f n ≤ n
  | 0 => Nat.le_refl 0
  | n + 1 => by
    have a := mz_rowb h n
    have b := h n
    show mz_row f n + f n ≤ n + 1
    omega
/- counting down to the greatest common divisor -/
theorem mz_dv {t d : Int} (ht : -3840 ≤ t ∧ t ≤ 3840) (hd : 1 ≤ d ∧ d ≤ 384) : (mz_z t - mz_z t / mz_z d * mz_z d = 0 ↔ d ∣ t) := by
  rw [mz_zr ⟨by omega, by omega⟩ ⟨by omega, by omega⟩ (by omega), ← mz_z0]
  have b1 := Int.tmod_lt_of_pos t (show 0 < d by omega)
  have b2 := Int.lt_tmod_of_pos t (show 0 < d by omega)
  rw [mz_zeq ⟨by omega, by omega⟩ ⟨by omega, by omega⟩]
  exact ⟨Int.dvd_of_tmod_eq_zero, Int.tmod_eq_zero_of_dvd⟩
