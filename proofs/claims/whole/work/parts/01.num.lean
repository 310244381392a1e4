/- numbers: an Int32 or Int64 as the image of an Int; +, -, * need no bounds, comparisons and divisions do -/
def mz_z (x : Int) : Int32 := Int32.ofInt x
def mz_l (x : Int) : Int64 := Int64.ofInt x
theorem mz_zt (x : Int32) : mz_z x.toInt = x := Int32.ofInt_toInt x
theorem mz_lt' (x : Int64) : mz_l x.toInt = x := Int64.ofInt_toInt x
theorem mz_zn (n : Nat) : mz_z (n : Int) = nI n := Int32.ofInt_eq_ofNat
theorem mz_ln (n : Nat) : mz_l (n : Int) = lN n := Int64.ofInt_eq_ofNat
theorem mz_za (a b : Int) : mz_z a + mz_z b = mz_z (a + b) := (Int32.ofInt_add a b).symm
theorem mz_zs (a b : Int) : mz_z a - mz_z b = mz_z (a - b) := (Int32.ofInt_sub a b).symm
theorem mz_zm (a b : Int) : mz_z a * mz_z b = mz_z (a * b) := (Int32.ofInt_mul a b).symm
theorem mz_zg (a : Int) : - mz_z a = mz_z (-a) := (Int32.ofInt_neg a).symm
theorem mz_la (a b : Int) : mz_l a + mz_l b = mz_l (a + b) := (Int64.ofInt_add a b).symm
theorem mz_ls (a b : Int) : mz_l a - mz_l b = mz_l (a - b) := (Int64.ofInt_sub a b).symm
theorem mz_lm (a b : Int) : mz_l a * mz_l b = mz_l (a * b) := (Int64.ofInt_mul a b).symm
theorem mz_lg (a : Int) : - mz_l a = mz_l (-a) := (Int64.ofInt_neg a).symm
def mz_B (x : Int) : Prop := -2147483648 ≤ x ∧ x < 2147483648
def mz_BL (x : Int) : Prop := -9223372036854775808 ≤ x ∧ x < 9223372036854775808
theorem mz_ti {x : Int} (h : mz_B x) : (mz_z x).toInt = x := Int32.toInt_ofInt_of_le (by have := h.1; omega) (by have := h.2; omega)
theorem mz_tiL {x : Int} (h : mz_BL x) : (mz_l x).toInt = x := Int64.toInt_ofInt_of_le (by have := h.1; omega) (by have := h.2; omega)
theorem mz_zle {a b : Int} (ha : mz_B a) (hb : mz_B b) : mz_z a ≤ mz_z b ↔ a ≤ b := by
  rw [Int32.le_iff_toInt_le, mz_ti ha, mz_ti hb]
theorem mz_zlt {a b : Int} (ha : mz_B a) (hb : mz_B b) : mz_z a < mz_z b ↔ a < b := by
  rw [Int32.lt_iff_toInt_lt, mz_ti ha, mz_ti hb]
theorem mz_zeq {a b : Int} (ha : mz_B a) (hb : mz_B b) : mz_z a = mz_z b ↔ a = b := by
  rw [← Int32.toInt_inj, mz_ti ha, mz_ti hb]
theorem mz_lle {a b : Int} (ha : mz_BL a) (hb : mz_BL b) : mz_l a ≤ mz_l b ↔ a ≤ b := by
  rw [Int64.le_iff_toInt_le, mz_tiL ha, mz_tiL hb]
theorem mz_llt {a b : Int} (ha : mz_BL a) (hb : mz_BL b) : mz_l a < mz_l b ↔ a < b := by
  rw [Int64.lt_iff_toInt_lt, mz_tiL ha, mz_tiL hb]
theorem mz_leq {a b : Int} (ha : mz_BL a) (hb : mz_BL b) : mz_l a = mz_l b ↔ a = b := by
  rw [← Int64.toInt_inj, mz_tiL ha, mz_tiL hb]
theorem mz_zL {x : Int} (h : mz_B x) : (mz_z x).toInt64 = mz_l x := by
  have e : (mz_z x).toInt64.toInt = (mz_z x).toInt := Int32.toInt_toInt64 _
  rw [mz_ti h] at e
  rw [← mz_lt' (mz_z x).toInt64, e]
/- truncated division -/
theorem mz_zd {a b : Int} (ha : mz_B a) (hb : mz_B b) (h1 : b ≠ -1) : mz_z a / mz_z b = mz_z (a.tdiv b) := by
  have hb' : mz_z b ≠ -1 := by
    intro e
    have := congrArg Int32.toInt e
    rw [mz_ti hb] at this
    exact h1 (this.trans (by decide))
  have e := Int32.toInt_div_of_ne_right (mz_z a) (mz_z b) hb'
  rw [mz_ti ha, mz_ti hb] at e
  rw [← mz_zt (mz_z a / mz_z b), e]
theorem mz_ld {a b : Int} (ha : mz_BL a) (hb : mz_BL b) (h1 : b ≠ -1) : mz_l a / mz_l b = mz_l (a.tdiv b) := by
  have hb' : mz_l b ≠ -1 := by
    intro e
    have := congrArg Int64.toInt e
    rw [mz_tiL hb] at this
    exact h1 (this.trans (by decide))
  have e := Int64.toInt_div_of_ne_right (mz_l a) (mz_l b) hb'
  rw [mz_tiL ha, mz_tiL hb] at e
  rw [← mz_lt' (mz_l a / mz_l b), e]
/- the remainder as it is printed: x - x / y * y -/
theorem mz_zr {a b : Int} (ha : mz_B a) (hb : mz_B b) (h1 : b ≠ -1) : mz_z a - mz_z a / mz_z b * mz_z b = mz_z (a.tmod b) := by
  rw [mz_zd ha hb h1, mz_zm, mz_zs, Int.tmod_def, Int.mul_comm]
theorem mz_lr {a b : Int} (ha : mz_BL a) (hb : mz_BL b) (h1 : b ≠ -1) : mz_l a - mz_l a / mz_l b * mz_l b = mz_l (a.tmod b) := by
  rw [mz_ld ha hb h1, mz_lm, mz_ls, Int.tmod_def, Int.mul_comm]
/- products of bounded numbers -/
theorem mz_mb {a b : Int} (A B : Nat) (h1 : -(A : Int) ≤ a) (h2 : a ≤ A) (h3 : -(B : Int) ≤ b) (h4 : b ≤ B) : -((A * B : Nat) : Int) ≤ a * b ∧ a * b ≤ ((A * B : Nat) : Int) := by
  have hA : a.natAbs ≤ A := by omega
  have hB : b.natAbs ≤ B := by omega
  have h := Nat.mul_le_mul hA hB
  rw [← Int.natAbs_mul] at h
  generalize a * b = c at *
  generalize A * B = N at *
  omega
