/- values as both sides compute them -/
theorem mz_z0 : mz_z 0 = 0 := by decide
theorem mz_z1 : mz_z 1 = 1 := by decide
theorem mz_zm1 : mz_z (-1) = -1 := by decide
theorem mz_l0 : mz_l 0 = 0 := by decide
theorem mz_l1 : mz_l 1 = 1 := by decide
theorem mz_lm1 : mz_l (-1) = -1 := by decide
def mz_cr (ax : Nat) (p q : mz_P) : Int := if ax = 0 then mz_cx p q else if ax = 1 then mz_cy p q else mz_cz p q
def mz_tp (ax : Nat) (p q r : mz_P) : Int := if ax = 0 then mz_tx p q r else if ax = 1 then mz_ty p q r else mz_tz p q r
theorem mz_vcx (F L : Nat → Int32) (i j : Nat) : F (3 * i + 1) * F (3 * j + 2) - F (3 * i + 2) * F (3 * j + 1) = mz_z (mz_cr 0 (mz_pl F L i) (mz_pl F L j)) := by
  show _ = mz_z ((F (3 * i + 1)).toInt * (F (3 * j + 2)).toInt - (F (3 * i + 2)).toInt * (F (3 * j + 1)).toInt)
  rw [← mz_zs, ← mz_zm, ← mz_zm, mz_zt, mz_zt, mz_zt, mz_zt]
theorem mz_vcy (F L : Nat → Int32) (i j : Nat) : F (3 * i + 2) * F (3 * j) - F (3 * i) * F (3 * j + 2) = mz_z (mz_cr 1 (mz_pl F L i) (mz_pl F L j)) := by
  show _ = mz_z ((F (3 * i + 2)).toInt * (F (3 * j)).toInt - (F (3 * i)).toInt * (F (3 * j + 2)).toInt)
  rw [← mz_zs, ← mz_zm, ← mz_zm, mz_zt, mz_zt, mz_zt, mz_zt]
theorem mz_vcz (F L : Nat → Int32) (i j : Nat) : F (3 * i) * F (3 * j + 1) - F (3 * i + 1) * F (3 * j) = mz_z (mz_cr 2 (mz_pl F L i) (mz_pl F L j)) := by
  show _ = mz_z ((F (3 * i)).toInt * (F (3 * j + 1)).toInt - (F (3 * i + 1)).toInt * (F (3 * j)).toInt)
  rw [← mz_zs, ← mz_zm, ← mz_zm, mz_zt, mz_zt, mz_zt, mz_zt]
theorem mz_vdet (F L : Nat → Int32) (i j k : Nat) :
    0 + F (3 * i) * mz_z (mz_cr 0 (mz_pl F L j) (mz_pl F L k)) + F (3 * i + 1) * mz_z (mz_cr 1 (mz_pl F L j) (mz_pl F L k)) + F (3 * i + 2) * mz_z (mz_cr 2 (mz_pl F L j) (mz_pl F L k)) = mz_z (mz_det (mz_pl F L i) (mz_pl F L j) (mz_pl F L k)) := by
  show _ = mz_z ((F (3 * i)).toInt * mz_cr 0 (mz_pl F L j) (mz_pl F L k) + (F (3 * i + 1)).toInt * mz_cr 1 (mz_pl F L j) (mz_pl F L k) + (F (3 * i + 2)).toInt * mz_cr 2 (mz_pl F L j) (mz_pl F L k))
  rw [← mz_za, ← mz_za, ← mz_zm, ← mz_zm, ← mz_zm, mz_zt, mz_zt, mz_zt, Int32.zero_add]
theorem mz_vtop (F L : Nat → Int32) (i j k : Nat) : ∀ ax, ax < 3 →
    L i * mz_z (mz_cr ax (mz_pl F L j) (mz_pl F L k)) + L j * mz_z (mz_cr ax (mz_pl F L k) (mz_pl F L i)) + L k * mz_z (mz_cr ax (mz_pl F L i) (mz_pl F L j)) = mz_z (mz_tp ax (mz_pl F L i) (mz_pl F L j) (mz_pl F L k)) := by
  intro ax hx
  have e : mz_tp ax (mz_pl F L i) (mz_pl F L j) (mz_pl F L k) = (L i).toInt * mz_cr ax (mz_pl F L j) (mz_pl F L k) + (L j).toInt * mz_cr ax (mz_pl F L k) (mz_pl F L i) + (L k).toInt * mz_cr ax (mz_pl F L i) (mz_pl F L j) := by
    have : ax = 0 ∨ ax = 1 ∨ ax = 2 := by omega
    rcases this with z | z | z <;> subst z <;> rfl
  rw [e, ← mz_za, ← mz_za, ← mz_zm, ← mz_zm, ← mz_zm, mz_zt, mz_zt, mz_zt]
theorem mz_vvl (F L T B : Nat → Int32) (p c : Nat) : 0 + F (3 * p) * T (3 * c) + F (3 * p + 1) * T (3 * c + 1) + F (3 * p + 2) * T (3 * c + 2) = mz_z (mz_vl (mz_pl F L p) (mz_pl T B c)) := by
  show _ = mz_z ((F (3 * p)).toInt * (T (3 * c)).toInt + (F (3 * p + 1)).toInt * (T (3 * c + 1)).toInt + (F (3 * p + 2)).toInt * (T (3 * c + 2)).toInt)
  rw [← mz_za, ← mz_za, ← mz_zm, ← mz_zm, ← mz_zm, mz_zt, mz_zt, mz_zt, mz_zt, mz_zt, mz_zt, Int32.zero_add]
theorem mz_vkp {s t : mz_P} (hs : mz_R 1000 s) (ht : mz_Q t) : mz_z (mz_vl s t) ≤ mz_z (s.2.2.2 * t.2.2.2) ↔ mz_kp s t := by
  have h1 := mz_Qv hs ht
  have h2 := mz_Qd hs.2.2.2 ht
  exact mz_zle ⟨by omega, by omega⟩ ⟨by omega, by omega⟩
theorem mz_RD {D D' : Nat} {p : mz_P} (h : mz_R D p) (hD : D ≤ D') : mz_R D' p :=
  ⟨h.1, h.2.1, h.2.2.1, by have := h.2.2.2.1; omega, by have := h.2.2.2.2; omega⟩
/- the reference's three by three -/
theorem mz_v3 (a b c d : Nat → Int32) (i j k : Nat) : a i * (b j * c k - c j * b k) - b i * (a j * c k - c j * a k) + c i * (a j * b k - b j * a k) = mz_z (mz_det (mz_qa a b c d i) (mz_qa a b c d j) (mz_qa a b c d k)) := by
  simp only [mz_det, mz_cx, mz_cy, mz_cz, mz_qa, ← mz_za, ← mz_zm, ← mz_zs, mz_zt]
  grind
theorem mz_v30 (a b c d : Nat → Int32) (i j k : Nat) : d i * (b j * c k - c j * b k) - b i * (d j * c k - c j * d k) + c i * (d j * b k - b j * d k) = mz_z (mz_tx (mz_qa a b c d i) (mz_qa a b c d j) (mz_qa a b c d k)) := by
  simp only [mz_tx, mz_cx, mz_qa, ← mz_za, ← mz_zm, ← mz_zs, mz_zt]
  grind
theorem mz_v31 (a b c d : Nat → Int32) (i j k : Nat) : a i * (d j * c k - c j * d k) - d i * (a j * c k - c j * a k) + c i * (a j * d k - d j * a k) = mz_z (mz_ty (mz_qa a b c d i) (mz_qa a b c d j) (mz_qa a b c d k)) := by
  simp only [mz_ty, mz_cy, mz_qa, ← mz_za, ← mz_zm, ← mz_zs, mz_zt]
  grind
theorem mz_v32 (a b c d : Nat → Int32) (i j k : Nat) : a i * (b j * d k - d j * b k) - b i * (a j * d k - d j * a k) + d i * (a j * b k - b j * a k) = mz_z (mz_tz (mz_qa a b c d i) (mz_qa a b c d j) (mz_qa a b c d k)) := by
  simp only [mz_tz, mz_cz, mz_qa, ← mz_za, ← mz_zm, ← mz_zs, mz_zt]
  grind
theorem mz_vq (a b c d : Nat → Int32) (e : Nat) (x y z : Int) : a e * mz_z x + b e * mz_z y + c e * mz_z z = mz_z (mz_vl (mz_qa a b c d e) (x, y, z, 0)) := by
  simp only [mz_vl, mz_qa, ← mz_za, ← mz_zm, mz_zt]
/- signs -/
theorem mz_vsg {x : Int} (h : -384 ≤ x ∧ x ≤ 384) : (mz_z x < 0 ↔ x < 0) ∧ (mz_z x = 0 ↔ x = 0) := by
  refine ⟨?_, ?_⟩
  · rw [← mz_z0]; exact mz_zlt ⟨by omega, by omega⟩ ⟨by omega, by omega⟩
  · rw [← mz_z0]; exact mz_zeq ⟨by omega, by omega⟩ ⟨by omega, by omega⟩
theorem mz_sgT {x : Int} (h : x < 0) : mz_z (mz_sg x) = -1 := by rw [mz_sg, if_pos h]; decide
theorem mz_sgF {x : Int} (h : ¬ x < 0) : mz_z (mz_sg x) = 1 := by rw [mz_sg, if_neg h]; decide
