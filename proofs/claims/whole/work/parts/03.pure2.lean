/- the greatest common divisor, found from above -/
theorem mz_cd {t b d : Int} (hb : 0 < b) (h1 : 1 ≤ d) (hd : d ∣ t) (hd' : d ∣ b) (hm : ∀ e, d < e → e ≤ b → ¬ (e ∣ t ∧ e ∣ b)) : d = mz_g t b := by
  have hg : mz_g t b ≤ b := Int.gcd_le_right t hb
  have hdg : d ∣ mz_g t b := Int.dvd_coe_gcd hd hd'
  have hp : 0 < mz_g t b := by
    have := Int.gcd_pos_of_ne_zero_right t (b := b) (by omega)
    unfold mz_g; omega
  have hle := Int.le_of_dvd hp hdg
  rcases Int.lt_or_eq_of_le hle with h | h
  · exact absurd ⟨Int.gcd_dvd_left t b, Int.gcd_dvd_right t b⟩ (hm _ h hg)
  · exact h
/- shadows: a line along an axis against the planes -/
def mz_Z (S : mz_P → Prop) (own rest : mz_P → Int) : Prop :=
  (∀ s, S s → own s = 0 → 0 ≤ rest s) ∧ ∀ s s', S s → S s' → own s < 0 → 0 < own s' → -rest s * own s' ≤ rest s' * -own s
theorem mz_Zend {S : mz_P → Prop} {own rest : mz_P → Int} {lt lb ht hb : Int} (h0 : ∀ s, S s → own s = 0 → 0 ≤ rest s)
    (hl : ∀ s, S s → own s < 0 → -rest s * lb ≤ lt * -own s) (hl' : ∃ s, S s ∧ own s < 0 ∧ lt = -rest s ∧ lb = -own s)
    (hh : ∀ s, S s → 0 < own s → ht * own s ≤ rest s * hb) (hh' : ∃ s, S s ∧ 0 < own s ∧ ht = rest s ∧ hb = own s) :
    lt * hb ≤ ht * lb ↔ mz_Z S own rest := by
  obtain ⟨a, Sa, oa, ea, eb⟩ := hl'
  obtain ⟨c, Sc, oc, ec, ed⟩ := hh'
  refine ⟨fun h => ⟨h0, fun s s' Ss Ss' os os' => ?_⟩, fun h => ?_⟩
  · have h1 := mz_tr (a := -rest s) (b := -own s) (c := lt) (d := lb) (e := ht) (f := hb) (by omega) (by omega) (by omega) (hl s Ss os) h
    exact mz_tr (a := -rest s) (b := -own s) (c := ht) (d := hb) (e := rest s') (f := own s') (by omega) (by omega) (by omega) h1 (hh s' Ss' os')
  · rw [ea, eb, ec, ed]; exact h.2 a c Sa Sc oa oc
/- one point -/
theorem mz_teq {a b c d e f : Int} (hd : d ≠ 0) (h1 : a * d = c * b) (h2 : c * f = e * d) : a * f = e * b := by
  have g : a * f * d = e * b * d := by
    have e1 : a * f * d = a * d * f := by grind
    have e2 : e * b * d = e * d * b := by grind
    rw [e1, e2, h1, ← h2]; grind
  exact Int.eq_of_mul_eq_mul_right hd g
def mz_same (C : mz_P → Prop) (s : mz_P) : Prop := ∀ t t', C t → C t' → mz_vl s t * t'.2.2.2 = mz_vl s t' * t.2.2.2
def mz_ng (s : mz_P) : mz_P := (-s.1, -s.2.1, -s.2.2.1, s.2.2.2)
theorem mz_vlng (s t : mz_P) : mz_vl (mz_ng s) t = - mz_vl s t := by
  simp only [mz_vl, mz_ng]; grind
theorem mz_nar {C : mz_P → Prop} {s : mz_P} {T B T' B' : Int} (hu : ∀ t, C t → 1 ≤ t.2.2.2) (h : mz_Bst C s T B) (h' : mz_Bst C (mz_ng s) T' B') :
    T * B' = -T' * B ↔ mz_same C s := by
  obtain ⟨a, Ca, ea, eb, ha⟩ := h
  obtain ⟨c, Cc, ec, ed, hc⟩ := h'
  have ua := hu a Ca
  have uc := hu c Cc
  rw [mz_vlng] at ec
  constructor
  · intro h
    have key : ∀ t, C t → mz_vl s t * B = T * t.2.2.2 := by
      intro t Ct
      have ut := hu t Ct
      have h1 := ha t Ct
      have h2 := hc t Ct
      rw [mz_vlng] at h2
      have h3 : T * t.2.2.2 ≤ mz_vl s t * B := by
        refine mz_tr (a := T) (b := B) (c := -T') (d := B') (e := mz_vl s t) (f := t.2.2.2) (by omega) (by omega) (by omega) (by omega) ?_
        have : -T' * t.2.2.2 = -(T' * t.2.2.2) := Int.neg_mul _ _
        have : -mz_vl s t * B' = -(mz_vl s t * B') := Int.neg_mul _ _
        omega
      omega
    intro t t' Ct Ct'
    exact mz_teq (a := mz_vl s t) (b := t.2.2.2) (c := T) (d := B) (e := mz_vl s t') (f := t'.2.2.2) (by omega) (key t Ct) (key t' Ct').symm
  · intro h
    have := h a c Ca Cc
    rw [ea, eb, ec, ed, Int.neg_neg]
    exact this
/- how large a corner's numbers are -/
def mz_R (D : Nat) (p : mz_P) : Prop := (-4 ≤ p.1 ∧ p.1 ≤ 4) ∧ (-4 ≤ p.2.1 ∧ p.2.1 ≤ 4) ∧ (-4 ≤ p.2.2.1 ∧ p.2.2.1 ≤ 4) ∧ (-(D : Int) ≤ p.2.2.2 ∧ p.2.2.2 ≤ D)
theorem mz_44 {a b : Int} (ha : -4 ≤ a ∧ a ≤ 4) (hb : -4 ≤ b ∧ b ≤ 4) : -16 ≤ a * b ∧ a * b ≤ 16 :=
  mz_mb 4 4 ha.1 ha.2 hb.1 hb.2
theorem mz_cb {a b c d : Int} (ha : -4 ≤ a ∧ a ≤ 4) (hb : -4 ≤ b ∧ b ≤ 4) (hc : -4 ≤ c ∧ c ≤ 4) (hd : -4 ≤ d ∧ d ≤ 4) : -32 ≤ a * b - c * d ∧ a * b - c * d ≤ 32 := by
  have h1 := mz_44 ha hb
  have h2 := mz_44 hc hd
  omega
theorem mz_4c {a b : Int} (ha : -4 ≤ a ∧ a ≤ 4) (hb : -32 ≤ b ∧ b ≤ 32) : -128 ≤ a * b ∧ a * b ≤ 128 :=
  mz_mb 4 32 ha.1 ha.2 hb.1 hb.2
theorem mz_dcb {a b : Int} (ha : -40 ≤ a ∧ a ≤ 40) (hb : -32 ≤ b ∧ b ≤ 32) : -1280 ≤ a * b ∧ a * b ≤ 1280 :=
  mz_mb 40 32 ha.1 ha.2 hb.1 hb.2
theorem mz_detb {p q r : mz_P} (hp : mz_R 40 p) (hq : mz_R 40 q) (hr : mz_R 40 r) : -384 ≤ mz_det p q r ∧ mz_det p q r ≤ 384 := by
  unfold mz_det
  have h1 := mz_4c hp.1 (mz_cb hq.2.1 hr.2.2.1 hq.2.2.1 hr.2.1)
  have h2 := mz_4c hp.2.1 (mz_cb hq.2.2.1 hr.1 hq.1 hr.2.2.1)
  have h3 := mz_4c hp.2.2.1 (mz_cb hq.1 hr.2.1 hq.2.1 hr.1)
  unfold mz_cx mz_cy mz_cz
  omega
theorem mz_txb {p q r : mz_P} (hp : mz_R 40 p) (hq : mz_R 40 q) (hr : mz_R 40 r) : (-3840 ≤ mz_tx p q r ∧ mz_tx p q r ≤ 3840) ∧ (-3840 ≤ mz_ty p q r ∧ mz_ty p q r ≤ 3840) ∧ (-3840 ≤ mz_tz p q r ∧ mz_tz p q r ≤ 3840) := by
  unfold mz_tx mz_ty mz_tz
  have h1 := mz_dcb hp.2.2.2 (mz_cb hq.2.1 hr.2.2.1 hq.2.2.1 hr.2.1)
  have h2 := mz_dcb hq.2.2.2 (mz_cb hr.2.1 hp.2.2.1 hr.2.2.1 hp.2.1)
  have h3 := mz_dcb hr.2.2.2 (mz_cb hp.2.1 hq.2.2.1 hp.2.2.1 hq.2.1)
  have i1 := mz_dcb hp.2.2.2 (mz_cb hq.2.2.1 hr.1 hq.1 hr.2.2.1)
  have i2 := mz_dcb hq.2.2.2 (mz_cb hr.2.2.1 hp.1 hr.1 hp.2.2.1)
  have i3 := mz_dcb hr.2.2.2 (mz_cb hp.2.2.1 hq.1 hp.1 hq.2.2.1)
  have j1 := mz_dcb hp.2.2.2 (mz_cb hq.1 hr.2.1 hq.2.1 hr.1)
  have j2 := mz_dcb hq.2.2.2 (mz_cb hr.1 hp.2.1 hr.2.1 hp.1)
  have j3 := mz_dcb hr.2.2.2 (mz_cb hp.1 hq.2.1 hp.2.1 hq.1)
  unfold mz_cx mz_cy mz_cz
  omega
theorem mz_sg1 (x : Int) : mz_sg x = 1 ∨ mz_sg x = -1 := by
  unfold mz_sg; by_cases h : x < 0
  · exact Or.inr (if_pos h)
  · exact Or.inl (if_neg h)
def mz_Q (t : mz_P) : Prop := (-3840 ≤ t.1 ∧ t.1 ≤ 3840) ∧ (-3840 ≤ t.2.1 ∧ t.2.1 ≤ 3840) ∧ (-3840 ≤ t.2.2.1 ∧ t.2.2.1 ≤ 3840) ∧ (-384 ≤ t.2.2.2 ∧ t.2.2.2 ≤ 384)
theorem mz_corQ {p q r : mz_P} (hp : mz_R 40 p) (hq : mz_R 40 q) (hr : mz_R 40 r) : mz_Q (mz_cor p q r) := by
  have h1 := mz_detb hp hq hr
  have h2 := mz_txb hp hq hr
  unfold mz_Q mz_cor
  rcases mz_sg1 (mz_det p q r) with e | e <;> rw [e] <;> simp only <;> omega
theorem mz_CQ {S : mz_P → Prop} {t : mz_P} (hS : ∀ p, S p → mz_R 40 p) (h : mz_C S t) : mz_Q t := by
  obtain ⟨p, q, r, Sp, Sq, Sr, _, ht, _⟩ := h
  rw [ht]; exact mz_corQ (hS p Sp) (hS q Sq) (hS r Sr)
/- in the cube -/
def mz_wl (i : Nat) : mz_P := if i = 0 then (1, 0, 0, 10) else if i = 1 then (-1, 0, 0, 10) else if i = 2 then (0, 1, 0, 10) else if i = 3 then (0, -1, 0, 10) else if i = 4 then (0, 0, 1, 10) else (0, 0, -1, 10)
theorem mz_ab {a x u : Int} (ha : -4 ≤ a ∧ a ≤ 4) (hx : -(10 * u) ≤ x ∧ x ≤ 10 * u) : -(40 * u) ≤ a * x ∧ a * x ≤ 40 * u := by
  have : a = -4 ∨ a = -3 ∨ a = -2 ∨ a = -1 ∨ a = 0 ∨ a = 1 ∨ a = 2 ∨ a = 3 ∨ a = 4 := by omega
  rcases this with e | e | e | e | e | e | e | e | e <;> subst e <;> omega
theorem mz_120 {S : mz_P → Prop} {s t : mz_P} {D : Nat} (hw : ∀ i, i < 6 → S (mz_wl i)) (hs : mz_R D s) (h : mz_C S t) : -(120 * t.2.2.2) ≤ mz_vl s t ∧ mz_vl s t ≤ 120 * t.2.2.2 := by
  obtain ⟨p, q, r, _, _, _, _, _, hk⟩ := h
  have k0 := hk _ (hw 0 (by decide))
  have k1 := hk _ (hw 1 (by decide))
  have k2 := hk _ (hw 2 (by decide))
  have k3 := hk _ (hw 3 (by decide))
  have k4 := hk _ (hw 4 (by decide))
  have k5 := hk _ (hw 5 (by decide))
  simp only [mz_kp, mz_vl, mz_wl] at k0 k1 k2 k3 k4 k5
  simp at k0 k1 k2 k3 k4 k5
  have a1 := mz_ab hs.1 (x := t.1) (u := t.2.2.2) (by omega)
  have a2 := mz_ab hs.2.1 (x := t.2.1) (u := t.2.2.2) (by omega)
  have a3 := mz_ab hs.2.2.1 (x := t.2.2.1) (u := t.2.2.2) (by omega)
  unfold mz_vl
  omega
/- how many triples are left -/
def mz_tri : Nat → Nat
  | 0 => 0
  | m + 1 => mz_tri m + m
def mz_tet : Nat → Nat
  | 0 => 0
  | m + 1 => mz_tet m + mz_tri m
theorem mz_tet13 : ∀ n, n ≤ 13 → mz_tet n ≤ 286 := by decide
