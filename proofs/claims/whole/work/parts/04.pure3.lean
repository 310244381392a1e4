/- planes and points as they lie in arrays -/
def mz_pl (F L : Nat → Int32) (i : Nat) : mz_P := ((F (3 * i)).toInt, (F (3 * i + 1)).toInt, (F (3 * i + 2)).toInt, (L i).toInt)
def mz_qa (a b c d : Nat → Int32) (e : Nat) : mz_P := ((a e).toInt, (b e).toInt, (c e).toInt, (d e).toInt)
/- a slope and a limit as a plane: the numbers as both sides compute them -/
def mz_dc (x d : Int32) : mz_P := ((x / 81 - 4).toInt, (x / 9 - x / 9 / 9 * 9 - 4).toInt, (x - x / 9 * 9 - 4).toInt, d.toInt)
theorem mz_dcR0 : ∀ s : Nat, s < 729 → (-4 ≤ (nI s / 81 - 4).toInt ∧ (nI s / 81 - 4).toInt ≤ 4) ∧ (-4 ≤ (nI s / 9 - nI s / 9 / 9 * 9 - 4).toInt ∧ (nI s / 9 - nI s / 9 / 9 * 9 - 4).toInt ≤ 4) ∧ (-4 ≤ (nI s - nI s / 9 * 9 - 4).toInt ∧ (nI s - nI s / 9 * 9 - 4).toInt ≤ 4) := by
  decide +kernel
theorem mz_dcR {s D : Nat} {d : Int32} (h : s < 729) (h1 : -(D : Int) ≤ d.toInt) (h2 : d.toInt ≤ D) : mz_R D (mz_dc (nI s) d) :=
  ⟨(mz_dcR0 s h).1, (mz_dcR0 s h).2.1, (mz_dcR0 s h).2.2, h1, h2⟩
theorem mz_w0 : mz_dc 445 10 = mz_wl 0 := by decide +kernel
theorem mz_w1 : mz_dc 283 10 = mz_wl 1 := by decide +kernel
theorem mz_w2 : mz_dc 373 10 = mz_wl 2 := by decide +kernel
theorem mz_w3 : mz_dc 355 10 = mz_wl 3 := by decide +kernel
theorem mz_w4 : mz_dc 365 10 = mz_wl 4 := by decide +kernel
theorem mz_w5 : mz_dc 363 10 = mz_wl 5 := by decide +kernel
theorem mz_wlR : ∀ e : Nat, e < 6 → mz_R 40 (mz_wl e) := by
  intro e he
  have : e = 0 ∨ e = 1 ∨ e = 2 ∨ e = 3 ∨ e = 4 ∨ e = 5 := by omega
  rcases this with h | h | h | h | h | h <;> subst h <;> refine ⟨⟨?_, ?_⟩, ⟨?_, ?_⟩, ⟨?_, ?_⟩, ?_, ?_⟩ <;> decide
/- points that the corners of the triples done are among -/
def mz_D (pl : Nat → mz_P) (g : Nat → Prop) (lt : Nat → Nat → Nat → Prop) (t : mz_P) : Prop :=
  ∃ i j k, i < j ∧ j < k ∧ g i ∧ g j ∧ g k ∧ lt i j k ∧ mz_det (pl i) (pl j) (pl k) ≠ 0 ∧ t = mz_cor (pl i) (pl j) (pl k)
theorem mz_Dall {pl : Nat → mz_P} {g : Nat → Prop} {lt : Nat → Nat → Nat → Prop} {t : mz_P} (h : ∀ i j k, i < j → j < k → g i → g j → g k → lt i j k) (hC : mz_C (mz_S pl g) t) : mz_D pl g lt t := by
  obtain ⟨i, j, k, a, b, gi, gj, gk, hd, ht⟩ := mz_Cix hC
  exact ⟨i, j, k, a, b, gi, gj, gk, h i j k a b gi gj gk, hd, ht⟩
theorem mz_Dmo {pl : Nat → mz_P} {g : Nat → Prop} {lt lt' : Nat → Nat → Nat → Prop} {t : mz_P} (h : ∀ i j k, i < j → j < k → g i → g j → g k → lt' i j k → lt i j k) (hD : mz_D pl g lt' t) : mz_D pl g lt t := by
  obtain ⟨i, j, k, a, b, gi, gj, gk, l, r⟩ := hD
  exact ⟨i, j, k, a, b, gi, gj, gk, h i j k a b gi gj gk l, r⟩
theorem mz_Dst {pl : Nat → mz_P} {g : Nat → Prop} {lt lt' : Nat → Nat → Nat → Prop} {t : mz_P} (i j k : Nat)
    (h : ∀ i' j' k', i' < j' → j' < k' → g i' → g j' → g k' → lt' i' j' k' → lt i' j' k' ∨ (i' = i ∧ j' = j ∧ k' = k)) (hD : mz_D pl g lt' t) :
    mz_D pl g lt t ∨ (i < j ∧ j < k ∧ g i ∧ g j ∧ g k ∧ mz_det (pl i) (pl j) (pl k) ≠ 0 ∧ t = mz_cor (pl i) (pl j) (pl k)) := by
  obtain ⟨i', j', k', a, b, gi, gj, gk, l, r⟩ := hD
  rcases h i' j' k' a b gi gj gk l with l | ⟨rfl, rfl, rfl⟩
  · exact Or.inl ⟨i', j', k', a, b, gi, gj, gk, l, r⟩
  · exact Or.inr ⟨a, b, gi, gj, gk, r⟩
/- the component's store of corners -/
def mz_V (S D : mz_P → Prop) (pt : Nat → mz_P) (n : Nat) : Prop := (∀ c, c < n → mz_C S (pt c)) ∧ ∀ t, D t → mz_C S t → ∃ c, c < n ∧ pt c = t
theorem mz_Vno {S D D' : mz_P → Prop} {pt pt' : Nat → mz_P} {n : Nat} (hV : mz_V S D pt n) (he : ∀ c, c < n → pt' c = pt c) (h : ∀ t, D' t → mz_C S t → D t) : mz_V S D' pt' n := by
  refine ⟨fun c hc => by rw [he c hc]; exact hV.1 c hc, fun t hD hC => ?_⟩
  obtain ⟨c, hc, e⟩ := hV.2 t (h t hD hC) hC
  exact ⟨c, hc, by rw [he c hc]; exact e⟩
theorem mz_Vmo {S D D' : mz_P → Prop} {pt : Nat → mz_P} {n : Nat} (hV : mz_V S D pt n) (h : ∀ t, D' t → D t) : mz_V S D' pt n :=
  mz_Vno hV (fun _ _ => rfl) (fun t hD _ => h t hD)
theorem mz_Vyes {S D D' : mz_P → Prop} {pt pt' : Nat → mz_P} {n : Nat} {t0 : mz_P} (hV : mz_V S D pt n) (he : ∀ c, c < n → pt' c = pt c) (h : ∀ t, D' t → mz_C S t → D t ∨ t = t0) (h0 : pt' n = t0) (hC0 : mz_C S t0) : mz_V S D' pt' (n + 1) := by
  refine ⟨fun c hc => ?_, fun t hD hC => ?_⟩
  · rcases Nat.lt_or_ge c n with a | a
    · rw [he c a]; exact hV.1 c a
    · have : c = n := by omega
      subst this; rw [h0]; exact hC0
  · rcases h t hD hC with a | a
    · obtain ⟨c, hc, e⟩ := hV.2 t a hC
      exact ⟨c, by omega, by rw [he c hc]; exact e⟩
    · exact ⟨n, by omega, by rw [h0, a]⟩
/- the order of the component's triples -/
def mz_lx (i j k i' j' k' : Nat) : Prop := i' < i ∨ (i' = i ∧ (j' < j ∨ (j' = j ∧ k' < k)))
/- the order of the reference's triples -/
def mz_cl (m code i' j' k' : Nat) : Prop := i' + m * (j' + m * k') < code
theorem mz_cl1 {m code i' j' k' : Nat} (hi : i' < m) (hj : j' < m) (h : mz_cl m (code + 1) i' j' k') : mz_cl m code i' j' k' ∨ (i' = code % m ∧ j' = code / m % m ∧ k' = code / m / m) := by
  unfold mz_cl at *
  rcases Nat.lt_or_ge (i' + m * (j' + m * k')) code with a | a
  · exact Or.inl a
  · have e : code = i' + m * (j' + m * k') := by omega
    have h0 : 0 < m := by omega
    have e1 : code % m = i' := by rw [e, Nat.add_mul_mod_self_left, Nat.mod_eq_of_lt hi]
    have e2 : code / m = j' + m * k' := by rw [e, Nat.add_mul_div_left _ _ h0, Nat.div_eq_of_lt hi, Nat.zero_add]
    have e3 : code / m % m = j' := by rw [e2, Nat.add_mul_mod_self_left, Nat.mod_eq_of_lt hj]
    have e4 : code / m / m = k' := by rw [e2, Nat.add_mul_div_left _ _ h0, Nat.div_eq_of_lt hj, Nat.zero_add]
    exact Or.inr ⟨e1.symm, e3.symm, e4.symm⟩
theorem mz_clE {m i' j' k' : Nat} (hi : i' < m) (hj : j' < m) (hk : k' < m) : mz_cl m (m * m * m) i' j' k' := by
  unfold mz_cl
  have a : m * k' + m ≤ m * m := by
    have := Nat.mul_le_mul_left m (show k' + 1 ≤ m by omega)
    rw [Nat.mul_add, Nat.mul_one] at this; exact this
  have b : m * (j' + m * k' + 1) ≤ m * (m * m) := Nat.mul_le_mul_left m (by omega)
  rw [Nat.mul_add, Nat.mul_one] at b
  rw [Nat.mul_assoc]
  omega
theorem mz_ck {m code : Nat} (h0 : 0 < m) (h : code < m * m * m) : code % m < m ∧ code / m % m < m ∧ code / m / m < m := by
  refine ⟨Nat.mod_lt _ h0, Nat.mod_lt _ h0, ?_⟩
  rw [Nat.div_div_eq_div_mul]
  exact Nat.div_lt_of_lt_mul h
/- the reference's search -/
def mz_W (S D : mz_P → Prop) (s : mz_P) (any : Nat) (T B : Int) : Prop :=
  (any = 0 ∧ ∀ t, D t → ¬ mz_C S t) ∨ (any = 1 ∧ ∃ t0, mz_C S t0 ∧ T = mz_vl s t0 ∧ B = t0.2.2.2 ∧ ∀ t, D t → mz_C S t → mz_vl s t * B ≤ T * t.2.2.2)
theorem mz_Wno {S D D' : mz_P → Prop} {s : mz_P} {any : Nat} {T B : Int} (hW : mz_W S D s any T B) (h : ∀ t, D' t → mz_C S t → D t) : mz_W S D' s any T B := by
  rcases hW with ⟨e, a⟩ | ⟨e, t0, h0, eT, eB, a⟩
  · exact Or.inl ⟨e, fun t hD hC => a t (h t hD hC) hC⟩
  · exact Or.inr ⟨e, t0, h0, eT, eB, fun t hD hC => a t (h t hD hC) hC⟩
theorem mz_Wst {S D D' : mz_P → Prop} {s : mz_P} {any : Nat} {T B : Int} {t1 : mz_P} (hW : mz_W S D s any T B) (h : ∀ t, D' t → mz_C S t → D t ∨ t = t1) (h1 : mz_C S t1) (hc : any = 1) (hn : ¬ T * t1.2.2.2 < mz_vl s t1 * B) : mz_W S D' s 1 T B := by
  rcases hW with ⟨e, _⟩ | ⟨e, t0, h0, eT, eB, a⟩
  · omega
  · refine Or.inr ⟨rfl, t0, h0, eT, eB, fun t hD hC => ?_⟩
    rcases h t hD hC with b | b
    · exact a t b hC
    · rw [b]; omega
theorem mz_Wnew {S D D' : mz_P → Prop} {s : mz_P} {any : Nat} {T B : Int} {t1 : mz_P} (hW : mz_W S D s any T B) (h : ∀ t, D' t → mz_C S t → D t ∨ t = t1) (h1 : mz_C S t1) (hc : any = 0 ∨ T * t1.2.2.2 < mz_vl s t1 * B) : mz_W S D' s 1 (mz_vl s t1) t1.2.2.2 := by
  refine Or.inr ⟨rfl, t1, h1, rfl, rfl, fun t hD hC => ?_⟩
  rcases h t hD hC with b | b
  · rcases hW with ⟨e, a⟩ | ⟨e, t0, h0, eT, eB, a⟩
    · exact absurd hC (a t b)
    · rcases hc with c | c
      · omega
      · have u0 := mz_Cun h0
        have u1 := mz_Cun h1
        have u := mz_Cun hC
        exact mz_tr (a := mz_vl s t) (b := t.2.2.2) (c := T) (d := B) (e := mz_vl s t1) (f := t1.2.2.2) (by omega) (by omega) (by omega) (a t b hC) (by omega)
  · rw [b]; exact Int.le_refl _
theorem mz_Wend {S D : mz_P → Prop} {s : mz_P} {any : Nat} {T B : Int} (hW : mz_W S D s any T B) (h : ∀ t, mz_C S t → D t) : (any = 0 ∧ ∀ t, ¬ mz_C S t) ∨ (any = 1 ∧ mz_Bst (mz_C S) s T B) := by
  rcases hW with ⟨e, a⟩ | ⟨e, t0, h0, eT, eB, a⟩
  · exact Or.inl ⟨e, fun t hC => a t (h t hC) hC⟩
  · exact Or.inr ⟨e, t0, h0, eT, eB, fun t hC => a t (h t hC) hC⟩
/- triples left -/
theorem mz_tri1 {N j : Nat} (h : j < N) : mz_tri (N - j) = mz_tri (N - (j + 1)) + (N - (j + 1)) := by
  obtain ⟨m, e⟩ : ∃ m, N - j = m + 1 := ⟨N - j - 1, by omega⟩
  have e' : N - (j + 1) = m := by omega
  rw [e, e']; rfl
theorem mz_tet1 {N j : Nat} (h : j < N) : mz_tet (N - j) = mz_tet (N - (j + 1)) + mz_tri (N - (j + 1)) := by
  obtain ⟨m, e⟩ : ∃ m, N - j = m + 1 := ⟨N - j - 1, by omega⟩
  have e' : N - (j + 1) = m := by omega
  rw [e, e']; rfl
/- coordinates -/
def mz_co (ax : Nat) (t : mz_P) : Int := if ax = 0 then t.1 else if ax = 1 then t.2.1 else t.2.2.1
def mz_un1 (ax : Nat) (sg : Int) : mz_P := (if ax = 0 then sg else 0, if ax = 1 then sg else 0, if ax = 2 then sg else 0, 0)
theorem mz_vlu (sg : Int) (t : mz_P) : ∀ ax, ax < 3 → mz_vl (mz_un1 ax sg) t = sg * mz_co ax t := by
  intro ax h
  have : ax = 0 ∨ ax = 1 ∨ ax = 2 := by omega
  rcases this with e | e | e <;> subst e <;> simp [mz_vl, mz_un1, mz_co]
theorem mz_plc (F L : Nat → Int32) (i : Nat) : ∀ ax, ax < 3 → mz_co ax (mz_pl F L i) = (F (3 * i + ax)).toInt := by
  intro ax h
  have : ax = 0 ∨ ax = 1 ∨ ax = 2 := by omega
  rcases this with e | e | e <;> subst e <;> rfl
/- the shadow's loop -/
def mz_ZI (S Dn : mz_P → Prop) (own rest : mz_P → Int) (M lt lb ht hb : Int) : Prop :=
  (∀ s, Dn s → own s = 0 → 0 ≤ rest s) ∧
  (∀ s, Dn s → own s < 0 → -rest s * lb ≤ lt * -own s) ∧ ((lt = -M ∧ lb = 1) ∨ ∃ s, S s ∧ own s < 0 ∧ lt = -rest s ∧ lb = -own s) ∧
  (∀ s, Dn s → 0 < own s → ht * own s ≤ rest s * hb) ∧ ((ht = M ∧ hb = 1) ∨ ∃ s, S s ∧ 0 < own s ∧ ht = rest s ∧ hb = own s)
theorem mz_ZIlb {S Dn : mz_P → Prop} {own rest : mz_P → Int} {M lt lb ht hb : Int} (h : mz_ZI S Dn own rest M lt lb ht hb) : 0 < lb ∧ 0 < hb := by
  obtain ⟨_, _, h1, _, h2⟩ := h
  refine ⟨?_, ?_⟩
  · rcases h1 with ⟨_, e⟩ | ⟨s, _, o, _, e⟩ <;> omega
  · rcases h2 with ⟨_, e⟩ | ⟨s, _, o, _, e⟩ <;> omega
theorem mz_ZI0 {S Dn : mz_P → Prop} {own rest : mz_P → Int} {M : Int} (h : ∀ s, ¬ Dn s) : mz_ZI S Dn own rest M (-M) 1 M 1 :=
  ⟨fun s d => absurd d (h s), fun s d => absurd d (h s), Or.inl ⟨rfl, rfl⟩, fun s d => absurd d (h s), Or.inl ⟨rfl, rfl⟩⟩
/- one plane more: the high end, then the low end -/
def mz_nh (o r ht hb : Int) : Prop := 0 < o ∧ r * hb < ht * o
def mz_nl (o r lt lb : Int) : Prop := o < 0 ∧ lt * -o < -r * lb
theorem mz_ZIs {S Dn Dn' : mz_P → Prop} {own rest : mz_P → Int} {M lt lb ht hb lt' lb' ht' hb' : Int} {s0 : mz_P}
    (h : mz_ZI S Dn own rest M lt lb ht hb) (hs : S s0) (hD : ∀ s, Dn' s → Dn s ∨ s = s0) (h0 : own s0 = 0 → 0 ≤ rest s0)
    (hh : (mz_nh (own s0) (rest s0) ht hb ∧ ht' = rest s0 ∧ hb' = own s0) ∨ (¬ mz_nh (own s0) (rest s0) ht hb ∧ ht' = ht ∧ hb' = hb))
    (hl : (mz_nl (own s0) (rest s0) lt lb ∧ lt' = -rest s0 ∧ lb' = -own s0) ∨ (¬ mz_nl (own s0) (rest s0) lt lb ∧ lt' = lt ∧ lb' = lb)) :
    mz_ZI S Dn' own rest M lt' lb' ht' hb' := by
  have hp := mz_ZIlb h
  obtain ⟨z0, l1, l2, u1, u2⟩ := h
  refine ⟨fun s d o => ?_, fun s d o => ?_, ?_, fun s d o => ?_, ?_⟩
  · rcases hD s d with a | a
    · exact z0 s a o
    · rw [a] at o ⊢; exact h0 o
  · rcases hl with ⟨c, e1, e2⟩ | ⟨c, e1, e2⟩ <;> rw [e1, e2]
    · rcases hD s d with a | a
      · exact mz_tr (a := -rest s) (b := -own s) (c := lt) (d := lb) (e := -rest s0) (f := -own s0) (by omega) (by omega) (by have := c.1; omega) (l1 s a o) (by have := c.2; omega)
      · rw [a]; exact Int.le_refl _
    · rcases hD s d with a | a
      · exact l1 s a o
      · rw [a] at o ⊢
        have : ¬ lt * -own s0 < -rest s0 * lb := fun z => c ⟨o, z⟩
        omega
  · rcases hl with ⟨c, e1, e2⟩ | ⟨c, e1, e2⟩ <;> rw [e1, e2]
    · exact Or.inr ⟨s0, hs, c.1, rfl, rfl⟩
    · exact l2
  · rcases hh with ⟨c, e1, e2⟩ | ⟨c, e1, e2⟩ <;> rw [e1, e2]
    · rcases hD s d with a | a
      · exact mz_tr (a := rest s0) (b := own s0) (c := ht) (d := hb) (e := rest s) (f := own s) (by have := c.1; omega) (by omega) (by omega) (by have := c.2; omega) (u1 s a o)
      · rw [a]; exact Int.le_refl _
    · rcases hD s d with a | a
      · exact u1 s a o
      · rw [a] at o ⊢
        have : ¬ rest s0 * hb < ht * own s0 := fun z => c ⟨o, z⟩
        omega
  · rcases hh with ⟨c, e1, e2⟩ | ⟨c, e1, e2⟩ <;> rw [e1, e2]
    · exact Or.inr ⟨s0, hs, c.1, rfl, rfl⟩
    · exact u2
theorem mz_ZIe {S Dn : mz_P → Prop} {own rest : mz_P → Int} {M R lt lb ht hb : Int} (h : mz_ZI S Dn own rest M lt lb ht hb) (hD : ∀ s, S s → Dn s) (hM : R ≤ M)
    (hwl : ∃ s, S s ∧ own s = -1 ∧ rest s = R) (hwh : ∃ s, S s ∧ own s = 1 ∧ rest s = R) : lt * hb ≤ ht * lb ↔ mz_Z S own rest := by
  obtain ⟨z0, l1, l2, u1, u2⟩ := h
  obtain ⟨a, Sa, oa, ra⟩ := hwl
  obtain ⟨b, Sb, ob, rb⟩ := hwh
  refine mz_Zend (fun s d => z0 s (hD s d)) (fun s d => l1 s (hD s d)) ?_ (fun s d => u1 s (hD s d)) ?_
  · rcases l2 with ⟨e1, e2⟩ | h
    · have := l1 a (hD a Sa) (by omega)
      rw [oa, ra, e1, e2] at this
      exact ⟨a, Sa, by omega, by omega, by omega⟩
    · exact h
  · rcases u2 with ⟨e1, e2⟩ | h
    · have := u1 b (hD b Sb) (by omega)
      rw [ob, rb, e1, e2] at this
      exact ⟨b, Sb, by omega, by omega, by omega⟩
    · exact h
/- the rest of a plane's limit along a line -/
def mz_lx3 (ax : Nat) (p q : Int) : mz_P := (if ax = 0 then 0 else p, if ax = 0 then p else if ax = 1 then 0 else q, if ax = 2 then 0 else q, 0)
def mz_rs (ax : Nat) (p q k : Int) (s : mz_P) : Int := s.2.2.2 * k - s.1 * (mz_lx3 ax p q).1 - s.2.1 * (mz_lx3 ax p q).2.1 - s.2.2.1 * (mz_lx3 ax p q).2.2.1
/- one answer as a number -/
noncomputable def mz_zi (Z : Prop) : Nat := @ite Nat Z (Classical.propDecidable Z) 1 0
theorem mz_ziT {Z : Prop} (h : Z) : mz_zi Z = 1 := if_pos h
theorem mz_ziF {Z : Prop} (h : ¬ Z) : mz_zi Z = 0 := if_neg h
theorem mz_zi1 (Z : Prop) : mz_zi Z ≤ 1 := by
  by_cases h : Z
  · rw [mz_ziT h]; omega
  · rw [mz_ziF h]; omega
/- points of one coordinate -/
theorem mz_all3 {P : Nat → Prop} (h0 : P 0) (h1 : P 1) (h2 : P 2) : ∀ ax, ax < 3 → P ax := by
  intro ax h
  have : ax = 0 ∨ ax = 1 ∨ ax = 2 := by omega
  rcases this with e | e | e <;> subst e <;> assumption
