/- writes, as planes -/
theorem mz_plS {F L : Nat → Int32} {P : Nat} {x y z d : Int32} : mz_pl (upd (upd (upd F (3 * P) x) (3 * P + 1) y) (3 * P + 2) z) (upd L P d) P = (x.toInt, y.toInt, z.toInt, d.toInt) := by
  unfold mz_pl
  rw [pk_un (show 3 * P ≠ 3 * P + 2 by omega), pk_un (show 3 * P ≠ 3 * P + 1 by omega), pk_us, pk_un (show 3 * P + 1 ≠ 3 * P + 2 by omega), pk_us, pk_us, pk_us]
theorem mz_plN {F L : Nat → Int32} {P e : Nat} {x y z d : Int32} (h : e ≠ P) : mz_pl (upd (upd (upd F (3 * P) x) (3 * P + 1) y) (3 * P + 2) z) (upd L P d) e = mz_pl F L e := by
  unfold mz_pl
  rw [pk_un (show 3 * e ≠ 3 * P + 2 by omega), pk_un (show 3 * e ≠ 3 * P + 1 by omega), pk_un (show 3 * e ≠ 3 * P by omega),
    pk_un (show 3 * e + 1 ≠ 3 * P + 2 by omega), pk_un (show 3 * e + 1 ≠ 3 * P + 1 by omega), pk_un (show 3 * e + 1 ≠ 3 * P by omega),
    pk_un (show 3 * e + 2 ≠ 3 * P + 2 by omega), pk_un (show 3 * e + 2 ≠ 3 * P + 1 by omega), pk_un (show 3 * e + 2 ≠ 3 * P by omega), pk_un h]
theorem mz_plL {F L : Nat → Int32} {P : Nat} {d : Int32} : mz_pl F (upd L P d) P = ((mz_pl F L P).1, (mz_pl F L P).2.1, (mz_pl F L P).2.2.1, d.toInt) := by
  unfold mz_pl
  rw [pk_us]
theorem mz_plM {F L : Nat → Int32} {P e : Nat} {d : Int32} (h : e ≠ P) : mz_pl F (upd L P d) e = mz_pl F L e := by
  unfold mz_pl
  rw [pk_un h]
theorem mz_qaS {a b c d : Nat → Int32} {m : Nat} {x y z w : Int32} : mz_qa (upd a m x) (upd b m y) (upd c m z) (upd d m w) m = (x.toInt, y.toInt, z.toInt, w.toInt) := by
  unfold mz_qa
  rw [pk_us, pk_us, pk_us, pk_us]
theorem mz_qaN {a b c d : Nat → Int32} {m e : Nat} {x y z w : Int32} (h : e ≠ m) : mz_qa (upd a m x) (upd b m y) (upd c m z) (upd d m w) e = mz_qa a b c d e := by
  unfold mz_qa
  rw [pk_un h, pk_un h, pk_un h, pk_un h]
/- the two sides' lists -/
def mz_rel (c : Nat) (F L sl lm : Nat → Int32) : Prop := c ≤ 7 ∧ (∀ e, e < 6 → mz_pl F L e = mz_wl e) ∧ ∀ i, i < c → mz_R 40 (mz_dc (sl i) (lm i)) ∧ mz_pl F L (6 + i) = mz_dc (sl i) (lm i)
theorem mz_relR {c : Nat} {F L sl lm : Nat → Int32} (h : mz_rel c F L sl lm) : ∀ e, e < 6 + c → mz_R 40 (mz_pl F L e) := by
  intro e he
  by_cases h6 : e < 6
  · rw [h.2.1 e h6]; exact mz_wlR e h6
  · obtain ⟨i, rfl⟩ : ∃ i, e = 6 + i := ⟨e - 6, by omega⟩
    have := h.2.2 i (by omega)
    rw [this.2]; exact this.1
theorem mz_relC {c : Nat} {F L F' L' sl lm : Nat → Int32} (h : mz_rel c F L sl lm) (he : ∀ e, e < 6 + c → mz_pl F' L' e = mz_pl F L e) : mz_rel c F' L' sl lm :=
  ⟨h.1, fun e h6 => by rw [he e (by omega)]; exact h.2.1 e h6, fun i hi => ⟨(h.2.2 i hi).1, by rw [he (6 + i) (by omega)]; exact (h.2.2 i hi).2⟩⟩
theorem mz_relA {c : Nat} {F L F' L' sl lm : Nat → Int32} {x d : Int32} (h : mz_rel c F L sl lm) (hc : c < 7) (hR : mz_R 40 (mz_dc x d))
    (he : ∀ e, e < 6 + c → mz_pl F' L' e = mz_pl F L e) (hn : mz_pl F' L' (6 + c) = mz_dc x d) : mz_rel (c + 1) F' L' (upd sl c x) (upd lm c d) := by
  refine ⟨by omega, fun e h6 => by rw [he e (by omega)]; exact h.2.1 e h6, fun i hi => ?_⟩
  by_cases e : i = c
  · subst e; rw [pk_us, pk_us]; exact ⟨hR, hn⟩
  · rw [pk_un e, pk_un e, he (6 + i) (by omega)]; exact h.2.2 i (by omega)
theorem mz_relM {c b : Nat} {F L F' L' sl lm : Nat → Int32} {d : Int32} (h : mz_rel c F L sl lm) (hb : b < c) (hd : -40 ≤ d.toInt ∧ d.toInt ≤ 40)
    (he : ∀ e, e < 6 + c → e ≠ 6 + b → mz_pl F' L' e = mz_pl F L e) (hn : mz_pl F' L' (6 + b) = ((mz_pl F L (6 + b)).1, (mz_pl F L (6 + b)).2.1, (mz_pl F L (6 + b)).2.2.1, d.toInt)) : mz_rel c F' L' sl (upd lm b d) := by
  refine ⟨h.1, fun e h6 => by rw [he e (by omega) (by omega)]; exact h.2.1 e h6, fun i hi => ?_⟩
  by_cases e : i = b
  · subst e
    have k := h.2.2 i hi
    have hd' : -((40 : Nat) : Int) ≤ d.toInt ∧ d.toInt ≤ ((40 : Nat) : Int) := by omega
    rw [pk_us, hn, k.2]
    have k1 := k.1
    unfold mz_R mz_dc at k1
    dsimp only at k1
    refine ⟨?_, ?_⟩
    · unfold mz_R mz_dc
      dsimp only
      exact ⟨k1.1, k1.2.1, k1.2.2.1, hd'⟩
    · unfold mz_dc
      dsimp only
  · rw [pk_un e, he (6 + i) (by omega) (by omega)]; exact h.2.2 i hi
theorem mz_relD {c b : Nat} {F L F' L' sl lm sl' lm' : Nat → Int32} (h : mz_rel (c + 1) F L sl lm) (hb : b ≤ c)
    (he : ∀ e, e < 6 + b → mz_pl F' L' e = mz_pl F L e) (hn : ∀ i, b ≤ i → i < c → mz_pl F' L' (6 + i) = mz_pl F L (6 + (i + 1)))
    (hs : ∀ i, i < b → sl' i = sl i ∧ lm' i = lm i) (ht : ∀ i, b ≤ i → i < c → sl' i = sl (i + 1) ∧ lm' i = lm (i + 1)) : mz_rel c F' L' sl' lm' := by
  refine ⟨by have := h.1; omega, fun e h6 => by rw [he e (by omega)]; exact h.2.1 e h6, fun i hi => ?_⟩
  by_cases e : i < b
  · rw [(hs i e).1, (hs i e).2, he (6 + i) (by omega)]; exact h.2.2 i (by omega)
  · rw [(ht i (by omega) hi).1, (ht i (by omega) hi).2, hn i (by omega) hi]; exact h.2.2 (i + 1) (by omega)
/- the set of the planes, as the reference has it -/
def mz_U (sl lm : Nat → Int32) (c : Nat) (w : Int32) (p : mz_P) : Prop := (∃ i, i < c ∧ ¬ nI i = w ∧ mz_dc (sl i) (lm i) = p) ∨ ∃ e, e < 6 ∧ mz_wl e = p
def mz_gd (N : Nat) (w : Int32) (e : Nat) : Prop := e < N ∧ ¬ nI e = w
theorem mz_nm1 {e : Nat} (h : e < 100) : ¬ nI e = -1 := by
  intro z
  have := nI_pos (n := e) (by omega)
  rw [z] at this
  exact this (by decide)
theorem mz_U1 {c : Nat} {F L sl lm : Nat → Int32} (h : mz_rel c F L sl lm) : mz_S (mz_pl F L) (mz_gd (6 + c) (-1)) = mz_U sl lm c (-1) := by
  have hc := h.1
  funext p
  refine propext ⟨?_, ?_⟩
  · rintro ⟨e, ⟨he, _⟩, rfl⟩
    by_cases h6 : e < 6
    · exact Or.inr ⟨e, h6, (h.2.1 e h6).symm⟩
    · obtain ⟨i, rfl⟩ : ∃ i, e = 6 + i := ⟨e - 6, by omega⟩
      exact Or.inl ⟨i, by omega, mz_nm1 (by omega), (h.2.2 i (by omega)).2.symm⟩
  · rintro (⟨i, hi, _, rfl⟩ | ⟨e, he, rfl⟩)
    · exact ⟨6 + i, ⟨by omega, mz_nm1 (by omega)⟩, (h.2.2 i hi).2⟩
    · exact ⟨e, ⟨by omega, mz_nm1 (by omega)⟩, h.2.1 e he⟩
theorem mz_U2 {c b : Nat} {F L sl lm : Nat → Int32} (h : mz_rel c F L sl lm) (hb : b < c) : mz_S (mz_pl F L) (mz_gd (6 + c) (nI (6 + b))) = mz_U sl lm c (nI b) := by
  have hc := h.1
  funext p
  refine propext ⟨?_, ?_⟩
  · rintro ⟨e, ⟨he, hw⟩, rfl⟩
    by_cases h6 : e < 6
    · exact Or.inr ⟨e, h6, (h.2.1 e h6).symm⟩
    · obtain ⟨i, rfl⟩ : ∃ i, e = 6 + i := ⟨e - 6, by omega⟩
      refine Or.inl ⟨i, by omega, fun z => hw ?_, (h.2.2 i (by omega)).2.symm⟩
      have := (nI_eq (a := i) (b := b) (by omega) (by omega)).mp z
      rw [this]
  · rintro (⟨i, hi, hw, rfl⟩ | ⟨e, he, rfl⟩)
    · refine ⟨6 + i, ⟨by omega, fun z => hw ?_⟩, (h.2.2 i hi).2⟩
      have := (nI_eq (a := 6 + i) (b := 6 + b) (by omega) (by omega)).mp z
      rw [show i = b by omega]
    · refine ⟨e, ⟨by omega, fun z => ?_⟩, h.2.1 e he⟩
      have := (nI_eq (a := e) (b := 6 + b) (by omega) (by omega)).mp z
      omega
theorem mz_UR {c : Nat} {F L sl lm : Nat → Int32} {w : Int32} (h : mz_rel c F L sl lm) : ∀ p, mz_U sl lm c w p → mz_R 40 p := by
  rintro p (⟨i, hi, _, rfl⟩ | ⟨e, he, rfl⟩)
  · exact (h.2.2 i hi).1
  · exact mz_wlR e he
theorem mz_Uw {c : Nat} {sl lm : Nat → Int32} {w : Int32} : ∀ e, e < 6 → mz_U sl lm c w (mz_wl e) := fun e he => Or.inr ⟨e, he, rfl⟩
/- indices -/
theorem mz_i3 (i a : Nat) : (3 : Int32) * nI i + nI a = nI (3 * i + a) := by
  rw [show (3 : Int32) = nI 3 from rfl, pk_mul, nI_add]
theorem mz_i0 (i : Nat) : (3 : Int32) * nI i = nI (3 * i) := by
  rw [show (3 : Int32) = nI 3 from rfl, pk_mul]
theorem mz_i1 (i : Nat) : (3 : Int32) * nI i + 1 = nI (3 * i + 1) := mz_i3 i 1
theorem mz_i2 (i : Nat) : (3 : Int32) * nI i + 2 = nI (3 * i + 2) := mz_i3 i 2
