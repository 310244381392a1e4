/- what the component's store says when it is full -/
def mz_F (C : mz_P → Prop) (pt : Nat → mz_P) (n : Nat) : Prop := (∀ c, c < n → C (pt c)) ∧ ∀ t, C t → ∃ c, c < n ∧ pt c = t
theorem mz_VF {S D : mz_P → Prop} {pt : Nat → mz_P} {n : Nat} (hV : mz_V S D pt n) (h : ∀ t, mz_C S t → D t) : mz_F (mz_C S) pt n :=
  ⟨hV.1, fun t hC => hV.2 t (h t hC) hC⟩
theorem mz_Fe {C : mz_P → Prop} {pt : Nat → mz_P} {n : Nat} (h : mz_F C pt n) : n = 0 ↔ ∀ t, ¬ C t := by
  refine ⟨fun e t ht => ?_, fun e => ?_⟩
  · obtain ⟨c, hc, _⟩ := h.2 t ht
    omega
  · rcases Nat.eq_zero_or_pos n with a | a
    · exact a
    · exact absurd (h.1 0 a) (e _)
theorem mz_Fk {C : mz_P → Prop} {pt : Nat → mz_P} {n : Nat} (h : mz_F C pt n) (P : mz_P → Prop) : (∀ c, c < n → P (pt c)) ↔ ∀ t, C t → P t := by
  refine ⟨fun a t ht => ?_, fun a c hc => a _ (h.1 c hc)⟩
  obtain ⟨c, hc, e⟩ := h.2 t ht
  rw [← e]; exact a c hc
/- what the reference's search says at its end -/
def mz_G (C : mz_P → Prop) (s : mz_P) (any : Nat) (T B : Int) : Prop := (any = 0 ∧ ∀ t, ¬ C t) ∨ (any = 1 ∧ mz_Bst C s T B)
theorem mz_Ge {C : mz_P → Prop} {s : mz_P} {any : Nat} {T B : Int} (h : mz_G C s any T B) : any = 0 ↔ ∀ t, ¬ C t := by
  rcases h with ⟨e, a⟩ | ⟨e, t, ht, _⟩
  · exact ⟨fun _ => a, fun _ => e⟩
  · exact ⟨fun z => by omega, fun z => absurd ht (z t)⟩
theorem mz_Gk {C : mz_P → Prop} {s : mz_P} {any : Nat} {T B : Int} (hu : ∀ t, C t → 1 ≤ t.2.2.2) (h : mz_G C s any T B) (d : Int) : (∀ t, C t → mz_vl s t ≤ d * t.2.2.2) ↔ (any = 0 ∨ T ≤ d * B) := by
  rcases h with ⟨e, a⟩ | ⟨e, b⟩
  · exact ⟨fun _ => Or.inl e, fun _ t ht => absurd ht (a t)⟩
  · rw [mz_keep d hu b]
    exact ⟨Or.inr, fun z => z.resolve_left (by omega)⟩
/- the least whole limit -/
def mz_Sup (C : mz_P → Prop) (s : mz_P) (r : Int) : Prop := (∀ t, C t → mz_vl s t ≤ r * t.2.2.2) ∧ ∃ t, C t ∧ (r - 1) * t.2.2.2 < mz_vl s t
theorem mz_Sup1 {C : mz_P → Prop} {s : mz_P} {r r' : Int} (hu : ∀ t, C t → 1 ≤ t.2.2.2) (h : mz_Sup C s r) (h' : mz_Sup C s r') : r' = r := by
  have key : ∀ a b : Int, mz_Sup C s a → mz_Sup C s b → ¬ a < b := by
    intro a b ha hb hab
    obtain ⟨t, ht, hl⟩ := hb.2
    have h1 := ha.1 t ht
    have u := hu t ht
    have := Int.mul_le_mul_of_nonneg_right (show a ≤ b - 1 by omega) (show 0 ≤ t.2.2.2 by omega)
    omega
  have a := key r r' h h'
  have b := key r' r h' h
  omega
theorem mz_Sup2 {C : mz_P → Prop} {s : mz_P} {r : Int} (h1 : ∀ t, C t → mz_vl s t ≤ r * t.2.2.2) (h2 : ¬ ∀ t, C t → mz_vl s t ≤ (r - 1) * t.2.2.2) : mz_Sup C s r := by
  refine ⟨h1, ?_⟩
  refine Classical.byContradiction fun h => h2 fun t ht => ?_
  refine Classical.byContradiction fun h3 => h ⟨t, ht, by omega⟩
/- the farthest coordinate in lowest terms -/
def mz_Rc (C : mz_P → Prop) (ax : Nat) (sg a b : Int) : Prop := ∃ t, C t ∧ (∀ t', C t' → sg * mz_co ax t' * t.2.2.2 ≤ sg * mz_co ax t * t'.2.2.2) ∧ a = (mz_co ax t).tdiv (mz_g (mz_co ax t) t.2.2.2) ∧ b = t.2.2.2.tdiv (mz_g (mz_co ax t) t.2.2.2)
theorem mz_Rc1 {C : mz_P → Prop} {ax : Nat} {sg a b a' b' : Int} (hs : sg = 1 ∨ sg = -1) (hu : ∀ t, C t → 1 ≤ t.2.2.2) (h : mz_Rc C ax sg a b) (h' : mz_Rc C ax sg a' b') : a' = a ∧ b' = b := by
  obtain ⟨t, ht, hm, e1, e2⟩ := h
  obtain ⟨t', ht', hm', e1', e2'⟩ := h'
  have u := hu t ht
  have u' := hu t' ht'
  have k1 := hm t' ht'
  have k2 := hm' t ht
  have e : mz_co ax t' * t.2.2.2 = mz_co ax t * t'.2.2.2 := by
    rcases hs with z | z <;> subst z
    · simp only [Int.one_mul] at k1 k2; omega
    · simp only [Int.neg_mul, Int.one_mul] at k1 k2; omega
  have r := mz_red (by omega) (by omega) e
  rw [e1, e2, e1', e2']
  exact r
/- one point -/
def mz_one (C : mz_P → Prop) : Prop := (∃ t, C t) ∧ ∀ ax, ax < 3 → ∀ t t', C t → C t' → mz_co ax t * t'.2.2.2 = mz_co ax t' * t.2.2.2
theorem mz_Fone {C : mz_P → Prop} {pt : Nat → mz_P} {n : Nat} (hu : ∀ t, C t → 1 ≤ t.2.2.2) (h : mz_F C pt n) (h0 : 0 < n) :
    (∀ c, c < n → ∀ ax, ax < 3 → mz_co ax (pt c) * (pt 0).2.2.2 = mz_co ax (pt 0) * (pt c).2.2.2) ↔ mz_one C := by
  constructor
  · intro a
    refine ⟨⟨pt 0, h.1 0 h0⟩, fun ax hx t t' ht ht' => ?_⟩
    obtain ⟨c, hc, rfl⟩ := h.2 t ht
    obtain ⟨c', hc', rfl⟩ := h.2 t' ht'
    have u0 := hu _ (h.1 0 h0)
    exact mz_teq (a := mz_co ax (pt c)) (b := (pt c).2.2.2) (c := mz_co ax (pt 0)) (d := (pt 0).2.2.2) (e := mz_co ax (pt c')) (f := (pt c').2.2.2) (by omega) (a c hc ax hx) (a c' hc' ax hx).symm
  · intro a c hc ax hx
    exact a.2 ax hx _ _ (h.1 c hc) (h.1 0 h0)
theorem mz_Gone {C : mz_P → Prop} {ax any any' : Nat} {T B T' B' : Int} (hx : ax < 3) (hu : ∀ t, C t → 1 ≤ t.2.2.2) (h : mz_G C (mz_un1 ax 1) any T B) (h' : mz_G C (mz_un1 ax (-1)) any' T' B') :
    (any' ≠ 0 ∧ T * B' = -T' * B) ↔ ((∃ t, C t) ∧ ∀ t t', C t → C t' → mz_co ax t * t'.2.2.2 = mz_co ax t' * t.2.2.2) := by
  have hn : ∀ t, mz_vl (mz_un1 ax (-1)) t = mz_vl (mz_ng (mz_un1 ax 1)) t := by
    intro t; rw [mz_vlng, mz_vlu _ _ ax hx, mz_vlu _ _ ax hx]; omega
  rcases h' with ⟨e', a'⟩ | ⟨e', b'⟩
  · exact ⟨fun z => absurd e' z.1, fun z => z.1.elim fun t ht => absurd ht (a' t)⟩
  · rcases h with ⟨e, a⟩ | ⟨e, b⟩
    · obtain ⟨t, ht, _⟩ := b'
      exact absurd ht (a t)
    · have b2 : mz_Bst C (mz_ng (mz_un1 ax 1)) T' B' := by
        obtain ⟨t, ht, eT, eB, hm⟩ := b'
        exact ⟨t, ht, by rw [eT, hn], eB, fun t' ht' => by rw [← hn]; exact hm t' ht'⟩
      have k := mz_nar hu b b2
      have ex : ∃ t, C t := b.elim fun t ht => ⟨t, ht.1⟩
      constructor
      · intro z
        refine ⟨ex, fun t t' ht ht' => ?_⟩
        have := k.mp z.2 t t' ht ht'
        rw [mz_vlu _ _ ax hx, mz_vlu _ _ ax hx, Int.one_mul, Int.one_mul] at this
        exact this
      · intro z
        refine ⟨by omega, k.mpr fun t t' ht ht' => ?_⟩
        rw [mz_vlu _ _ ax hx, mz_vlu _ _ ax hx, Int.one_mul, Int.one_mul]
        exact z.2 t t' ht ht'
/- how large the best is -/
theorem mz_Qv {s t : mz_P} {D : Nat} (hs : mz_R D s) (ht : mz_Q t) : -46080 ≤ mz_vl s t ∧ mz_vl s t ≤ 46080 := by
  have h1 := mz_mb 4 3840 hs.1.1 hs.1.2 ht.1.1 ht.1.2
  have h2 := mz_mb 4 3840 hs.2.1.1 hs.2.1.2 ht.2.1.1 ht.2.1.2
  have h3 := mz_mb 4 3840 hs.2.2.1.1 hs.2.2.1.2 ht.2.2.1.1 ht.2.2.1.2
  unfold mz_vl
  omega
theorem mz_Qd {t : mz_P} {d : Int} {D : Nat} (hd : -(D : Int) ≤ d ∧ d ≤ D) (ht : mz_Q t) : -((D * 384 : Nat) : Int) ≤ d * t.2.2.2 ∧ d * t.2.2.2 ≤ ((D * 384 : Nat) : Int) :=
  mz_mb D 384 hd.1 hd.2 ht.2.2.2.1 ht.2.2.2.2
