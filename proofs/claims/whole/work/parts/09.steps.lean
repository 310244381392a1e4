/- the component's three loops, step by step -/
def mz_XI (pl : Nat → mz_P) (N : Nat) (w : Int32) (i j k n : Nat) (pt : Nat → mz_P) : Prop := mz_V (mz_S pl (mz_gd N w)) (mz_D pl (mz_gd N w) (mz_lx i j k)) pt n
theorem mz_X1 {pl pt : Nat → mz_P} {N i j n : Nat} {w : Int32} (h : mz_XI pl N w i j 0 n pt) : mz_XI pl N w i j (j + 1) n pt :=
  mz_Vmo h fun _ => mz_Dmo fun i' j' k' a b _ _ _ l => by unfold mz_lx at *; omega
theorem mz_X2 {pl pt : Nat → mz_P} {N i j k n : Nat} {w : Int32} (h : mz_XI pl N w i j k n pt) (hk : N ≤ k) : mz_XI pl N w i (j + 1) 0 n pt :=
  mz_Vmo h fun _ => mz_Dmo fun i' j' k' a b _ _ g l => by have := g.1; unfold mz_lx at *; omega
theorem mz_X3 {pl pt : Nat → mz_P} {N i n : Nat} {w : Int32} (h : mz_XI pl N w i 0 0 n pt) : mz_XI pl N w i (i + 1) 0 n pt :=
  mz_Vmo h fun _ => mz_Dmo fun i' j' k' a b _ _ _ l => by unfold mz_lx at *; omega
theorem mz_X4 {pl pt : Nat → mz_P} {N i j n : Nat} {w : Int32} (h : mz_XI pl N w i j 0 n pt) (hj : N ≤ j) : mz_XI pl N w (i + 1) 0 0 n pt :=
  mz_Vmo h fun _ => mz_Dmo fun i' j' k' a b _ g _ l => by have := g.1; unfold mz_lx at *; omega
theorem mz_lx1 {i j k i' j' k' : Nat} (h : mz_lx i j (k + 1) i' j' k') : mz_lx i j k i' j' k' ∨ (i' = i ∧ j' = j ∧ k' = k) := by
  unfold mz_lx at *; omega
theorem mz_X5 {pl pt : Nat → mz_P} {N i j k n : Nat} {w : Int32} (h : mz_XI pl N w i j k n pt) (hn : ¬ (mz_gd N w i ∧ mz_gd N w j ∧ mz_gd N w k)) : mz_XI pl N w i j (k + 1) n pt :=
  mz_Vmo h fun _ hD => (mz_Dst i j k (fun _ _ _ _ _ _ _ _ l => mz_lx1 l) hD).elim id fun z => absurd ⟨z.2.2.1, z.2.2.2.1, z.2.2.2.2.1⟩ hn
/- what is no corner -/
def mz_Nc (pl : Nat → mz_P) (g : Nat → Prop) (i j k : Nat) : Prop := mz_det (pl i) (pl j) (pl k) = 0 ∨ ∃ e, g e ∧ ¬ mz_kp (pl e) (mz_cor (pl i) (pl j) (pl k))
def mz_Yc (pl : Nat → mz_P) (g : Nat → Prop) (i j k : Nat) : Prop := mz_det (pl i) (pl j) (pl k) ≠ 0 ∧ ∀ e, g e → mz_kp (pl e) (mz_cor (pl i) (pl j) (pl k))
theorem mz_Nno {pl : Nat → mz_P} {g : Nat → Prop} {i j k : Nat} (h : mz_Nc pl g i j k) (hd : mz_det (pl i) (pl j) (pl k) ≠ 0) : ¬ mz_C (mz_S pl g) (mz_cor (pl i) (pl j) (pl k)) := by
  rintro ⟨p, q, r, _, _, _, _, _, hk⟩
  rcases h with z | ⟨e, ge, z⟩
  · exact hd z
  · exact z (hk _ ⟨e, ge, rfl⟩)
theorem mz_X6 {pl pt pt' : Nat → mz_P} {N i j k n : Nat} {w : Int32} (h : mz_XI pl N w i j k n pt) (he : ∀ c, c < n → pt' c = pt c) (hn : mz_Nc pl (mz_gd N w) i j k) : mz_XI pl N w i j (k + 1) n pt' := by
  refine mz_Vno h he fun t hD hC => ?_
  rcases mz_Dst i j k (fun _ _ _ _ _ _ _ _ l => mz_lx1 l) hD with z | ⟨_, _, _, _, _, hd, ht⟩
  · exact z
  · exact absurd (ht ▸ hC) (mz_Nno hn hd)
theorem mz_X7 {pl pt pt' : Nat → mz_P} {N i j k n : Nat} {w : Int32} (h : mz_XI pl N w i j k n pt) (gi : mz_gd N w i) (gj : mz_gd N w j) (gk : mz_gd N w k) (he : ∀ c, c < n → pt' c = pt c)
    (h0 : pt' n = mz_cor (pl i) (pl j) (pl k)) (hy : mz_Yc pl (mz_gd N w) i j k) : mz_XI pl N w i j (k + 1) (n + 1) pt' := by
  refine mz_Vyes h he (fun t hD hC => ?_) h0 (mz_Cof gi gj gk hy.1 hy.2)
  rcases mz_Dst i j k (fun _ _ _ _ _ _ _ _ l => mz_lx1 l) hD with z | ⟨_, _, _, _, _, hd, ht⟩
  · exact Or.inl z
  · exact Or.inr ht
theorem mz_X8 {pl pt : Nat → mz_P} {N : Nat} {w : Int32} : mz_XI pl N w 0 0 0 0 pt := by
  refine ⟨fun c hc => absurd hc (Nat.not_lt_zero c), fun t hD _ => ?_⟩
  obtain ⟨i, j, k, _, _, _, _, _, l, _⟩ := hD
  unfold mz_lx at l; omega
theorem mz_X9 {pl pt : Nat → mz_P} {N i n : Nat} {w : Int32} (h : mz_XI pl N w i 0 0 n pt) (hi : N ≤ i) : mz_F (mz_C (mz_S pl (mz_gd N w))) pt n :=
  mz_VF h fun _ hC => mz_Dall (fun i' j' k' a b g _ _ => by have := g.1; unfold mz_lx; omega) hC
/- the reference's one loop, step by step -/
def mz_ltm (m e : Nat) : Prop := e < m
def mz_YI (pl : Nat → mz_P) (m : Nat) (s : mz_P) (code any : Nat) (T B : Int) : Prop := mz_W (mz_S pl (mz_ltm m)) (mz_D pl (mz_ltm m) (mz_cl m code)) s any T B
theorem mz_Y1 {pl : Nat → mz_P} {m : Nat} {s : mz_P} {T B : Int} : mz_YI pl m s 0 0 T B := by
  refine Or.inl ⟨rfl, fun t hD _ => ?_⟩
  obtain ⟨i, j, k, _, _, _, _, _, l, _⟩ := hD
  exact Nat.not_lt_zero _ l
theorem mz_Yst {pl : Nat → mz_P} {m code : Nat} {t : mz_P} (hD : mz_D pl (mz_ltm m) (mz_cl m (code + 1)) t) : mz_D pl (mz_ltm m) (mz_cl m code) t ∨ (code % m < code / m % m ∧ code / m % m < code / m / m ∧
    mz_det (pl (code % m)) (pl (code / m % m)) (pl (code / m / m)) ≠ 0 ∧ t = mz_cor (pl (code % m)) (pl (code / m % m)) (pl (code / m / m))) := by
  rcases mz_Dst (code % m) (code / m % m) (code / m / m) (fun i' j' k' _ _ gi gj _ l => mz_cl1 gi gj l) hD with z | ⟨a, b, _, _, _, hd, ht⟩
  · exact Or.inl z
  · exact Or.inr ⟨a, b, hd, ht⟩
theorem mz_Y2 {pl : Nat → mz_P} {m code any : Nat} {s : mz_P} {T B : Int} (h : mz_YI pl m s code any T B) (hn : ¬ (code % m < code / m % m ∧ code / m % m < code / m / m)) : mz_YI pl m s (code + 1) any T B :=
  mz_Wno h fun _ hD _ => (mz_Yst hD).elim id fun z => absurd ⟨z.1, z.2.1⟩ hn
theorem mz_Y3 {pl : Nat → mz_P} {m code any : Nat} {s : mz_P} {T B : Int} (h : mz_YI pl m s code any T B) (hn : mz_Nc pl (mz_ltm m) (code % m) (code / m % m) (code / m / m)) : mz_YI pl m s (code + 1) any T B := by
  refine mz_Wno h fun t hD hC => ?_
  rcases mz_Yst hD with z | ⟨_, _, hd, ht⟩
  · exact z
  · exact absurd (ht ▸ hC) (mz_Nno hn hd)
theorem mz_Ycof {pl : Nat → mz_P} {m code : Nat} (h0 : 0 < m) (hc : code < m * m * m) (hy : mz_Yc pl (mz_ltm m) (code % m) (code / m % m) (code / m / m)) : mz_C (mz_S pl (mz_ltm m)) (mz_cor (pl (code % m)) (pl (code / m % m)) (pl (code / m / m))) :=
  mz_Cof (mz_ck h0 hc).1 (mz_ck h0 hc).2.1 (mz_ck h0 hc).2.2 hy.1 hy.2
theorem mz_Y4 {pl : Nat → mz_P} {m code any : Nat} {s : mz_P} {T B : Int} (h : mz_YI pl m s code any T B) (h0 : 0 < m) (hc : code < m * m * m) (hy : mz_Yc pl (mz_ltm m) (code % m) (code / m % m) (code / m / m)) (ha : any = 1)
    (hn : ¬ T * (mz_cor (pl (code % m)) (pl (code / m % m)) (pl (code / m / m))).2.2.2 < mz_vl s (mz_cor (pl (code % m)) (pl (code / m % m)) (pl (code / m / m))) * B) : mz_YI pl m s (code + 1) 1 T B :=
  mz_Wst h (fun t hD _ => (mz_Yst hD).imp id fun z => z.2.2.2) (mz_Ycof h0 hc hy) ha hn
theorem mz_Y5 {pl : Nat → mz_P} {m code any : Nat} {s : mz_P} {T B : Int} (h : mz_YI pl m s code any T B) (h0 : 0 < m) (hc : code < m * m * m) (hy : mz_Yc pl (mz_ltm m) (code % m) (code / m % m) (code / m / m))
    (hn : any = 0 ∨ T * (mz_cor (pl (code % m)) (pl (code / m % m)) (pl (code / m / m))).2.2.2 < mz_vl s (mz_cor (pl (code % m)) (pl (code / m % m)) (pl (code / m / m))) * B) :
    mz_YI pl m s (code + 1) 1 (mz_vl s (mz_cor (pl (code % m)) (pl (code / m % m)) (pl (code / m / m)))) (mz_cor (pl (code % m)) (pl (code / m % m)) (pl (code / m / m))).2.2.2 :=
  mz_Wnew h (fun t hD _ => (mz_Yst hD).imp id fun z => z.2.2.2) (mz_Ycof h0 hc hy) hn
theorem mz_Y6 {pl : Nat → mz_P} {m any : Nat} {s : mz_P} {T B : Int} (h : mz_YI pl m s (m * m * m) any T B) : mz_G (mz_C (mz_S pl (mz_ltm m))) s any T B :=
  mz_Wend h fun _ hC => mz_Dall (fun _ _ _ _ _ gi gj gk => mz_clE gi gj gk) hC
theorem mz_YB {pl : Nat → mz_P} {m code any : Nat} {s : mz_P} {T B : Int} {D : Nat} (h : mz_YI pl m s code any T B) (ha : any = 1) (hR : ∀ e, e < m → mz_R 40 (pl e)) (hs : mz_R D s) : (-46080 ≤ T ∧ T ≤ 46080) ∧ (1 ≤ B ∧ B ≤ 384) := by
  rcases h with ⟨e, _⟩ | ⟨_, t0, h0, eT, eB, _⟩
  · omega
  · have q := mz_CQ (fun p ⟨e, he, hp⟩ => hp ▸ hR e he) h0
    have v := mz_Qv hs q
    have u := mz_Cun h0
    have w := q.2.2.2
    rw [eT, eB]; omega
/- what is put into the reference's arrays -/
def mz_pt (pl : Nat → mz_P) (m : Nat) (U : mz_P → Prop) : Prop := ∀ p, mz_S pl (mz_ltm m) p ↔ U p
theorem mz_pt1 {pl pl' : Nat → mz_P} {m : Nat} {U U' : mz_P → Prop} {s : mz_P} (h : mz_pt pl m U) (he : ∀ e, e < m → pl' e = pl e) (h0 : pl' m = s) (hU : ∀ p, U' p ↔ U p ∨ s = p) : mz_pt pl' (m + 1) U' := by
  intro p
  rw [hU p, ← h p]
  constructor
  · rintro ⟨e, he', rfl⟩
    rcases Nat.lt_or_ge e m with a | a
    · exact Or.inl ⟨e, a, (he e a).symm⟩
    · have : e = m := by unfold mz_ltm at he'; omega
      subst this; exact Or.inr h0.symm
  · rintro (⟨e, he', rfl⟩ | rfl)
    · exact ⟨e, Nat.lt_succ_of_lt he', he e he'⟩
    · exact ⟨m, Nat.lt_succ_self m, h0⟩
