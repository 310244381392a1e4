/- the reference's search -/
theorem mz_l64 {s t : mz_P} {D : Nat} (hs : mz_R D s) (ht : mz_Q t) : (mz_z s.1).toInt64 * (mz_z t.1).toInt64 + (mz_z s.2.1).toInt64 * (mz_z t.2.1).toInt64 + (mz_z s.2.2.1).toInt64 * (mz_z t.2.2.1).toInt64 = mz_l (mz_vl s t) := by
  have a1 := hs.1
  have a2 := hs.2.1
  have a3 := hs.2.2.1
  have b1 := ht.1
  have b2 := ht.2.1
  have b3 := ht.2.2.1
  rw [mz_zL (x := s.1) ⟨by omega, by omega⟩, mz_zL (x := s.2.1) ⟨by omega, by omega⟩, mz_zL (x := s.2.2.1) ⟨by omega, by omega⟩, mz_zL (x := t.1) ⟨by omega, by omega⟩, mz_zL (x := t.2.1) ⟨by omega, by omega⟩, mz_zL (x := t.2.2.1) ⟨by omega, by omega⟩, mz_lm, mz_lm, mz_lm, mz_la, mz_la]
  rfl
theorem mz_lcmp {v T B u : Int} (hv : -46080 ≤ v ∧ v ≤ 46080) (hT : -46080 ≤ T ∧ T ≤ 46080) (hB : 1 ≤ B ∧ B ≤ 384) (hu : -384 ≤ u ∧ u ≤ 384) : mz_l v * mz_l B ≤ mz_l T * mz_l u ↔ v * B ≤ T * u := by
  have a := mz_mb 46080 384 hv.1 hv.2 (show -((384 : Nat) : Int) ≤ B by omega) (show B ≤ ((384 : Nat) : Int) by omega)
  have b := mz_mb 46080 384 hT.1 hT.2 hu.1 hu.2
  rw [mz_lm, mz_lm]
  exact mz_lle ⟨by omega, by omega⟩ ⟨by omega, by omega⟩
theorem mz_Ys103 (post : SY → Prop) (J13 : Int32 → Int32 → Int32 → Int32 → Int32 → Int32 → Int32 → Int32 → Int64 → Int64 → (Nat → Int32) → (Nat → Int32) → (Nat → Int32) → (Nat → Int32) → (Nat → Int32) → (Nat → Int32) → Prop) {m i j k code any D : Nat} {T B : Int} (hm : m ≤ 13) (hi : i < m) (hj : j < m) (hk : k < m) (s : mz_P) (hs : mz_R D s) (cn px py pz un : Int32) (sl lm a b c d : Nat → Int32) (hR : ∀ e, e < m → mz_R 40 (mz_qa a b c d e))
    (ha : any = 0 ∨ any = 1) (hb : any = 1 → (-46080 ≤ T ∧ T ≤ 46080) ∧ (1 ≤ B ∧ B ≤ 384)) (t : mz_P) (et : t = mz_cor (mz_qa a b c d i) (mz_qa a b c d j) (mz_qa a b c d k))
    (hskip : ¬ (i < j ∧ j < k) → J13 (nI (code + 1)) cn (nI m) px py pz un (nI any) (mz_l T) (mz_l B) sl lm a b c d)
    (hno : mz_Nc (mz_qa a b c d) (mz_ltm m) i j k → ∀ px py pz un, J13 (nI (code + 1)) cn (nI m) px py pz un (nI any) (mz_l T) (mz_l B) sl lm a b c d)
    (hkeep : mz_Yc (mz_qa a b c d) (mz_ltm m) i j k → any = 1 → ¬ T * t.2.2.2 < mz_vl s t * B → ∀ px py pz un, J13 (nI (code + 1)) cn (nI m) px py pz un (nI 1) (mz_l T) (mz_l B) sl lm a b c d)
    (hnew : mz_Yc (mz_qa a b c d) (mz_ltm m) i j k → (any = 0 ∨ T * t.2.2.2 < mz_vl s t * B) → ∀ px py pz un, J13 (nI (code + 1)) cn (nI m) px py pz un (nI 1) (mz_l (mz_vl s t)) (mz_l t.2.2.2) sl lm a b c d) :
    wY_search_103 post J13 (mz_z s.1) (mz_z s.2.1) (mz_z s.2.2.1) (nI code) (nI i) (nI j) (nI k) cn (nI m) px py pz un (nI any) (mz_l T) (mz_l B) sl lm a b c d := by
  have hQ : mz_Q t := by rw [et]; exact mz_corQ (hR i hi) (hR j hj) (hR k hk)
  have hv := mz_Qv hs hQ
  have hu := hQ.2.2.2
  by_cases z : j ≤ i
  · exact br_t (nI_le z (by omega)) (nm_r (nI_1 code) (hskip (by omega)))
  · refine br_f (nI_ge (by omega) (by omega)) ?_
    by_cases y : k ≤ j
    · exact br_t (nI_le y (by omega)) (nm_r (nI_1 code) (hskip (by omega)))
    · refine br_f (nI_ge (by omega) (by omega)) ?_
      refine mz_Ycor _ hm hi hj hk cn px py pz un (nI any) (mz_l T) (mz_l B) sl lm a b c d hR t et (fun hy => ?_) (fun hn px py pz un => ?_)
      · refine br_f (by decide) (nm_r (mz_l64 hs hQ) ?_)
        have eu : (mz_z t.2.2.2).toInt64 = mz_l t.2.2.2 := mz_zL ⟨by omega, by omega⟩
        have new : (any = 0 ∨ T * t.2.2.2 < mz_vl s t * B) → wY_search_189 post J13 (mz_z s.1) (mz_z s.2.1) (mz_z s.2.2.1) (nI code) (mz_l (mz_vl s t)) cn (nI m) (mz_z t.1) (mz_z t.2.1) (mz_z t.2.2.1) (mz_z t.2.2.2) (nI any) (mz_l T) (mz_l B) sl lm a b c d := by
          intro h
          unfold wY_search_189
          rw [eu]
          exact nm_r (nI_1 code) (hnew hy h _ _ _ _)
        rcases ha with e | e
        · subst e
          exact br_t rfl (new (Or.inl rfl))
        · subst e
          have hb' := hb rfl
          refine br_f (by decide) ?_
          rw [eu]
          have cmp := mz_lcmp hv hb'.1 hb'.2 hu
          by_cases x : mz_vl s t * B ≤ T * t.2.2.2
          · exact br_t (cmp.mpr x) (nm_r (nI_1 code) (hkeep hy rfl (by omega) _ _ _ _))
          · exact br_f (fun q => x (cmp.mp q)) (new (Or.inr (by omega)))
      · exact br_t rfl (nm_r (nI_1 code) (hno hn px py pz un))
theorem mz_Ys13 (post : SY → Prop) {m D : Nat} (hm : 6 ≤ m ∧ m ≤ 13) (s : mz_P) (hs : mz_R D s) (cn : Int32) (sl lm a b c d : Nat → Int32) (hR : ∀ e, e < m → mz_R 40 (mz_qa a b c d e))
    (hp : ∀ px py pz un any T B, mz_G (mz_C (mz_S (mz_qa a b c d) (mz_ltm m))) s any T B → post (cn, nI m, px, py, pz, un, nI any, mz_l T, mz_l B, sl, lm, a, b, c, d)) :
    ∀ f code any T B px py pz un, code ≤ m * m * m → m * m * m - code < f → mz_YI (mz_qa a b c d) m s code any T B → wY_search_13 post (mz_z s.1) (mz_z s.2.1) (mz_z s.2.2.1) f (nI code) cn (nI m) px py pz un (nI any) (mz_l T) (mz_l B) sl lm a b c d := by
  have hM : m * m * m ≤ 2197 := Nat.mul_le_mul (Nat.mul_le_mul hm.2 hm.2) hm.2
  have e3 : nI m * nI m * nI m = nI (m * m * m) := by rw [pk_mul, pk_mul]
  have ne : ¬ nI m = 0 := nI_ne0 (by omega) (by omega)
  have one : (1 : Int32) ≤ nI m := nI_le (a := 1) (by omega) (by omega)
  intro f
  induction f with
  | zero => intro code any T B px py pz un _ h; omega
  | succ f ih =>
    intro code any T B px py pz un hc hf hI
    by_cases z : code = m * m * m
    · subst z
      exact br_t (by rw [e3]; exact nI_le (Nat.le_refl _) (by omega)) (hp px py pz un any T B (mz_Y6 hI))
    · have hlt : code < m * m * m := by omega
      have ck := mz_ck (show 0 < m by omega) hlt
      have hcd : code / m < 2 ^ 31 := Nat.lt_of_le_of_lt (Nat.div_le_self code m) (by omega)
      have r1 : nI code - nI code / nI m * nI m = nI (code % m) := pk_rem (by omega) (by omega) (by omega)
      have r0 : nI code / nI m = nI (code / m) := pk_div (by omega) (by omega) (by omega)
      have r2 : nI (code / m) - nI (code / m) / nI m * nI m = nI (code / m % m) := pk_rem hcd (by omega) (by omega)
      have r3 : nI (code / m) / nI m = nI (code / m / m) := pk_div hcd (by omega) (by omega)
      have ha : any = 0 ∨ any = 1 := hI.elim (fun x => Or.inl x.1) (fun x => Or.inr x.1)
      refine br_f (by rw [e3]; exact nI_ge (by omega) (by omega)) ?_
      refine br_t one ⟨ne, ?_⟩
      rw [r1]
      refine br_t one ⟨ne, ne, ?_⟩
      rw [r0, r2]
      refine br_t one ⟨ne, ne, ?_⟩
      rw [r0, r3]
      refine mz_Ys103 post _ hm.2 ck.1 ck.2.1 ck.2.2 s hs cn px py pz un sl lm a b c d hR ha (fun h => mz_YB hI h hR hs) _ rfl (fun h => ?_) (fun h px py pz un => ?_) (fun hy h1 h px py pz un => ?_) (fun hy h px py pz un => ?_)
      · exact ih (code + 1) any T B px py pz un (by omega) (by omega) (mz_Y2 hI h)
      · exact ih (code + 1) any T B px py pz un (by omega) (by omega) (mz_Y3 hI h)
      · exact ih (code + 1) 1 T B px py pz un (by omega) (by omega) (mz_Y4 hI (by omega) hlt hy h1 h)
      · exact ih (code + 1) 1 _ _ px py pz un (by omega) (by omega) (mz_Y5 hI (by omega) hlt hy h)
theorem mz_Ysearch (post : SY → Prop) {N D : Nat} (hN : N ≤ 7) (w u v x : Int32) (s : mz_P) (hs : mz_R D s) (eu : u = mz_z s.1) (ev : v = mz_z s.2.1) (ex : x = mz_z s.2.2.1) (mn px py pz un an : Int32) (bt bb : Int64) (sl lm a b c d : Nat → Int32) (hR : ∀ p, mz_U sl lm N w p → mz_R 40 p)
    (hp : ∀ m px py pz un any T B a b c d, mz_G (mz_C (mz_U sl lm N w)) s any T B → post (nI N, nI m, px, py, pz, un, nI any, mz_l T, mz_l B, sl, lm, a, b, c, d)) :
    wpY_search post (nI N, mn, px, py, pz, un, an, bt, bb, sl, lm, a, b, c, d) w u v x := by
  subst eu ev ex
  unfold wpY_search
  dsimp only
  refine mz_Ytake _ hN w mn px py pz un an bt bb sl lm a b c d fun m a b c d h1 h2 h3 => ?_
  have hR' : ∀ e, e < m → mz_R 40 (mz_qa a b c d e) := fun e he => hR _ (by rw [← h3]; exact ⟨e, he, rfl⟩)
  have k := mz_Ys13 post ⟨h1, h2⟩ s hs (nI N) sl lm a b c d hR' (fun px py pz un any T B hG => hp m px py pz un any T B a b c d (by rw [← h3]; exact hG)) (m * m * m + 1) 0 0 bt.toInt bb.toInt px py pz un (by omega) (by omega) mz_Y1
  rw [mz_lt', mz_lt'] at k
  exact ⟨m * m * m + 1, k⟩
theorem mz_GB {C : mz_P → Prop} {s : mz_P} {any D : Nat} {T B : Int} (h : mz_G C s any T B) (ha : any ≠ 0) (hs : mz_R D s) (hQ : ∀ t, C t → mz_Q t) (hu : ∀ t, C t → 1 ≤ t.2.2.2) : (-46080 ≤ T ∧ T ≤ 46080) ∧ (1 ≤ B ∧ B ≤ 384) := by
  rcases h with ⟨e, _⟩ | ⟨_, t0, h0, eT, eB, _⟩
  · exact absurd e ha
  · have v := mz_Qv hs (hQ t0 h0)
    have u := hu t0 h0
    have w := (hQ t0 h0).2.2.2
    rw [eT, eB]; omega
theorem mz_Gan {C : mz_P → Prop} {s : mz_P} {any : Nat} {T B : Int} (h : mz_G C s any T B) : any = 0 ∨ any = 1 := h.elim (fun x => Or.inl x.1) (fun x => Or.inr x.1)
