/-! the class's answers, in terms of the list of ways -/
def wr_RX (G : Nat → Nat) (u : SX) : Prop := u.2.2.1 = fun i => nI (G i)
theorem wr_RX_o {G : Nat → Nat} {u : SX} (h : wr_RX G u) : ∃ tc rc tr rk, u = (tc, rc, (fun i => nI (G i)), tr, rk) := by
  obtain ⟨tc, rc, rl, tr, rk⟩ := u
  have h' : rl = fun i => nI (G i) := h
  exact ⟨tc, rc, tr, rk, by rw [h']⟩
/-- r is the way of rank k -/
def wr_at (G : Nat → Nat) (tn : Nat) (W : List (List Nat)) (k : Int32) (r : List Nat) : Prop := r ∈ W ∧ k = nI (wr_rk G tn W r) ∧ ∀ r', r' ∈ W → k = nI (wr_rk G tn W r') → r' = r
theorem wr_XR_l {G : Nat → Nat} {s t : Int32} {tn : Nat} {W : List (List Nat)} (hV : wr_V G s t tn W) {R : List Nat} (h : wr_R G tn W R) : R.length ≤ 65 := by
  rw [wr_R_len h]; exact wr_V_65 hV
theorem wr_XR_b {G : Nat → Nat} (hG : ∀ i, G i ≤ 20) {s t : Int32} {tn : Nat} {W : List (List Nat)} (hV : wr_V G s t tn W) {R : List Nat} (h : wr_R G tn W R) : ∀ y, y ∈ R → y < 2 ^ 31 := by
  intro y hy
  obtain ⟨r, hr, e⟩ := (wr_R_mem h).1 hy
  have := wr_g_K hG (wr_V_g hV r hr)
  omega
theorem wr_at_k {G : Nat → Nat} {s t : Int32} {tn : Nat} {W : List (List Nat)} (hV : wr_V G s t tn W) {R : List Nat} (h : wr_R G tn W R) {j : Nat} (hj : j < R.length) : ∃ r, wr_at G tn W (nI j) r ∧ R[j] = wr_K G (tn :: r) := by
  have hl := wr_XR_l hV h
  obtain ⟨w, hw, e1, e2⟩ := wr_rk_ex h hj
  refine ⟨W[w], ⟨List.getElem_mem hw, by rw [e2], fun r' hr' e => ?_⟩, e1⟩
  obtain ⟨hk, ek⟩ := wr_rk_of h hr'
  rw [nI_eq (by omega) (by omega)] at e
  apply Classical.byContradiction
  intro ne
  obtain ⟨_, _, _, _, _, _, _, z⟩ := wr_V_lt hV hr' (List.getElem_mem hw) ne
  apply z
  rw [← ek, ← e1]
  congr 1
  exact e.symm
theorem wr_at_n {G : Nat → Nat} {tn : Nat} {W : List (List Nat)} {R : List Nat} (h : wr_R G tn W R) {k : Int32} (no : ∀ j, j < R.length → k ≠ nI j) : ∀ r, r ∈ W → k ≠ nI (wr_rk G tn W r) := by
  intro r hr
  obtain ⟨hk, _⟩ := wr_rk_of h hr
  exact no _ hk
theorem wr_X_hr {post : Int32 → Prop} {L : Nat} {tc : Int32} {rl tr rk : Nat → Int32} {k : Int32} (hL : L ≤ 65) (h1 : ∀ j, j < L → k = nI j → post 1) (h0 : (∀ j, j < L → k ≠ nI j) → post 0) : wpX_hasRank post (tc, nI L, rl, tr, rk) k := by
  by_cases z : k < 0
  · refine br_t z (h0 (fun i hi e => ?_))
    rw [e] at z
    exact nI_pos (by omega) z
  · obtain ⟨j, hj, e⟩ := nI_of z
    refine br_f z ?_
    refine pk_le L j (fun l => h0 (fun i hi e' => ?_)) (fun l => h1 j l e) rfl e (by omega) hj
    rw [e, nI_eq hj (by omega)] at e'
    omega
theorem wr_X_cu {post : Int32 → Prop} {tc : Int32} {rl tr rk : Nat → Int32} {R : List Nat} (hA : wr_A nI rk R) (hl : R.length ≤ 65) (hb : ∀ y, y ∈ R → y < 2 ^ 31) {x : Int32} (h : post (nI (R.countP (fun n => decide (nI (n / 262144) ≤ x))))) : wpX_countUpTo post (tc, nI R.length, rl, tr, rk) x := by
  refine loop_0 (fun m i s => wX_countUpTo_4 post x tc (nI R.length) rl tr rk m s (nI i)) (fun i s => s = nI ((R.take i).countP (fun n => decide (nI (n / 262144) ≤ x)))) R.length (nI 0) rfl ?_ ?_
  · intro m s hs
    rw [List.take_length] at hs
    subst hs
    exact br_t (nI_le (Nat.le_refl _) (by omega)) h
  · intro m i s hi hs k
    subst hs
    have e : rk (nI i).toNatClampNeg = nI R[i] := by rw [nI_clamp (by omega)]; exact hA i hi
    have hc := wr_ct (fun n => decide (nI (n / 262144) ≤ x)) hi
    refine br_f (nI_ge hi (by omega)) ⟨vp_in_nI (by omega) (by decide), wr_X_lo e (hb _ (List.getElem_mem hi)) (br_c (fun c => ?_) (fun c => ?_))⟩
    · refine nm_r (nI_1 i) (k _ ?_)
      rw [hc, if_neg]
      · rfl
      · intro z
        exact Int32.not_lt.mpr (of_decide_eq_true z) c
    · refine nm_r (nI_1 _) (nm_r (nI_1 i) (k _ ?_))
      rw [hc, if_pos]
      exact decide_eq_true (Int32.not_lt.mp c)
theorem wr_X_fw {post : Int32 → Prop} {tc : Int32} {rl tr rk : Nat → Int32} {R : List Nat} (hA : wr_A nI rk R) (hl : R.length ≤ 65) (hb : ∀ y, y ∈ R → y < 2 ^ 31) {v : Nat} (hv : v < 6)
    (h1 : ∀ (k : Nat) (hk : k < R.length), (¬ ∃ i, i < 6 ∧ wr_d R[k] i = v) → (∀ (j : Nat) (hj : j < R.length), j < k → ∃ i, i < 6 ∧ wr_d R[j] i = v) → post (nI k)) (h0 : (∀ (j : Nat) (hj : j < R.length), ∃ i, i < 6 ∧ wr_d R[j] i = v) → post (-1)) : wpX_firstWithout post (tc, nI R.length, rl, tr, rk) (nI v) := by
  refine loop_0 (fun m i (_ : Unit) => wX_firstWithout_2 post (nI v) tc (nI R.length) rl tr rk m (nI i)) (fun i _ => ∀ (j : Nat) (hj : j < R.length), j < i → ∃ i, i < 6 ∧ wr_d R[j] i = v) R.length () (fun j hj l => absurd l (Nat.not_lt_zero _)) ?_ ?_
  · intro m s hs
    exact br_t (nI_le (Nat.le_refl _) (by omega)) (h0 (fun j hj => hs j hj hj))
  · intro m i s hi hs k
    have e : rk (nI i).toNatClampNeg = nI R[i] := by rw [nI_clamp (by omega)]; exact hA i hi
    refine br_f (nI_ge hi (by omega)) ⟨vp_in_nI (by omega) (by decide), wr_X_ct e (hb _ (List.getElem_mem hi)) hv (fun c => ?_) (fun c => ?_)⟩
    · refine br_f (by decide) (nm_r (nI_1 i) (k () (fun j hj l => ?_)))
      rcases Nat.lt_or_ge j i with z | z
      · exact hs j hj z
      · have : j = i := by omega
        subst this
        exact c
    · exact br_t rfl (h1 i hi c hs)
theorem wr_X_fn {post : Int32 → Prop} {tc : Int32} {rl tr rk : Nat → Int32} {R : List Nat} (hA : wr_A nI rk R) (hl : R.length ≤ 65) (hb : ∀ y, y ∈ R → y < 2 ^ 31) {a b : Nat} (ha : a < 6) (hb6 : b < 6)
    (h1 : ∀ (k : Nat) (hk : k < R.length), wr_q a b R[k] = false → (∀ (j : Nat) (hj : j < R.length), j < k → wr_q a b R[j] = true) → post (nI k)) (h0 : (∀ (j : Nat) (hj : j < R.length), wr_q a b R[j] = true) → post (-1)) : wpX_firstNotTaking post (tc, nI R.length, rl, tr, rk) (nI a) (nI b) := by
  refine loop_0 (fun m i (_ : Unit) => wX_firstNotTaking_2 post (nI a) (nI b) tc (nI R.length) rl tr rk m (nI i)) (fun i _ => ∀ (j : Nat) (hj : j < R.length), j < i → wr_q a b R[j] = true) R.length () (fun j hj l => absurd l (Nat.not_lt_zero _)) ?_ ?_
  · intro m s hs
    exact br_t (nI_le (Nat.le_refl _) (by omega)) (h0 (fun j hj => hs j hj hj))
  · intro m i s hi hs k
    have e : rk (nI i).toNatClampNeg = nI R[i] := by rw [nI_clamp (by omega)]; exact hA i hi
    refine br_f (nI_ge hi (by omega)) ⟨vp_in_nI (by omega) (by decide), wr_X_tk e (hb _ (List.getElem_mem hi)) ha hb6 (fun c => ?_) (fun c => ?_)⟩
    · refine br_f (by decide) (nm_r (nI_1 i) (k () (fun j hj l => ?_)))
      rcases Nat.lt_or_ge j i with z | z
      · exact hs j hj z
      · have : j = i := by omega
        subst this
        exact c
    · exact br_t rfl (h1 i hi c hs)
