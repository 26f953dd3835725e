/-! the class's small methods -/
theorem wr_nm1 {g : Nat} (hg : g < 2 ^ 31) : ¬ nI g = -1 := by
  intro h
  have := nI_pos hg
  rw [h] at this
  exact this (by decide)
theorem wr_X_place {post : Int32 → Prop} {a : Int32} (h1 : ∀ i, i < 6 → a = nI i → post 1) (h0 : (∀ i, i < 6 → a ≠ nI i) → post 0) : wpX_isPlace post a := by
  by_cases z : a < 0
  · refine br_t z (h0 (fun i hi e => ?_))
    rw [e] at z
    exact nI_pos (by omega) z
  · obtain ⟨j, hj, e⟩ := nI_of z
    refine br_f z ?_
    refine pk_le 6 j (fun l => h0 (fun i hi e' => ?_)) (fun l => h1 j l e) rfl e (by omega) hj
    rw [e, nI_eq hj (by omega)] at e'
    omega
theorem wr_X_pair {post : Int32 → Prop} {a b : Int32} (h1 : ∀ i j, i < 6 → j < 6 → i ≠ j → a = nI i → b = nI j → post 1) (h0 : (∀ i j, i < 6 → j < 6 → a = nI i → b = nI j → i = j) → post 0) : wpX_isPair post a b := by
  refine wr_X_place (fun i hi ei => ?_) (fun no => ?_)
  · refine br_f (by decide) ?_
    refine wr_X_place (fun j hj ej => ?_) (fun no => ?_)
    · refine br_f (by decide) ?_
      refine pk_eq i j (fun e => h0 (fun i' j' h1 h2 h3 h4 => ?_)) (fun e => h1 i j hi hj e ei ej) ei ej
      rw [ei, nI_eq (by omega) (by omega)] at h3
      rw [ej, nI_eq (by omega) (by omega)] at h4
      omega
    · exact br_t rfl (h0 (fun i' j' _ h2 _ h4 => absurd h4 (no j' h2)))
  · exact br_t rfl (h0 (fun i' j' h1 _ h3 _ => absurd h3 (no i' h1)))
theorem wr_ixN {a b : Nat} : nI a * 6 + nI b = nI (a * 6 + b) := by
  show nI a * nI 6 + nI b = _
  rw [pk_mul, nI_add]
theorem wr_X_road {post : Int32 → Prop} {G : Nat → Nat} {tc rc : Int32} {tr rk : Nat → Int32} (hG : ∀ i, G i ≤ 20) {a b : Nat} (ha : a < 6) (hb : b < 6)
    (h0 : (a = b ∨ G (a * 6 + b) = 0) → post (-1)) (h1 : a ≠ b → 0 < G (a * 6 + b) → post (nI (G (a * 6 + b)))) : wpX_road post (tc, rc, (fun i => nI (G i)), tr, rk) (nI a) (nI b) := by
  unfold wpX_road
  dsimp only
  refine wr_X_pair (fun i j hi hj hij ei ej => ?_) (fun no => ?_)
  · rw [nI_eq (by omega) (by omega)] at ei ej
    subst ei ej
    refine br_f (by decide) ⟨?_, ?_⟩
    · rw [wr_ixN]; exact vp_in_nI (by omega) (by omega)
    · refine nm_r (e' := nI (G (a * 6 + b))) ?_ ?_
      · rw [wr_ixN, nI_clamp (by omega)]
      · have hg := hG (a * 6 + b)
        exact pk_eq (G (a * 6 + b)) 0 (fun e => h0 (Or.inr e)) (fun e => h1 hij (by omega)) rfl rfl (by omega) (by omega)
  · exact br_t rfl (h0 (Or.inl (no a b ha hb rfl rfl)))
theorem wr_X_roadN {post : Int32 → Prop} {u : SX} {a b : Int32} (no : ∀ i j, i < 6 → j < 6 → a = nI i → b = nI j → i = j) (h : post (-1)) : wpX_road post u a b := by
  obtain ⟨tc, rc, rl, tr, rk⟩ := u
  unfold wpX_road
  dsimp only
  refine wr_X_pair (fun i j hi hj hij ei ej => absurd (no i j hi hj ei ej) hij) (fun _ => ?_)
  exact br_t rfl h
theorem wr_X_pl {post : Int32 → Prop} {n i : Nat} {x y : Int32} (hn : n < 2 ^ 31) (hi : i < 6) (hx : x = nI i) (h : post (nI (wr_d n i))) (hy : y = nI n := by rfl) : wpX_placeAt post y x := by
  subst hx hy
  unfold wpX_placeAt
  rw [wr_pl hn hi]
  exact h
theorem wr_X_sz {post : Int32 → Prop} {n : Nat} {x : Int32} (hx : x = nI n) (hn : n < 2 ^ 31) (h : post (nI (wr_sz n 6))) : wpX_sizeOf post x := by
  subst hx
  refine loop_0 (fun m i s => wX_sizeOf_4 post (nI n) m s (nI i)) (fun i s => s = nI (wr_sz n i)) 6 (nI 0) rfl ?_ ?_
  · intro m s hs
    subst hs
    exact br_t (by decide) h
  · intro m i s hi hs k
    subst hs
    refine br_f (nI_ge (b := 6) hi (by decide)) (wr_X_pl hn hi rfl ?_)
    have hd := wr_d_lt n i
    refine pk_eq (wr_d n i) 7 (fun e => ?_) (fun e => ?_) rfl rfl (by omega) (by omega)
    · refine nm_r (nI_1 i) (k _ ?_)
      show _ = nI (if wr_d n i = 7 then wr_sz n i else wr_sz n i + 1)
      rw [if_pos e]
    · refine nm_r (nI_1 _) (nm_r (nI_1 i) (k _ ?_))
      show _ = nI (if wr_d n i = 7 then wr_sz n i else wr_sz n i + 1)
      rw [if_neg e]
theorem wr_X_ct {post : Int32 → Prop} {n v : Nat} {x : Int32} (hx : x = nI n) (hn : n < 2 ^ 31) (hv : v < 6) (h1 : (∃ i, i < 6 ∧ wr_d n i = v) → post 1) (h0 : (¬ ∃ i, i < 6 ∧ wr_d n i = v) → post 0) : wpX_comesThrough post x (nI v) := by
  subst hx
  refine loop_0 (fun m i (_ : Unit) => wX_comesThrough_2 post (nI n) (nI v) m (nI i)) (fun i _ => ∀ j, j < i → wr_d n j ≠ v) 6 () lt_0 ?_ ?_
  · intro m s hs
    exact br_t (by decide) (h0 (fun ⟨i, hi, e⟩ => hs i hi e))
  · intro m i s hi hs k
    refine br_f (nI_ge (b := 6) hi (by decide)) (wr_X_pl hn hi rfl ?_)
    have hd := wr_d_lt n i
    refine pk_eq (wr_d n i) v (fun e => h1 ⟨i, hi, e⟩) (fun e => ?_) rfl rfl (by omega) (by omega)
    exact nm_r (nI_1 i) (k () (lt_s hs e))
theorem wr_X_tk {post : Int32 → Prop} {n a b : Nat} {x : Int32} (hx : x = nI n) (hn : n < 2 ^ 31) (ha : a < 6) (hb : b < 6) (h1 : wr_q a b n = true → post 1) (h0 : wr_q a b n = false → post 0) : wpX_takesRoad post x (nI a) (nI b) := by
  subst hx
  refine loop_0 (fun m i (_ : Unit) => wX_takesRoad_2 post (nI n) (nI a) (nI b) m (nI i)) (fun i _ => ∀ j, j < i → ¬ (wr_d n j = a ∧ wr_d n (j + 1) = b)) 5 () lt_0 ?_ ?_
  · intro m s hs
    refine br_t (by decide) (h0 ?_)
    rw [← Bool.not_eq_true]
    intro z
    obtain ⟨i, hi, e⟩ := wr_q_i.1 z
    exact hs i hi e
  · intro m i s hi hs k
    have hd := wr_d_lt n i
    have hd' := wr_d_lt n (i + 1)
    refine br_f (nI_ge (b := 5) hi (by decide)) (wr_X_pl hn (by omega) rfl ?_)
    refine pk_eq (wr_d n i) a (fun e => ?_) (fun e => ?_) rfl rfl (by omega) (by omega)
    · refine wr_X_pl hn (i := i + 1) (by omega) (nI_1 i) ?_
      refine pk_eq (wr_d n (i + 1)) b (fun e' => h1 (wr_q_i.2 ⟨i, hi, e, e'⟩)) (fun e' => ?_) rfl rfl (by omega) (by omega)
      exact nm_r (nI_1 i) (k () (lt_s hs (fun z => e' z.2)))
    · exact nm_r (nI_1 i) (k () (lt_s hs (fun z => e z.1)))
theorem wr_X_wp {post : Int32 → Prop} {n L v : Nat} (hL : L < 6) (hv : v < 8) (hd : wr_d n L = 7) (h : post (nI (n - 7 * 8 ^ (5 - L) + v * 8 ^ (5 - L)))) : wpX_withPlace post (nI n) (nI L) (nI v) := by
  refine nm_r (wr_shN L hL) ?_
  have e := wr_put (n := n) (v := v) (sh := 3 * (5 - L)) (by omega) hv (by rw [wr_8]; exact hd)
  rw [wr_8] at e
  exact (congrArg post e).mpr h
theorem wr_X_at {post : SX → Prop} {L : Nat} {rc : Int32} {rl tr rk : Nat → Int32} {p0 : Int32} (hL : L < 65) (h : post (nI (L + 1), rc, rl, upd tr L p0, rk)) : wpX_addTrail post (nI L, rc, rl, tr, rk) p0 := by
  refine br_f (nI_ge (b := 65) hL (by decide)) ⟨vp_in_nI hL (by decide), ?_⟩
  refine nm_r (e' := upd tr L p0) (by rw [nI_clamp (by omega)]) ?_
  exact nm_r (nI_1 L) h
theorem wr_X_51 {post : SX → Prop} {tc : Int32} {rl tr f : Nat → Int32} {R : List Nat} {x i : Nat} (hl : R.length < 65) (hi : i ≤ R.length) (h : post (tc, nI (R.length + 1), rl, tr, upd f i (nI x))) : wX_addRanked_51 post (nI x) (nI i) tc (nI R.length) rl tr f := by
  refine ⟨vp_in_nI (by omega) (by decide), ?_⟩
  refine nm_r (e' := upd f i (nI x)) (by rw [nI_clamp (by omega)]) ?_
  exact nm_r (nI_1 R.length) h
theorem wr_X_ar {post : SX → Prop} {tc : Int32} {rl tr rk : Nat → Int32} {R : List Nat} {x : Nat} (hl : R.length < 65) (hA : wr_A nI rk R) (hb : ∀ y, y ∈ R → y < 2 ^ 31) (hx : x < 2 ^ 31) (hs : R.Pairwise (· ≤ ·))
    (h : ∀ i rk', (∀ y, y ∈ R.drop i → x ≤ y) → (∀ y, y ∈ R.take i → y ≤ x) → wr_A nI rk' (R.take i ++ x :: R.drop i) → post (tc, nI (R.length + 1), rl, tr, rk')) : wpX_addRanked post (tc, nI R.length, rl, tr, rk) (nI x) := by
  have hsg := List.pairwise_iff_getElem.1 hs
  refine br_t (nI_lt (b := 65) hl (by decide)) ⟨R.length + 1, ?_⟩
  refine pk_loopD (fun m i f => wX_addRanked_15 post (nI x) tc (nI R.length) m (nI i) rl tr f)
    (fun i f => i ≤ R.length ∧ (∀ (j : Nat) (hj : j < R.length), j < i → f j = nI R[j]) ∧ (∀ (j : Nat) (hj : j < R.length), i ≤ j → f (j + 1) = nI R[j]) ∧ (∀ (j : Nat) (hj : j < R.length), i ≤ j → x ≤ R[j])) ?_ ?_ R.length rk ⟨Nat.le_refl _, fun j hj _ => hA j hj, fun j hj l => by omega, fun j hj l => by omega⟩
  · rintro n f ⟨h1, h2, h3, h4⟩
    refine br_t (by decide) (wr_X_51 hl h1 (h 0 _ (fun y hy => ?_) (fun y hy => ?_) (wr_A_ins h1 h2 h3)))
    · obtain ⟨j, hj, e⟩ := List.mem_iff_getElem.1 hy
      rw [List.drop_zero] at hj
      rw [← e]
      exact h4 j hj (by omega)
    · rw [List.take_zero] at hy
      exact absurd hy List.not_mem_nil
  · rintro n i f ⟨h1, h2, h3, h4⟩ k
    have hi : i < R.length := h1
    have e1 : nI (i + 1) - 1 = nI i := nI_pred i
    have hc : (nI (i + 1) - 1).toNatClampNeg = i := by rw [e1, nI_clamp (by omega)]
    have hv : vp_in (nI (i + 1) - 1) 65 := by rw [e1]; exact vp_in_nI (by omega) (by decide)
    have hf : f (nI (i + 1) - 1).toNatClampNeg = nI R[i] := by rw [hc]; exact h2 i hi (by omega)
    refine br_f (nI_nle (by omega) (by omega)) ⟨hv, ?_⟩
    refine pk_le R[i] x (fun l => ?_) (fun l => ?_) hf rfl (hb _ (List.getElem_mem hi)) hx
    · refine wr_X_51 hl h1 (h (i + 1) _ (fun y hy => ?_) (fun y hy => ?_) (wr_A_ins h1 h2 h3))
      · obtain ⟨j, hj, e⟩ := List.mem_iff_getElem.1 hy
        rw [List.length_drop] at hj
        rw [← e, List.getElem_drop]
        exact h4 _ (by omega) (by omega)
      · obtain ⟨j, hj, e⟩ := List.mem_iff_getElem.1 hy
        rw [List.length_take] at hj
        rw [← e, List.getElem_take]
        rcases Nat.lt_or_ge j i with z | z
        · exact Nat.le_trans (hsg j i (by omega) hi z) l
        · have : j = i := by omega
          subst this
          exact l
    · refine ⟨hv, vp_in_nI (by omega) (by decide), ?_⟩
      refine nm_r (e' := upd f (i + 1) (nI R[i])) (by rw [hf, nI_clamp (by omega)]) ?_
      refine nm_r (pk_m1 i) (k _ ⟨by omega, fun j hj l' => ?_, fun j hj l' => ?_, fun j hj l' => ?_⟩)
      · rw [pk_un (by omega)]; exact h2 j hj (by omega)
      · rcases Nat.lt_or_ge i j with z | z
        · rw [pk_un (by omega)]; exact h3 j hj (by omega)
        · have : j = i := by omega
          subst this
          rw [pk_us]
      · rcases Nat.lt_or_ge i j with z | z
        · exact h4 j hj (by omega)
        · have : j = i := by omega
          subst this
          omega
theorem wr_X_lo {post : Int32 → Prop} {n : Nat} {x : Int32} (hx : x = nI n) (hn : n < 2 ^ 31) (h : post (nI (n / 262144))) : wpX_lengthOf post x := by
  subst hx
  unfold wpX_lengthOf
  rw [pk_shrN hn _ 18 (by decide)]
  exact h
