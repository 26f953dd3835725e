/-! the class's walk -/
def wr_XS (G : Nat → Nat) (t : Nat) (T V : List (List Nat)) (tc rc : Int32) (tr rk : Nat → Int32) : Prop :=
  tc = nI T.length ∧ wr_A (fun r => nI (wr_K G r)) tr T ∧ ∃ R, wr_S G t V R ∧ rc = nI R.length ∧ wr_A nI rk R
theorem wr_S_b {G : Nat → Nat} (hG : ∀ i, G i ≤ 20) {t : Nat} {V : List (List Nat)} {R : List Nat} (h : wr_S G t V R) (hg : ∀ r, r ∈ V → wr_g t r) : ∀ y, y ∈ R → y < 2 ^ 31 := by
  intro y hy
  obtain ⟨r, hr, e⟩ := List.mem_map.1 (h.2.mem_iff.1 hy)
  have := wr_g_K hG (hg r hr)
  rw [← e]
  show wr_K G (t :: r) < 2 ^ 31
  omega
theorem wr_v_n {G : Nat → Nat} {t : Nat} {r : List Nat} {i : Nat} (h : ¬ (i = t ∧ 0 < G (r.headD 0 * 6 + t))) : wr_v G t r (i + 1) = wr_v G t r i := by
  unfold wr_v
  by_cases z : t < i ∧ 0 < G (r.headD 0 * 6 + t)
  · rw [if_pos z, if_pos ⟨by omega, z.2⟩]
  · rw [if_neg z, if_neg]
    rintro ⟨a, b⟩
    by_cases e : i = t
    · exact h ⟨e, b⟩
    · exact z ⟨by omega, b⟩
theorem wr_v_y {G : Nat → Nat} {t : Nat} {r : List Nat} (h : 0 < G (r.headD 0 * 6 + t)) : wr_v G t r t = [] ∧ wr_v G t r (t + 1) = [r] := by
  unfold wr_v
  exact ⟨if_neg (fun z => by omega), if_pos ⟨by omega, h⟩⟩
theorem wr_X_ext {post : SX → Prop} {G : Nat → Nat} (hG : ∀ i, G i ≤ 20) {s t : Nat} (hs : s < 6) (ht : t < 6) (hst : s ≠ t) {A T V : List (List Nat)} (hT : wr_T G s t A T) {r : List Nat} (hr : r ∈ T) (hA : r ∉ A)
    (hV : V.length < 65) (hg : ∀ r, r ∈ V → wr_g t r) {tc rc : Int32} {tr rk : Nat → Int32} (h0 : wr_XS G t T V tc rc tr rk)
    (h : ∀ tc' rc' tr' rk', wr_XS G t (T ++ wr_x G t r 6) (V ++ wr_v G t r 6) tc' rc' tr' rk' → post (tc', rc', (fun i => nI (G i)), tr', rk')) :
    wpX_extendTrail post (tc, rc, (fun i => nI (G i)), tr, rk) (nI (wr_K G r)) (nI t) := by
  have hok := hT.2.1 r hr
  have hgr := wr_ok_g hs ht hst hok
  have hlt : ∀ x, x ∈ r → x < 6 := fun x hx => hgr.1 x (List.mem_cons_of_mem _ hx)
  have hp := wr_p_lt hlt
  have hlen := hgr.2.2
  have hK : wr_K G r < 2 ^ 31 := Nat.lt_trans (wr_K_lt hG hp (by omega)) (by decide)
  cases hr0 : r with
  | nil => rw [hr0] at hlen; exact absurd hlen.1 (by decide)
  | cons u r' =>
  rw [← hr0]
  have hL : r.length = r'.length + 1 := by rw [hr0]; rfl
  have hhd : r.headD 0 = u := by rw [hr0]; rfl
  have hu : u < 6 := hlt u (by rw [hr0]; exact List.mem_cons_self)
  have hu' : u ∈ r := by rw [hr0]; exact List.mem_cons_self
  unfold wpX_extendTrail
  dsimp only
  refine wr_X_sz rfl hK ?_
  rw [wr_sz_K hlt (by omega)]
  refine wr_X_pl hK (i := r'.length) (by omega) (by rw [hL]; exact nI_pred r'.length) ?_
  rw [wr_d_K hp r'.length (by omega), show wr_p r r'.length = u from by rw [hr0]; exact wr_p_hd u r']
  refine loop_0 (fun m i (q : Int32 × Int32 × (Nat → Int32) × (Nat → Int32)) => wX_extendTrail_17 post (nI (wr_K G r)) (nI t) (nI r.length) (nI u) m (nI i) q.1 q.2.1 (fun i => nI (G i)) q.2.2.1 q.2.2.2)
    (fun i q => wr_XS G t (T ++ wr_x G t r i) (V ++ wr_v G t r i) q.1 q.2.1 q.2.2.1 q.2.2.2) 6 (tc, rc, tr, rk) ?_ ?_ ?_
  · have e : wr_v G t r 0 = [] := if_neg (fun z => Nat.not_lt_zero _ z.1)
    rw [e, wr_x_0, List.append_nil, List.append_nil]
    exact h0
  · rintro m ⟨tc', rc', tr', rk'⟩ hq
    exact br_t (by decide) (h tc' rc' tr' rk' hq)
  · rintro m i ⟨tc', rc', tr', rk'⟩ hi hq k
    refine br_f (nI_ge (b := 6) hi (by decide)) ?_
    have skip : (¬ (0 < G (r.headD 0 * 6 + i) ∧ i ∉ r)) → wX_extendTrail_17 post (nI (wr_K G r)) (nI t) (nI r.length) (nI u) m (nI (i + 1)) tc' rc' (fun i => nI (G i)) tr' rk' := by
      intro no
      refine k (tc', rc', tr', rk') ?_
      rw [wr_x_n (fun z => no ⟨z.1, z.2.1⟩), wr_v_n]
      · exact hq
      · rintro ⟨e, z⟩
        rw [← e] at z
        refine no ⟨z, ?_⟩
        rw [e]
        exact hgr.2.1
    refine wr_X_road hG hu hi (fun no => ?_) (fun hne hpos => ?_)
    · refine br_t rfl (nm_r (nI_1 i) (skip ?_))
      rintro ⟨z1, z2⟩
      rw [hhd] at z1
      rcases no with e | e
      · rw [← e] at z2; exact z2 hu'
      · omega
    · have hg20 := hG (u * 6 + i)
      refine br_f (wr_nm1 (by omega)) ?_
      refine wr_X_ct rfl hK hi (fun c1 => ?_) (fun c0 => ?_)
      · refine br_f (by decide) (nm_r (nI_1 i) (skip ?_))
        rintro ⟨z1, z2⟩
        exact z2 ((wr_th_K hlt (by omega) hi).1 c1)
      · have hni : i ∉ r := fun z => c0 ((wr_th_K hlt (by omega) hi).2 z)
        have hd7 : wr_d (wr_K G r) r.length = 7 := by rw [wr_d_K hp r.length (by omega), wr_p_ge r _ (Nat.le_refl _)]
        refine br_t rfl (wr_X_wp (by omega) (by omega) hd7 ?_)
        refine nm_r (e' := nI (wr_K G (i :: r))) ?_ ?_
        · have e18 : nI (G (u * 6 + i)) <<< ((18 : Int32) &&& 31) = nI (G (u * 6 + i) * 2 ^ 18) := pk_shlN _ 18 (by decide) (by omega)
          rw [e18, nI_add]
          have ec : wr_K G (i :: r) = (wr_K G r - 7 * 8 ^ (5 - r.length) + i * 8 ^ (5 - r.length)) + G (u * 6 + i) * 262144 := by
            rw [hr0] at hp hlen ⊢
            exact wr_K_c hp hlen.2
          rw [ec]
        · have hpos' : 0 < G (r.headD 0 * 6 + i) := by rw [hhd]; exact hpos
          obtain ⟨q1, q2, R, qS, q3, q4⟩ := hq
          refine pk_eq i t (fun e => ?_) (fun e => ?_) rfl rfl (by omega) (by omega)
          · subst e
            obtain ⟨v1, v2⟩ := wr_v_y hpos'
            rw [v1, List.append_nil] at qS
            have hRl := wr_S_len qS
            have q3' : rc' = nI R.length := q3
            subst q3'
            refine wr_X_ar (by omega) q4 (wr_S_b hG qS hg) (Nat.lt_trans (wr_g_K hG hgr) (by decide)) qS.1 (fun j rk'' a1 a2 a3 => ?_)
            refine nm_r (nI_1 i) (k (tc', nI (R.length + 1), tr', rk'') ?_)
            rw [wr_x_n (fun z => z.2.2 rfl), v2]
            refine ⟨q1, q2, _, wr_S_i qS a1 a2, ?_, a3⟩
            rw [List.length_append, List.length_cons, List.length_take, List.length_drop]
            refine congrArg nI ?_
            omega
          · have hx := wr_x_y hpos' hni e
            have hTi := wr_T_i hT hr hA (i := i + 1) (by omega)
            have h65 := wr_65 hs ht hst hTi.1 hTi.2
            rw [hx, ← List.append_assoc, List.length_append] at h65
            have h65' : (T ++ wr_x G t r i).length < 65 := h65
            have q1' : tc' = nI (T ++ wr_x G t r i).length := q1
            subst q1'
            refine wr_X_at h65' ?_
            refine nm_r (nI_1 i) (k (nI ((T ++ wr_x G t r i).length + 1), rc', upd tr' (T ++ wr_x G t r i).length (nI (wr_K G (i :: r))), rk') ?_)
            rw [wr_v_n (fun z => e z.1), hx, ← List.append_assoc]
            refine ⟨?_, wr_A_push q2 (i :: r), R, qS, q3, q4⟩
            rw [List.length_append (as := T ++ wr_x G t r i)]
            rfl
/-- the state behind rankWays -/
def wr_XR (G : Nat → Nat) (tn : Nat) (W : List (List Nat)) (R : List Nat) (rc : Int32) (rk : Nat → Int32) : Prop := wr_R G tn W R ∧ rc = nI R.length ∧ wr_A nI rk R
theorem wr_X_rw {post : SX → Prop} {G : Nat → Nat} (hG : ∀ i, G i ≤ 20) {s t : Int32} {tn : Nat} {W : List (List Nat)} (hV : wr_V G s t tn W) {tc rc : Int32} {tr rk : Nat → Int32}
    (h : ∀ tc' rc' tr' rk' R, wr_XR G tn W R rc' rk' → post (tc', rc', (fun i => nI (G i)), tr', rk')) :
    wpX_rankWays post (tc, rc, (fun i => nI (G i)), tr, rk) s t := by
  rcases hV with ⟨si, hs, ht, hst, es, et, eW⟩ | ⟨no, eW⟩
  · unfold wpX_rankWays
    dsimp only
    refine wr_X_pair (fun i j hi hj hij ei ej => ?_) (fun no => absurd (no si tn hs ht es et) hst)
    refine br_f (by decide) ?_
    subst es et eW
    refine wr_X_wp (n := 262143) (L := 0) (by decide) (by omega) (by decide) ?_
    refine wr_X_at (L := 0) (by decide) ?_
    have e1 : nI (262143 - 7 * 8 ^ (5 - 0) + si * 8 ^ (5 - 0)) = nI (wr_K G [si]) := by rw [wr_K_1]
    rw [e1]
    refine pk_loop (fun m i (q : Int32 × Int32 × (Nat → Int32) × (Nat → Int32)) => wX_rankWays_35 post (nI tn) m (nI i) q.1 q.2.1 (fun i => nI (G i)) q.2.2.1 q.2.2.2)
      (fun i q => ∃ T, i ≤ T.length ∧ wr_T G si tn (T.take i) T ∧ wr_XS G tn T (wr_f G tn (T.take i)) q.1 q.2.1 q.2.2.1 q.2.2.2) 65 0 (nI 1, nI 0, upd tr 0 (nI (wr_K G [si])), rk) (by decide) ?_ ?_ ?_
    · refine ⟨[[si]], Nat.zero_le _, wr_T_0 G si tn, rfl, wr_A_push (wr_A_nil _ tr) [si], [], wr_S_0 G tn, rfl, wr_A_nil _ _⟩
    · rintro m ⟨tc', rc', tr', rk'⟩ ⟨T, hiT, hT, q1, q2, R, qS, q3, q4⟩
      have h65 := wr_65 hs ht hst hT.1 hT.2.1
      have eT : T.take 65 = T := List.take_of_length_le h65
      rw [eT] at hT qS
      exact br_t (by decide) (h tc' rc' tr' rk' R ⟨wr_f_R hs ht hst hT qS, q3, q4⟩)
    · rintro m i ⟨tc', rc', tr', rk'⟩ hi ⟨T, hiT, hT, hq⟩ k
      have h65 := wr_65 hs ht hst hT.1 hT.2.1
      refine br_f (nI_ge (b := 65) hi (by decide)) ?_
      refine pk_le T.length i (fun l => ?_) (fun l => ?_) hq.1 rfl (by omega) (by omega)
      · have eT : T.take i = T := List.take_of_length_le l
        rw [eT] at hT hq
        obtain ⟨q1, q2, R, qS, q3, q4⟩ := hq
        exact h tc' rc' tr' rk' R ⟨wr_f_R hs ht hst hT qS, q3, q4⟩
      · refine ⟨vp_in_nI hi (by decide), ?_⟩
        have ea : tr' (nI i).toNatClampNeg = nI (wr_K G T[i]) := by
          rw [nI_clamp (by omega)]
          exact hq.2.1 i l
        have hlen : (wr_f G tn (T.take i)).length < 65 := by
          have h1 : (wr_f G tn (T.take i)).length ≤ (T.take i).length := List.length_filter_le _ _
          rw [List.length_take] at h1
          omega
        have hgg : ∀ r, r ∈ wr_f G tn (T.take i) → wr_g tn r := fun r hr => wr_ok_g hs ht hst (hT.2.1 r (List.mem_of_mem_take (List.mem_filter.1 hr).1))
        have key := wr_X_ext (post := fun u => match u with | (a, b, c, d, e) => ∀ x : Int32, x = nI i + 1 → wX_rankWays_35 post (nI tn) m x a b c d e) hG hs ht hst hT (List.getElem_mem l) (wr_T_A hT l) hlen hgg hq (fun a b d e hS => nm_r (nI_1 i) (k (a, b, d, e) ?_))
        · show wpX_extendTrail _ (tc', rc', (fun i => nI (G i)), tr', rk') (tr' (nI i).toNatClampNeg) (nI tn)
          rw [ea]
          exact key
        · refine ⟨T ++ wr_x G tn T[i] 6, ?_, wr_T_n hT l, ?_⟩
          · rw [List.length_append]; omega
          · have e : (T ++ wr_x G tn T[i] 6).take (i + 1) = T.take i ++ [T[i]] := by
              rw [List.take_append_of_le_length (by omega), List.take_succ_eq_append_getElem l]
            rw [e, wr_f_s ht]
            exact hS
  · unfold wpX_rankWays
    dsimp only
    refine wr_X_pair (fun i j hi hj hij ei ej => absurd (no i j hi hj ei ej) hij) (fun _ => ?_)
    refine br_t rfl (h _ _ _ _ [] ⟨⟨List.Pairwise.nil, ?_⟩, rfl, wr_A_nil _ _⟩)
    rw [eW]
    exact List.Perm.refl _
