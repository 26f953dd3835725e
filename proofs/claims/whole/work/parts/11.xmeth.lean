/-! the class's methods, in terms of the list of ways -/
theorem wr_X_ways {post : Int32 → SX → Prop} {G : Nat → Nat} (hG : ∀ i, G i ≤ 20) {s t : Int32} {tn : Nat} {W : List (List Nat)} (hV : wr_V G s t tn W) {u : SX} (hu : wr_RX G u) (h : ∀ u', wr_RX G u' → post (nI W.length) u') : wpX_ways post u s t := by
  obtain ⟨tc, rc, tr, rk, rfl⟩ := wr_RX_o hu
  unfold wpX_ways
  dsimp only
  refine wr_X_rw hG hV (fun tc' rc' tr' rk' R hR => ?_)
  obtain ⟨hR, e, hA⟩ := hR
  subst e
  dsimp only
  rw [wr_R_len hR]
  exact h _ rfl
theorem wr_X_length {post : Int32 → SX → Prop} {G : Nat → Nat} (hG : ∀ i, G i ≤ 20) {s t : Int32} {tn : Nat} {W : List (List Nat)} (hV : wr_V G s t tn W) {u : SX} (hu : wr_RX G u) {k : Int32}
    (h1 : ∀ u' r, wr_RX G u' → wr_at G tn W k r → post (nI (wr_s G (tn :: r))) u') (h0 : ∀ u', wr_RX G u' → (∀ r, r ∈ W → k ≠ nI (wr_rk G tn W r)) → post (-1) u') : wpX_length post u s t k := by
  obtain ⟨tc, rc, tr, rk, rfl⟩ := wr_RX_o hu
  unfold wpX_length
  dsimp only
  refine wr_X_rw hG hV (fun tc' rc' tr' rk' R hR => ?_)
  obtain ⟨hR, e, hA⟩ := hR
  subst e
  dsimp only
  have hl := wr_XR_l hV hR
  refine wr_X_hr hl (fun j hj e => ?_) (fun no => ?_)
  · subst e
    obtain ⟨r, hat, eK⟩ := wr_at_k hV hR hj
    refine br_f (by decide) ⟨vp_in_nI (by omega) (by decide), wr_X_lo (n := R[j]) (by rw [nI_clamp (by omega)]; exact hA j hj) (wr_XR_b hG hV hR _ (List.getElem_mem hj)) ?_⟩
    rw [eK, wr_s_K (wr_g_p (wr_V_g hV r hat.1))]
    exact h1 _ r rfl hat
  · exact br_t rfl (h0 _ rfl (wr_at_n hR no))
theorem wr_X_size {post : Int32 → SX → Prop} {G : Nat → Nat} (hG : ∀ i, G i ≤ 20) {s t : Int32} {tn : Nat} {W : List (List Nat)} (hV : wr_V G s t tn W) {u : SX} (hu : wr_RX G u) {k : Int32}
    (h1 : ∀ u' r, wr_RX G u' → wr_at G tn W k r → post (nI (tn :: r).length) u') (h0 : ∀ u', wr_RX G u' → (∀ r, r ∈ W → k ≠ nI (wr_rk G tn W r)) → post (-1) u') : wpX_size post u s t k := by
  obtain ⟨tc, rc, tr, rk, rfl⟩ := wr_RX_o hu
  unfold wpX_size
  dsimp only
  refine wr_X_rw hG hV (fun tc' rc' tr' rk' R hR => ?_)
  obtain ⟨hR, e, hA⟩ := hR
  subst e
  dsimp only
  have hl := wr_XR_l hV hR
  refine wr_X_hr hl (fun j hj e => ?_) (fun no => ?_)
  · subst e
    obtain ⟨r, hat, eK⟩ := wr_at_k hV hR hj
    refine br_f (by decide) ⟨vp_in_nI (by omega) (by decide), wr_X_sz (n := R[j]) (by rw [nI_clamp (by omega)]; exact hA j hj) (wr_XR_b hG hV hR _ (List.getElem_mem hj)) ?_⟩
    have hg := wr_V_g hV r hat.1
    rw [eK, wr_sz_K hg.1 (wr_g_l hg)]
    exact h1 _ r rfl hat
  · exact br_t rfl (h0 _ rfl (wr_at_n hR no))
theorem wr_X_placeM {post : Int32 → SX → Prop} {G : Nat → Nat} (hG : ∀ i, G i ≤ 20) {s t : Int32} {tn : Nat} {W : List (List Nat)} (hV : wr_V G s t tn W) {u : SX} (hu : wr_RX G u) {k i : Int32}
    (h1 : ∀ u' r j, wr_RX G u' → wr_at G tn W k r → i = nI j → j < (tn :: r).length → post (nI (wr_p (tn :: r) j)) u') (h2 : ∀ u' r, wr_RX G u' → wr_at G tn W k r → (∀ j, j < (tn :: r).length → i ≠ nI j) → post (-1) u')
    (h0 : ∀ u', wr_RX G u' → (∀ r, r ∈ W → k ≠ nI (wr_rk G tn W r)) → post (-1) u') : wpX_place post u s t k i := by
  obtain ⟨tc, rc, tr, rk, rfl⟩ := wr_RX_o hu
  unfold wpX_place
  dsimp only
  refine wr_X_rw hG hV (fun tc' rc' tr' rk' R hR => ?_)
  obtain ⟨hR, e, hA⟩ := hR
  subst e
  dsimp only
  have hl := wr_XR_l hV hR
  refine wr_X_hr hl (fun j hj e => ?_) (fun no => ?_)
  · subst e
    obtain ⟨r, hat, eK⟩ := wr_at_k hV hR hj
    have hg := wr_V_g hV r hat.1
    have hgl := wr_g_l hg
    have ea : rk' (nI j).toNatClampNeg = nI R[j] := by rw [nI_clamp (by omega)]; exact hA j hj
    have hb := wr_XR_b hG hV hR _ (List.getElem_mem hj)
    refine br_f (by decide) ?_
    by_cases z : i < 0
    · refine br_t z (h2 _ r rfl hat (fun j' hj' e => ?_))
      rw [e] at z
      exact nI_pos (by omega) z
    · obtain ⟨i', hi', ei⟩ := nI_of z
      refine br_f z ⟨vp_in_nI (by omega) (by decide), wr_X_sz (n := R[j]) ea hb ?_⟩
      rw [eK, wr_sz_K hg.1 hgl]
      refine pk_lt i' (tn :: r).length (fun l => ?_) (fun l => ?_) ei rfl hi' (by omega)
      · refine ⟨vp_in_nI (by omega) (by decide), wr_X_pl (n := R[j]) hb (i := i') (by omega) ei ?_ ea⟩
        rw [eK, wr_d_K (wr_g_p hg) i' (by omega)]
        exact h1 _ r i' rfl hat ei l
      · refine h2 _ r rfl hat (fun j' hj' e => ?_)
        rw [ei, nI_eq hi' (by omega)] at e
        omega
  · exact br_t rfl (h0 _ rfl (wr_at_n hR no))
/-- how many ways are no longer than x -/
def wr_wi (G : Nat → Nat) (tn : Nat) (W : List (List Nat)) (x : Int32) : Nat := W.countP (fun r => decide (nI (wr_s G (tn :: r)) ≤ x))
theorem wr_X_within {post : Int32 → SX → Prop} {G : Nat → Nat} (hG : ∀ i, G i ≤ 20) {s t : Int32} {tn : Nat} {W : List (List Nat)} (hV : wr_V G s t tn W) {u : SX} (hu : wr_RX G u) {x : Int32} (h : ∀ u', wr_RX G u' → post (nI (wr_wi G tn W x)) u') : wpX_within post u s t x := by
  obtain ⟨tc, rc, tr, rk, rfl⟩ := wr_RX_o hu
  unfold wpX_within
  dsimp only
  refine wr_X_rw hG hV (fun tc' rc' tr' rk' R hR => ?_)
  obtain ⟨hR, e, hA⟩ := hR
  subst e
  dsimp only
  refine wr_X_cu hA (wr_XR_l hV hR) (wr_XR_b hG hV hR) ?_
  rw [wr_R_cnt hR (wr_V_g hV) (fun m => decide (nI m ≤ x))]
  exact h _ rfl
theorem wr_R_0 {G : Nat → Nat} {tn : Nat} {W : List (List Nat)} {R : List Nat} (h : wr_R G tn W R) (e : R.length = 0) : W = [] := by
  rw [wr_R_len h] at e
  exact List.length_eq_zero_iff.1 e
theorem wr_X_shortest {post : Int32 → SX → Prop} {G : Nat → Nat} (hG : ∀ i, G i ≤ 20) {s t : Int32} {tn : Nat} {W : List (List Nat)} (hV : wr_V G s t tn W) {u : SX} (hu : wr_RX G u)
    (h1 : ∀ u' r, wr_RX G u' → wr_at G tn W 0 r → post (nI (wr_wi G tn W (nI (wr_s G (tn :: r))))) u') (h0 : ∀ u', wr_RX G u' → W = [] → post 0 u') : wpX_shortest post u s t := by
  obtain ⟨tc, rc, tr, rk, rfl⟩ := wr_RX_o hu
  unfold wpX_shortest
  dsimp only
  refine wr_X_rw hG hV (fun tc' rc' tr' rk' R hR => ?_)
  obtain ⟨hR, e, hA⟩ := hR
  subst e
  dsimp only
  have hl := wr_XR_l hV hR
  refine pk_eq R.length 0 (fun e => h0 _ rfl (wr_R_0 hR e)) (fun e => ?_) rfl rfl (by omega) (by omega)
  have hj : 0 < R.length := by omega
  obtain ⟨r, hat, eK⟩ := wr_at_k hV hR hj
  refine wr_X_lo (n := R[0]) (hA 0 hj) (wr_XR_b hG hV hR _ (List.getElem_mem hj)) ?_
  refine wr_X_cu hA hl (wr_XR_b hG hV hR) ?_
  rw [eK, wr_s_K (wr_g_p (wr_V_g hV r hat.1)), wr_R_cnt hR (wr_V_g hV) (fun m => decide (nI m ≤ nI (wr_s G (tn :: r))))]
  exact h1 _ r rfl hat
/-- the places that every way comes through -/
def wr_al (tn : Nat) (W : List (List Nat)) (v : Nat) : Bool := W.all (fun r => (tn :: r).contains v)
theorem wr_al_i {tn : Nat} {W : List (List Nat)} {v : Nat} : wr_al tn W v = true ↔ ∀ r, r ∈ W → v ∈ tn :: r := by
  unfold wr_al
  rw [List.all_eq_true]
  constructor
  · intro h r hr
    have := h r hr
    rw [List.contains_eq_mem] at this
    exact of_decide_eq_true this
  · intro h r hr
    rw [List.contains_eq_mem]
    exact decide_eq_true (h r hr)
def wr_mu (s t : Int32) (tn : Nat) (W : List (List Nat)) : Nat → Int32
  | 0 => 0
  | v + 1 => if ¬ nI v = s ∧ ¬ nI v = t ∧ wr_al tn W v = true then wr_mu s t tn W v ||| ((1 : Int32) <<< (nI v &&& 31)) else wr_mu s t tn W v
theorem wr_mu_y {s t : Int32} {tn : Nat} {W : List (List Nat)} {v : Nat} (h1 : ¬ nI v = s) (h2 : ¬ nI v = t) (h3 : wr_al tn W v = true) : wr_mu s t tn W (v + 1) = wr_mu s t tn W v ||| ((1 : Int32) <<< (nI v &&& 31)) := by
  show (if _ then _ else _) = _
  rw [if_pos ⟨h1, h2, h3⟩]
theorem wr_mu_n {s t : Int32} {tn : Nat} {W : List (List Nat)} {v : Nat} (h : ¬ (¬ nI v = s ∧ ¬ nI v = t ∧ wr_al tn W v = true)) : wr_mu s t tn W (v + 1) = wr_mu s t tn W v := by
  show (if _ then _ else _) = _
  rw [if_neg h]
theorem wr_thr {G : Nat → Nat} {s t : Int32} {tn : Nat} {W : List (List Nat)} (hV : wr_V G s t tn W) {r : List Nat} (hr : r ∈ W) {v : Nat} (hv : v < 6) : (∃ i, i < 6 ∧ wr_d (wr_K G (tn :: r)) i = v) ↔ v ∈ tn :: r :=
  wr_th_K (wr_V_g hV r hr).1 (wr_g_l (wr_V_g hV r hr)) hv
theorem wr_thr_all {G : Nat → Nat} {s t : Int32} {tn : Nat} {W : List (List Nat)} (hV : wr_V G s t tn W) {R : List Nat} (hR : wr_R G tn W R) {v : Nat} (hv : v < 6) (h : ∀ (j : Nat) (hj : j < R.length), ∃ i, i < 6 ∧ wr_d R[j] i = v) : ∀ r, r ∈ W → v ∈ tn :: r := by
  intro r hr
  obtain ⟨hk, ek⟩ := wr_rk_of hR hr
  have := h _ hk
  rw [ek] at this
  exact (wr_thr hV hr hv).1 this
theorem wr_X_musts {post : Int32 → SX → Prop} {G : Nat → Nat} (hG : ∀ i, G i ≤ 20) {s t : Int32} {tn : Nat} {W : List (List Nat)} (hV : wr_V G s t tn W) {u : SX} (hu : wr_RX G u)
    (h1 : ∀ u', wr_RX G u' → W ≠ [] → post (wr_mu s t tn W 6) u') (h0 : ∀ u', wr_RX G u' → W = [] → post 0 u') : wpX_musts post u s t := by
  obtain ⟨tc, rc, tr, rk, rfl⟩ := wr_RX_o hu
  unfold wpX_musts
  dsimp only
  refine wr_X_rw hG hV (fun tc' rc' tr' rk' R hR => ?_)
  obtain ⟨hR, e, hA⟩ := hR
  subst e
  dsimp only
  have hl := wr_XR_l hV hR
  refine pk_eq R.length 0 (fun e => h0 _ rfl (wr_R_0 hR e)) (fun e => ?_) rfl rfl (by omega) (by omega)
  have hne : W ≠ [] := by
    intro z
    rw [wr_R_len hR, z] at e
    exact e rfl
  refine loop_0 (fun m i x => wX_musts_20 post s t tc' (nI R.length) (fun i => nI (G i)) tr' rk' m x (nI i)) (fun i x => x = wr_mu s t tn W i) 6 0 rfl ?_ ?_
  · intro m x hx
    subst hx
    exact br_t (by decide) (h1 _ rfl hne)
  · intro m i x hi hx k
    subst hx
    refine br_f (nI_ge (b := 6) hi (by decide)) (br_c (fun c => ?_) (fun c1 => br_c (fun c => ?_) (fun c2 => ?_)))
    · exact nm_r (nI_1 i) (k _ (wr_mu_n (fun z => z.1 c)).symm)
    · exact nm_r (nI_1 i) (k _ (wr_mu_n (fun z => z.2.1 c)).symm)
    · refine wr_X_fw hA hl (wr_XR_b hG hV hR) hi (fun j hj no _ => ?_) (fun all => ?_)
      · refine br_f (wr_nm1 (by omega)) (nm_r (nI_1 i) (k _ (wr_mu_n (fun z => ?_)).symm))
        obtain ⟨r, hr, er⟩ := (wr_R_mem hR).1 (List.getElem_mem hj)
        apply no
        rw [← er]
        exact (wr_thr hV hr hi).2 (wr_al_i.1 z.2.2 r hr)
      · refine br_t rfl (nm_e (nm_r (nI_1 i) (k _ ?_)))
        exact (wr_mu_y c1 c2 (wr_al_i.2 (wr_thr_all hV hR hi all))).symm
theorem wr_X_fa {post : Int32 → SX → Prop} {G : Nat → Nat} (hG : ∀ i, G i ≤ 20) {s t : Int32} {tn : Nat} {W : List (List Nat)} (hV : wr_V G s t tn W) {u : SX} (hu : wr_RX G u) {v : Nat} (hv : v < 6) (ns : ¬ nI v = s) (nt : ¬ nI v = t)
    (h1 : ∀ u' r, wr_RX G u' → r ∈ W → v ∉ tn :: r → (∀ r', r' ∈ W → v ∉ tn :: r' → wr_rk G tn W r ≤ wr_rk G tn W r') → post (nI (wr_rk G tn W r)) u') (h0 : ∀ u', wr_RX G u' → (∀ r, r ∈ W → v ∈ tn :: r) → post (-1) u') : wpX_firstAvoiding post u s t (nI v) := by
  obtain ⟨tc, rc, tr, rk, rfl⟩ := wr_RX_o hu
  unfold wpX_firstAvoiding
  dsimp only
  refine wr_X_place (fun _ _ _ => ?_) (fun no => absurd rfl (no v hv))
  refine br_f (by decide) (br_f ns (br_f nt ?_))
  refine wr_X_rw hG hV (fun tc' rc' tr' rk' R hR => ?_)
  obtain ⟨hR, e, hA⟩ := hR
  subst e
  dsimp only
  have hl := wr_XR_l hV hR
  refine wr_X_fw hA hl (wr_XR_b hG hV hR) hv (fun j hj no lo => ?_) (fun all => ?_)
  · obtain ⟨w, hw, e1, e2⟩ := wr_rk_ex hR hj
    rw [← e2]
    refine h1 _ W[w] rfl (List.getElem_mem hw) (fun z => ?_) (fun r' hr' no' => ?_)
    · apply no
      rw [e1]
      exact (wr_thr hV (List.getElem_mem hw) hv).2 z
    · rw [e2]
      obtain ⟨hk, ek⟩ := wr_rk_of hR hr'
      apply Classical.byContradiction
      intro l
      have := lo _ hk (by omega)
      rw [ek] at this
      exact no' ((wr_thr hV hr' hv).1 this)
  · exact h0 _ rfl (wr_thr_all hV hR hv all)
theorem wr_V_cut {G : Nat → Nat} {s t : Int32} {tn : Nat} {W : List (List Nat)} (hV : wr_V G s t tn W) {R : List Nat} (hR : wr_R G tn W R) {a b : Nat} (ha : a < 6) (hb : b < 6) : ∃ W', wr_V (wr_cut G (a * 6 + b)) s t tn W' ∧ wr_R (wr_cut G (a * 6 + b)) tn W' (R.filter (fun n => !wr_q a b n)) := by
  rcases hV with ⟨i, h1, h2, h3, h4, h5, e⟩ | ⟨no, e⟩
  · refine ⟨_, Or.inl ⟨i, h1, h2, h3, h4, h5, rfl⟩, ?_⟩
    rw [e] at hR
    exact wr_R_cut h1 h2 h3 ha hb hR
  · refine ⟨[], Or.inr ⟨no, rfl⟩, ?_⟩
    rw [e] at hR
    have h0 : R = [] := List.length_eq_zero_iff.1 (wr_R_len hR)
    rw [h0]
    exact ⟨List.Pairwise.nil, List.Perm.refl _⟩
theorem wr_V_u {G : Nat → Nat} {s t : Int32} {tn : Nat} {W W' : List (List Nat)} (h : wr_V G s t tn W) (h' : wr_V G s t tn W') : W = W' := by
  rcases h with ⟨i, h1, h2, h3, h4, h5, e⟩ | ⟨no, e⟩
  · rcases h' with ⟨i', h1', _, _, h4', _, e'⟩ | ⟨no, _⟩
    · rw [h4, nI_eq (by omega) (by omega)] at h4'
      subst h4'
      rw [e, e']
    · exact absurd (no i tn h1 h2 h4 h5) h3
  · rcases h' with ⟨i', h1', h2', h3', h4', h5', _⟩ | ⟨_, e'⟩
    · exact absurd (no i' tn h1' h2' h4' h5') h3'
    · rw [e, e']
theorem wr_cut_G {G : Nat → Nat} (hG : ∀ i, G i ≤ 20) (j : Nat) : ∀ i, wr_cut G j i ≤ 20 := by
  intro i
  unfold wr_cut
  by_cases e : i = j
  · rw [if_pos e]; omega
  · rw [if_neg e]; exact hG i
theorem wr_X_detour {post : Int32 → SX → Prop} {G : Nat → Nat} (hG : ∀ i, G i ≤ 20) {s t : Int32} {tn : Nat} {W : List (List Nat)} (hV : wr_V G s t tn W) {u : SX} (hu : wr_RX G u) {a b : Nat} (ha : a < 6) (hb : b < 6) (hab : a ≠ b) (hg : 0 < G (a * 6 + b))
    {W' : List (List Nat)} (hV' : wr_V (wr_cut G (a * 6 + b)) s t tn W')
    (h1 : ∀ u' r r', wr_RX G u' → wr_at G tn W 0 r → wr_at (wr_cut G (a * 6 + b)) tn W' 0 r' → post (nI (wr_s (wr_cut G (a * 6 + b)) (tn :: r')) - nI (wr_s G (tn :: r))) u')
    (h2 : ∀ u' r, wr_RX G u' → wr_at G tn W 0 r → W' = [] → post (-1) u') (h0 : ∀ u', wr_RX G u' → W = [] → post 0 u') : wpX_detour post u s t (nI a) (nI b) := by
  obtain ⟨tc, rc, tr, rk, rfl⟩ := wr_RX_o hu
  unfold wpX_detour
  dsimp only
  have hg20 := hG (a * 6 + b)
  refine wr_X_road hG ha hb (fun no => ?_) (fun _ _ => ?_)
  · rcases no with e | e
    · exact absurd e hab
    · omega
  refine br_f (wr_nm1 (by omega)) ?_
  refine wr_X_rw hG hV (fun tc' rc' tr' rk' R hR => ?_)
  obtain ⟨hR, e, hA⟩ := hR
  subst e
  dsimp only
  have hl := wr_XR_l hV hR
  have hbb := wr_XR_b hG hV hR
  obtain ⟨W'', hV'', hR'⟩ := wr_V_cut hV hR ha hb
  have eW := wr_V_u hV'' hV'
  subst eW
  refine pk_eq R.length 0 (fun e => h0 _ rfl (wr_R_0 hR e)) (fun e => ?_) rfl rfl (by omega) (by omega)
  have hj : 0 < R.length := by omega
  obtain ⟨r, hat, eK⟩ := wr_at_k hV hR hj
  refine wr_X_fn hA hl hbb ha hb (fun k hk no lo => ?_) (fun all => ?_)
  · refine br_f (wr_nm1 (by omega)) ⟨vp_in_nI (by omega) (by decide), ?_⟩
    have e0 : (R.filter (fun n => !wr_q a b n))[0]? = some R[k] := by
      refine wr_flt0 hk ?_ (fun j hj' => ?_)
      · show (!wr_q a b R[k]) = true
        rw [no]; rfl
      · show (!wr_q a b (R[j]'(by omega))) = false
        rw [lo j (by omega) hj']; rfl
    have hj' : 0 < (R.filter (fun n => !wr_q a b n)).length := by
      apply Nat.pos_of_ne_zero
      intro z
      rw [List.length_eq_zero_iff.1 z] at e0
      exact absurd e0 (by simp)
    obtain ⟨r', hat', eK'⟩ := wr_at_k hV' hR' hj'
    rw [List.getElem?_eq_getElem hj'] at e0
    have e1 := Option.some.inj e0
    refine wr_X_lo (n := R[k]) (by rw [nI_clamp (by omega)]; exact hA k hk) (hbb _ (List.getElem_mem hk)) ?_
    refine wr_X_lo (n := R[0]) (hA 0 hj) (hbb _ (List.getElem_mem hj)) ?_
    rw [eK, ← e1, eK', wr_s_K (wr_g_p (wr_V_g hV r hat.1)), wr_s_K (wr_g_p (wr_V_g hV' r' hat'.1))]
    exact h1 _ r r' rfl hat hat'
  · refine br_t rfl (h2 _ r rfl hat (wr_R_0 hR' ?_))
    rw [List.length_eq_zero_iff, List.filter_eq_nil_iff]
    intro n hn
    obtain ⟨j, hj1, e⟩ := List.mem_iff_getElem.1 hn
    rw [← e, all j hj1]
    decide
