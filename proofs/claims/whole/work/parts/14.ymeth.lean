/-! the reference's methods, in terms of the list of ways -/
theorem wr_RY_i {G : Nat → Nat} {cnt : Int32} {ways sums : Nat → Int32} : wr_RY G (cnt, (fun i => nI (G i)), ways, sums) := rfl
theorem wr_Y_ways {post : Int32 → SY → Prop} {G : Nat → Nat} (hG : ∀ i, G i ≤ 20) {s t : Int32} {tn : Nat} {W : List (List Nat)} (hV : wr_V G s t tn W) {v : SY} (hv : wr_RY G v) (h : ∀ v', wr_RY G v' → post (nI W.length) v') : wpY_ways post v s t := by
  obtain ⟨cnt, ways, sums, rfl⟩ := wr_RY_o hv
  unfold wpY_ways
  dsimp only
  refine wr_Y_list hG hV (fun cnt' ways' sums' hS => ?_)
  dsimp only
  rw [hS.1]
  exact h _ rfl
theorem wr_Y_length {post : Int32 → SY → Prop} {G : Nat → Nat} (hG : ∀ i, G i ≤ 20) {s t : Int32} {tn : Nat} {W : List (List Nat)} (hV : wr_V G s t tn W) {v : SY} (hv : wr_RY G v) {k : Int32}
    (h1 : ∀ v' r, wr_RY G v' → r ∈ W → k = nI (wr_rk G tn W r) → post (nI (wr_s G (tn :: r))) v') (h0 : ∀ v', wr_RY G v' → (∀ r, r ∈ W → k ≠ nI (wr_rk G tn W r)) → post (-1) v') : wpY_length post v s t k := by
  have h65 := wr_V_65 hV
  obtain ⟨cnt, ways, sums, rfl⟩ := wr_RY_o hv
  unfold wpY_length
  dsimp only
  refine wr_Y_find hG hV wr_RY_i (fun w hw cnt' ways' sums' hS e => ?_) (fun cnt' ways' sums' hS no => ?_)
  · dsimp only
    refine br_t (nI_pos' (by omega)) ⟨vp_in_nI (by omega) (by decide), ?_⟩
    have es : sums' (nI w).toNatClampNeg = nI (wr_s G (tn :: W[w])) := by rw [nI_clamp (by omega)]; exact hS.2.2 w hw
    rw [es]
    exact h1 _ _ rfl (List.getElem_mem hw) e
  · dsimp only
    exact br_f (by decide) (h0 _ rfl no)
theorem wr_Y_size {post : Int32 → SY → Prop} {G : Nat → Nat} (hG : ∀ i, G i ≤ 20) {s t : Int32} {tn : Nat} {W : List (List Nat)} (hV : wr_V G s t tn W) {v : SY} (hv : wr_RY G v) {k : Int32}
    (h1 : ∀ v' r, wr_RY G v' → r ∈ W → k = nI (wr_rk G tn W r) → post (nI (tn :: r).length) v') (h0 : ∀ v', wr_RY G v' → (∀ r, r ∈ W → k ≠ nI (wr_rk G tn W r)) → post (-1) v') : wpY_size post v s t k := by
  have h65 := wr_V_65 hV
  obtain ⟨cnt, ways, sums, rfl⟩ := wr_RY_o hv
  unfold wpY_size
  dsimp only
  refine wr_Y_find hG hV wr_RY_i (fun w hw cnt' ways' sums' hS e => ?_) (fun cnt' ways' sums' hS no => ?_)
  · dsimp only
    refine br_t (nI_pos' (by omega)) (wr_Y_sz hV hS hw ?_)
    exact h1 _ _ rfl (List.getElem_mem hw) e
  · dsimp only
    exact br_f (by decide) (h0 _ rfl no)
theorem wr_Y_placeM {post : Int32 → SY → Prop} {G : Nat → Nat} (hG : ∀ i, G i ≤ 20) {s t : Int32} {tn : Nat} {W : List (List Nat)} (hV : wr_V G s t tn W) {v : SY} (hv : wr_RY G v) {k i : Int32}
    (h1 : ∀ v' r j, wr_RY G v' → r ∈ W → k = nI (wr_rk G tn W r) → i = nI j → j < (tn :: r).length → post (nI (wr_p (tn :: r) j)) v') (h2 : ∀ v' r, wr_RY G v' → r ∈ W → k = nI (wr_rk G tn W r) → (∀ j, j < (tn :: r).length → i ≠ nI j) → post (-1) v')
    (h0 : ∀ v', wr_RY G v' → (∀ r, r ∈ W → k ≠ nI (wr_rk G tn W r)) → post (-1) v') : wpY_place post v s t k i := by
  have h65 := wr_V_65 hV
  obtain ⟨cnt, ways, sums, rfl⟩ := wr_RY_o hv
  unfold wpY_place
  dsimp only
  refine wr_Y_find hG hV wr_RY_i (fun w hw cnt' ways' sums' hS e => ?_) (fun cnt' ways' sums' hS no => ?_)
  · dsimp only
    have hm := List.getElem_mem hw
    have hgl := wr_g_l (wr_V_g hV W[w] hm)
    refine br_f (nI_pos (by omega)) ?_
    by_cases z : i < 0
    · refine br_t z (h2 _ _ rfl hm e (fun j' hj' e => ?_))
      rw [e] at z
      exact nI_pos (by omega) z
    · obtain ⟨i', hi', ei⟩ := nI_of z
      refine br_f z (wr_Y_sz hV hS hw ?_)
      refine pk_lt i' (tn :: W[w]).length (fun l => ?_) (fun l => ?_) ei rfl hi' (by omega)
      · refine wr_Y_dg hV hS hw l ei ?_
        exact h1 _ _ i' rfl hm e ei l
      · refine h2 _ _ rfl hm e (fun j' hj' e => ?_)
        rw [ei, nI_eq hi' (by omega)] at e
        omega
  · dsimp only
    exact br_t (by decide) (h0 _ rfl no)
theorem wr_Y_within {post : Int32 → SY → Prop} {G : Nat → Nat} (hG : ∀ i, G i ≤ 20) {s t : Int32} {tn : Nat} {W : List (List Nat)} (hV : wr_V G s t tn W) {v : SY} (hv : wr_RY G v) {x : Int32} (h : ∀ v', wr_RY G v' → post (nI (wr_wi G tn W x)) v') : wpY_within post v s t x := by
  have h65 := wr_V_65 hV
  obtain ⟨cnt, ways, sums, rfl⟩ := wr_RY_o hv
  unfold wpY_within
  dsimp only
  refine wr_Y_list hG hV (fun cnt' ways' sums' hS => ?_)
  obtain ⟨ec, q2, q3⟩ := hS
  subst ec
  dsimp only
  refine loop_0 (fun m i y => wY_within_12 post x (nI W.length) (fun i => nI (G i)) ways' sums' m y (nI i)) (fun i y => y = nI ((W.take i).countP (fun r => decide (nI (wr_s G (tn :: r)) ≤ x)))) W.length (nI 0) rfl ?_ ?_
  · intro m y hy
    rw [List.take_length] at hy
    subst hy
    exact br_t (nI_le (Nat.le_refl _) (by omega)) (h _ rfl)
  · intro m i y hi hy k
    subst hy
    have es : sums' (nI i).toNatClampNeg = nI (wr_s G (tn :: W[i])) := by rw [nI_clamp (by omega)]; exact q3 i hi
    have hc := wr_ct (fun r => decide (nI (wr_s G (tn :: r)) ≤ x)) hi
    refine br_f (nI_ge hi (by omega)) ⟨vp_in_nI (by omega) (by decide), ?_⟩
    rw [es]
    refine br_c (fun c => ?_) (fun c => ?_)
    · refine nm_r (nI_1 i) (k _ ?_)
      rw [hc, if_neg]
      · rfl
      · intro z
        exact Int32.not_lt.mpr (of_decide_eq_true z) c
    · refine nm_r (nI_1 _) (nm_r (nI_1 i) (k _ ?_))
      rw [hc, if_pos]
      exact decide_eq_true (Int32.not_lt.mp c)
theorem wr_Y_shortest {post : Int32 → SY → Prop} {G : Nat → Nat} (hG : ∀ i, G i ≤ 20) {s t : Int32} {tn : Nat} {W : List (List Nat)} (hV : wr_V G s t tn W) {v : SY} (hv : wr_RY G v)
    (h1 : ∀ v' r, wr_RY G v' → r ∈ W → (0 : Int32) = nI (wr_rk G tn W r) → post (nI (wr_wi G tn W (nI (wr_s G (tn :: r))))) v') (h0 : ∀ v', wr_RY G v' → (∀ r, r ∈ W → (0 : Int32) ≠ nI (wr_rk G tn W r)) → post 0 v') : wpY_shortest post v s t := by
  obtain ⟨cnt, ways, sums, rfl⟩ := wr_RY_o hv
  unfold wpY_shortest
  dsimp only
  refine wr_Y_length hG hV wr_RY_i (fun v' r hv' hr e => ?_) (fun v' hv' no => ?_)
  · obtain ⟨cnt', ways', sums', rfl⟩ := wr_RY_o hv'
    dsimp only
    have sb := wr_s_b hG (tn :: r)
    have lb := wr_g_l (wr_V_g hV r hr)
    refine br_t (nI_pos' (by omega)) (wr_Y_within hG hV wr_RY_i (fun v'' hv'' => ?_))
    obtain ⟨cnt'', ways'', sums'', rfl⟩ := wr_RY_o hv''
    exact h1 _ r rfl hr e
  · obtain ⟨cnt', ways', sums', rfl⟩ := wr_RY_o hv'
    dsimp only
    exact br_f (by decide) (h0 _ rfl no)
theorem wr_Y_47 {post : Int32 → SY → Prop} {J : Int32 → Int32 → Prop} {G : Nat → Nat} {s t : Int32} {tn : Nat} {W : List (List Nat)} (hV : wr_V G s t tn W) {len ways sums : Nat → Int32} (hS : wr_YS G tn W (nI W.length) ways sums) {v : Nat} (hv : v < 6) {x5 : Int32} (b : Bool) (eb : x5 = wr_b b) (hb : b = true ↔ (¬ nI v = s ∧ ¬ nI v = t))
    (h : J (wr_mu s t tn W (v + 1)) (nI (v + 1))) : ∃ n, wY_musts_47 post J s t (wr_mu s t tn W v) (nI v) (nI W.length) len ways sums n x5 0 := by
  have h65 := wr_V_65 hV
  subst eb
  refine loop_0 (fun m i x => wY_musts_47 post J s t (wr_mu s t tn W v) (nI v) (nI W.length) len ways sums m x (nI i)) (fun i x => ∃ c : Bool, x = wr_b c ∧ (c = true ↔ (b = true ∧ ∀ (w : Nat) (hw : w < W.length), w < i → v ∈ tn :: W[w]))) W.length (wr_b b) ⟨b, rfl, fun z => ⟨z, fun w hw l => absurd l (Nat.not_lt_zero _)⟩, fun z => z.1⟩ ?_ ?_
  · rintro m x ⟨c, hx, hc⟩
    subst hx
    have hall : wr_al tn W v = true ↔ ∀ (w : Nat) (hw : w < W.length), w < W.length → v ∈ tn :: W[w] := by
      rw [wr_al_i]
      constructor
      · intro z w hw _
        exact z _ (List.getElem_mem hw)
      · intro z r hr
        obtain ⟨w, hw, e⟩ := List.mem_iff_getElem.1 hr
        rw [← e]
        exact z w hw hw
    refine br_t (nI_le (Nat.le_refl _) (by omega)) (br_c (fun z => ?_) (fun z => ?_))
    · rw [wr_b_0] at z
      have e := wr_mu_n (s := s) (t := t) (tn := tn) (W := W) (v := v) (fun y => z (hc.2 ⟨hb.2 ⟨y.1, y.2.1⟩, hall.1 y.2.2⟩))
      rw [e] at h
      exact nm_r (nI_1 v) h
    · have z' : c = true := Classical.byContradiction (fun y => z (wr_b_0.2 y))
      have y := hc.1 z'
      have e := wr_mu_y (hb.1 y.1).1 (hb.1 y.1).2 (hall.2 y.2)
      rw [e] at h
      exact nm_e (nm_r (nI_1 v) h)
  · rintro m i x hi ⟨c, hx, hc⟩ k
    subst hx
    have off : (¬ c = true ∨ v ∉ tn :: W[i]) → wY_musts_47 post J s t (wr_mu s t tn W v) (nI v) (nI W.length) len ways sums m 0 (nI (i + 1)) := by
      intro no
      refine k _ ⟨false, rfl, fun y => absurd y (by decide), fun y => ?_⟩
      rcases no with z | z
      · exact absurd (hc.2 ⟨y.1, fun w hw l => y.2 w hw (by omega)⟩) z
      · exact absurd (y.2 i hi (by omega)) z
    refine br_f (nI_ge hi (by omega)) (br_c (fun z => ?_) (fun z => ?_))
    · exact nm_r (nI_1 i) (off (Or.inl (wr_b_0.1 z)))
    · have z' : c = true := Classical.byContradiction (fun y => z (wr_b_0.2 y))
      refine wr_Y_th hV hS hi hv (fun y => ?_) (fun y => ?_)
      · refine br_f (by decide) (nm_r (nI_1 i) (k _ ⟨true, rfl, fun _ => ⟨(hc.1 z').1, fun w hw l => ?_⟩, fun _ => rfl⟩))
        rcases Nat.lt_or_ge w i with l' | l'
        · exact (hc.1 z').2 w hw l'
        · have : w = i := by omega
          subst this
          exact y
      · exact br_t rfl (nm_r (nI_1 i) (off (Or.inr y)))
theorem wr_Y_musts {post : Int32 → SY → Prop} {G : Nat → Nat} (hG : ∀ i, G i ≤ 20) {s t : Int32} {tn : Nat} {W : List (List Nat)} (hV : wr_V G s t tn W) {v : SY} (hv : wr_RY G v)
    (h1 : ∀ v', wr_RY G v' → W ≠ [] → post (wr_mu s t tn W 6) v') (h0 : ∀ v', wr_RY G v' → W = [] → post 0 v') : wpY_musts post v s t := by
  have h65 := wr_V_65 hV
  obtain ⟨cnt, ways, sums, rfl⟩ := wr_RY_o hv
  unfold wpY_musts
  dsimp only
  refine wr_Y_list hG hV (fun cnt' ways' sums' hS => ?_)
  have ec := hS.1
  subst ec
  dsimp only
  by_cases hW : W = []
  · refine ⟨1, br_f (by decide) (br_t ?_ (h0 _ rfl hW))⟩
    rw [hW]
    decide
  · have hpos : 0 < W.length := List.length_pos_iff.2 hW
    refine loop_0 (fun m i x => wY_musts_11 post s t (nI W.length) (fun i => nI (G i)) ways' sums' m x (nI i)) (fun i x => x = wr_mu s t tn W i) 6 0 rfl ?_ ?_
    · intro m x hx
      subst hx
      exact br_t (by decide) (h1 _ rfl hW)
    · intro m i x hi hx k
      subst hx
      refine br_f (nI_ge (b := 6) hi (by decide)) (br_f (nI_nle hpos (by omega)) ?_)
      have nx := k _ rfl
      refine br_c (fun c => ?_) (fun c1 => br_c (fun c => ?_) (fun c2 => ?_))
      · exact wr_Y_47 hV hS hi false rfl ⟨fun z => absurd z (by decide), fun z => absurd c z.1⟩ nx
      · exact wr_Y_47 hV hS hi false rfl ⟨fun z => absurd z (by decide), fun z => absurd c z.2⟩ nx
      · exact wr_Y_47 hV hS hi true rfl ⟨fun _ => ⟨c1, c2⟩, fun _ => rfl⟩ nx
theorem wr_Y_fa {post : Int32 → SY → Prop} {G : Nat → Nat} (hG : ∀ i, G i ≤ 20) {s t : Int32} {tn : Nat} {W : List (List Nat)} (hV : wr_V G s t tn W) {y : SY} (hy : wr_RY G y) {v : Nat} (hv : v < 6) (ns : ¬ nI v = s) (nt : ¬ nI v = t)
    (h1 : ∀ v' r, wr_RY G v' → r ∈ W → v ∉ tn :: r → (∀ r', r' ∈ W → v ∉ tn :: r' → wr_rk G tn W r ≤ wr_rk G tn W r') → post (nI (wr_rk G tn W r)) v') (h0 : ∀ v', wr_RY G v' → (∀ r, r ∈ W → v ∈ tn :: r) → post (-1) v') : wpY_firstAvoiding post y s t (nI v) := by
  have h65 := wr_V_65 hV
  obtain ⟨cnt, ways, sums, rfl⟩ := wr_RY_o hy
  refine br_f ns (br_f nt (br_f (nI_pos (by omega)) (br_t (nI_le (b := 5) (by omega) (by decide)) ?_)))
  refine wr_Y_list hG hV (fun cnt' ways' sums' hS => ?_)
  have ec := hS.1
  subst ec
  dsimp only
  refine loop_0 (fun m i x => wY_firstAvoiding_33 post t (nI v) (nI W.length) (fun i => nI (G i)) ways' sums' m x (nI i))
    (fun i x => (x = -1 ∧ ∀ (w : Nat) (hw : w < W.length), w < i → v ∈ tn :: W[w]) ∨ (∃ r, r ∈ W ∧ v ∉ tn :: r ∧ x = nI (wr_rk G tn W r) ∧ ∀ (w : Nat) (hw : w < W.length), w < i → v ∉ tn :: W[w] → wr_rk G tn W r ≤ wr_rk G tn W W[w])) W.length (-1) (Or.inl ⟨rfl, fun w hw l => absurd l (Nat.not_lt_zero _)⟩) ?_ ?_
  · rintro m x (⟨hx, hI⟩ | ⟨r, hr, nr, hx, hI⟩)
    · subst hx
      refine br_t (nI_le (Nat.le_refl _) (by omega)) (h0 _ rfl (fun r hr => ?_))
      obtain ⟨w, hw, e⟩ := List.mem_iff_getElem.1 hr
      rw [← e]
      exact hI w hw hw
    · subst hx
      refine br_t (nI_le (Nat.le_refl _) (by omega)) (h1 _ r rfl hr nr (fun r' hr' nr' => ?_))
      obtain ⟨w, hw, e⟩ := List.mem_iff_getElem.1 hr'
      rw [← e]
      rw [← e] at nr'
      exact hI w hw hw nr'
  · intro m i x hi hI k
    have hm := List.getElem_mem hi
    refine br_f (nI_ge hi (by omega)) (wr_Y_rk hG hV hS hi (wr_Y_th hV hS hi hv (fun yes => ?_) (fun no => ?_)))
    · refine br_f (by decide) (nm_r (nI_1 i) (k x ?_))
      rcases hI with ⟨hx, hI⟩ | ⟨r, hr, nr, hx, hI⟩
      · refine Or.inl ⟨hx, fun w hw l => ?_⟩
        rcases Nat.lt_or_ge w i with l' | l'
        · exact hI w hw l'
        · have : w = i := by omega
          subst this
          exact yes
      · refine Or.inr ⟨r, hr, nr, hx, fun w hw l nw => ?_⟩
        rcases Nat.lt_or_ge w i with l' | l'
        · exact hI w hw l' nw
        · have : w = i := by omega
          subst this
          exact absurd yes nw
    · refine br_t rfl ?_
      rcases hI with ⟨hx, hI⟩ | ⟨r, hr, nr, hx, hI⟩
      · subst hx
        refine br_t (by decide) (nm_r (nI_1 i) (k _ (Or.inr ⟨W[i], hm, no, rfl, fun w hw l nw => ?_⟩)))
        rcases Nat.lt_or_ge w i with l' | l'
        · exact absurd (hI w hw l') nw
        · have : w = i := by omega
          subst this
          exact Nat.le_refl _
      · subst hx
        refine br_f (nI_pos (wr_rk_65 hV r)) ?_
        refine pk_le (wr_rk G tn W r) (wr_rk G tn W W[i]) (fun l0 => ?_) (fun l0 => ?_) rfl rfl (wr_rk_65 hV r) (wr_rk_65 hV W[i])
        · refine nm_r (nI_1 i) (k _ (Or.inr ⟨r, hr, nr, rfl, fun w hw l nw => ?_⟩))
          rcases Nat.lt_or_ge w i with l' | l'
          · exact hI w hw l' nw
          · have : w = i := by omega
            subst this
            exact l0
        · refine nm_r (nI_1 i) (k _ (Or.inr ⟨W[i], hm, no, rfl, fun w hw l nw => ?_⟩))
          rcases Nat.lt_or_ge w i with l' | l'
          · exact Nat.le_trans (Nat.le_of_lt l0) (hI w hw l' nw)
          · have : w = i := by omega
            subst this
            exact Nat.le_refl _
theorem wr_Y_road {post : Int32 → Prop} {G : Nat → Nat} {cnt : Int32} {ways sums : Nat → Int32} (hG : ∀ i, G i ≤ 20) {a b : Nat} (ha : a < 6) (hb : b < 6)
    (h0 : (a = b ∨ G (a * 6 + b) = 0) → post (-1)) (h1 : a ≠ b → 0 < G (a * 6 + b) → post (nI (G (a * 6 + b)))) : wpY_road post (cnt, (fun i => nI (G i)), ways, sums) (nI a) (nI b) := by
  unfold wpY_road
  dsimp only
  refine wr_Y_pair (fun i j hi hj hij ei ej => ?_) (fun no => ?_)
  · rw [nI_eq (by omega) (by omega)] at ei ej
    subst ei ej
    have hg := hG (a * 6 + b)
    have hin : vp_in ((6 : Int32) * nI a + nI b) 36 := by rw [wr_ixM]; exact vp_in_nI (by omega) (by omega)
    have hcl : ((6 : Int32) * nI a + nI b).toNatClampNeg = a * 6 + b := by rw [wr_ixM, nI_clamp (by omega)]
    refine br_f (by decide) ⟨hin, ?_⟩
    rw [hcl]
    exact pk_le (G (a * 6 + b)) 0 (fun e => h0 (Or.inr (by omega))) (fun e => ⟨hin, h1 hij e⟩) rfl rfl (by omega) (by omega)
  · exact br_t rfl (h0 (Or.inl (no a b ha hb rfl rfl)))
theorem wr_Y_roadN {post : Int32 → Prop} {u : SY} {a b : Int32} (no : ∀ i j, i < 6 → j < 6 → a = nI i → b = nI j → i = j) (h : post (-1)) : wpY_road post u a b := by
  obtain ⟨cnt, len, ways, sums⟩ := u
  unfold wpY_road
  dsimp only
  refine wr_Y_pair (fun i j hi hj hij ei ej => absurd (no i j hi hj ei ej) hij) (fun _ => ?_)
  exact br_t rfl h
theorem wr_upd_0 (G : Nat → Nat) (k : Nat) : upd (fun i => nI (G i)) k 0 = fun i => nI (wr_cut G k i) := by
  funext j
  show (if j = k then (0 : Int32) else nI (G j)) = nI (if j = k then 0 else G j)
  by_cases e : j = k
  · rw [if_pos e, if_pos e]; rfl
  · rw [if_neg e, if_neg e]
theorem wr_upd_b (G : Nat → Nat) (k : Nat) : upd (fun i => nI (wr_cut G k i)) k (nI (G k)) = fun i => nI (G i) := by
  funext j
  show (if j = k then nI (G k) else nI (if j = k then 0 else G j)) = nI (G j)
  by_cases e : j = k
  · rw [if_pos e, e]
  · rw [if_neg e, if_neg e]
theorem wr_Y_detour {post : Int32 → SY → Prop} {G : Nat → Nat} (hG : ∀ i, G i ≤ 20) {s t : Int32} {tn : Nat} {W : List (List Nat)} (hV : wr_V G s t tn W) {v : SY} (hv : wr_RY G v) {a b : Nat} (ha : a < 6) (hb : b < 6) (hab : a ≠ b) (hg : 0 < G (a * 6 + b))
    {W' : List (List Nat)} (hV' : wr_V (wr_cut G (a * 6 + b)) s t tn W')
    (h1 : ∀ v' r r', wr_RY G v' → r ∈ W → (0 : Int32) = nI (wr_rk G tn W r) → r' ∈ W' → (0 : Int32) = nI (wr_rk (wr_cut G (a * 6 + b)) tn W' r') → post (nI (wr_s (wr_cut G (a * 6 + b)) (tn :: r')) - nI (wr_s G (tn :: r))) v')
    (h2 : ∀ v' r, wr_RY G v' → r ∈ W → (0 : Int32) = nI (wr_rk G tn W r) → (∀ r, r ∈ W' → (0 : Int32) ≠ nI (wr_rk (wr_cut G (a * 6 + b)) tn W' r)) → post (-1) v') (h0 : ∀ v', wr_RY G v' → (∀ r, r ∈ W → (0 : Int32) ≠ nI (wr_rk G tn W r)) → post 0 v') : wpY_detour post v s t (nI a) (nI b) := by
  obtain ⟨cnt, ways, sums, rfl⟩ := wr_RY_o hv
  have hin : vp_in ((6 : Int32) * nI a + nI b) 36 := by rw [wr_ixM]; exact vp_in_nI (by omega) (by omega)
  have hcl : ((6 : Int32) * nI a + nI b).toNatClampNeg = a * 6 + b := by rw [wr_ixM, nI_clamp (by omega)]
  have hg20 := hG (a * 6 + b)
  unfold wpY_detour
  dsimp only
  refine wr_Y_length hG hV wr_RY_i (fun v' r hv' hr e => ?_) (fun v' hv' no => ?_)
  · obtain ⟨cnt', ways', sums', rfl⟩ := wr_RY_o hv'
    dsimp only
    have sb := wr_s_b hG (tn :: r)
    have lb := wr_g_l (wr_V_g hV r hr)
    refine wr_Y_road hG ha hb (fun no => ?_) (fun _ _ => ?_)
    · rcases no with z | z
      · exact absurd z hab
      · omega
    refine br_f (nI_pos (by omega)) (br_t (nI_pos' (by omega)) ⟨hin, ?_⟩)
    refine nm_r (e' := fun i => nI (wr_cut G (a * 6 + b) i)) (by rw [hcl]; exact wr_upd_0 G (a * 6 + b)) ?_
    refine wr_Y_length (wr_cut_G hG (a * 6 + b)) hV' wr_RY_i (fun v'' r' hv'' hr' e' => ?_) (fun v'' hv'' no => ?_)
    · obtain ⟨cnt'', ways'', sums'', rfl⟩ := wr_RY_o hv''
      dsimp only
      have sb' := wr_s_b (wr_cut_G hG (a * 6 + b)) (tn :: r')
      have lb' := wr_g_l (wr_V_g hV' r' hr')
      refine ⟨hin, nm_r (e' := fun i => nI (G i)) (by rw [hcl]; exact wr_upd_b G (a * 6 + b)) ?_⟩
      exact br_t (nI_pos' (by omega)) (h1 _ r r' rfl hr e hr' e')
    · obtain ⟨cnt'', ways'', sums'', rfl⟩ := wr_RY_o hv''
      dsimp only
      refine ⟨hin, nm_r (e' := fun i => nI (G i)) (by rw [hcl]; exact wr_upd_b G (a * 6 + b)) ?_⟩
      exact br_f (by decide) (h2 _ r rfl hr e no)
  · obtain ⟨cnt', ways', sums', rfl⟩ := wr_RY_o hv'
    dsimp only
    refine wr_Y_road hG ha hb (fun no => ?_) (fun _ _ => ?_)
    · rcases no with z | z
      · exact absurd z hab
      · omega
    exact br_t (by decide) (h0 _ rfl no)
