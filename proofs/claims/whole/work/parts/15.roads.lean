/-! roads: build, close, road, roads, and a detour without a road -/
def wr_set (G : Nat → Nat) (k n : Nat) : Nat → Nat := fun j => if j = k then n else G j
theorem wr_upd_s (G : Nat → Nat) (k n : Nat) : upd (fun i => nI (G i)) k (nI n) = fun i => nI (wr_set G k n i) := by
  funext j
  show (if j = k then nI n else nI (G j)) = nI (if j = k then n else G j)
  by_cases e : j = k
  · rw [if_pos e, if_pos e]
  · rw [if_neg e, if_neg e]
theorem wr_set_G {G : Nat → Nat} (hG : ∀ i, G i ≤ 20) (k : Nat) {n : Nat} (hn : n ≤ 20) : ∀ i, wr_set G k n i ≤ 20 := by
  intro i
  unfold wr_set
  by_cases e : i = k
  · rw [if_pos e]; exact hn
  · rw [if_neg e]; exact hG i
theorem wr_len_of {x : Int32} (h1 : ¬ x < 1) (h2 : x ≤ 20) : ∃ n, 1 ≤ n ∧ n ≤ 20 ∧ x = nI n := by
  have e1 : (1 : Int32).toInt = 1 := by decide
  have e0 : (0 : Int32).toInt = 0 := by decide
  have e20 : (20 : Int32).toInt = 20 := by decide
  have z : ¬ x < 0 := by
    intro z
    apply h1
    rw [Int32.lt_iff_toInt_lt] at z ⊢
    omega
  obtain ⟨n, hn, e⟩ := nI_of z
  subst e
  rw [Int32.lt_iff_toInt_lt, nI_toInt hn, e1] at h1
  rw [Int32.le_iff_toInt_le, nI_toInt hn, e20] at h2
  exact ⟨n, by omega, by omega, rfl⟩
/-- a road that can be built -/
def wr_gb (a b c : Int32) (i j n : Nat) : Prop := i < 6 ∧ j < 6 ∧ i ≠ j ∧ a = nI i ∧ b = nI j ∧ c = nI n ∧ 1 ≤ n ∧ n ≤ 20
theorem wr_X_build {post : Int32 → SX → Prop} {G : Nat → Nat} {u : SX} (hu : wr_RX G u) {a b c : Int32} (h1 : ∀ i j n u', wr_gb a b c i j n → wr_RX (wr_set G (i * 6 + j) n) u' → post 1 u') (h0 : (∀ i j n, ¬ wr_gb a b c i j n) → post 0 u) : wpX_build post u a b c := by
  obtain ⟨tc, rc, tr, rk, rfl⟩ := wr_RX_o hu
  unfold wpX_build
  dsimp only
  refine wr_X_pair (fun i j hi hj hij ei ej => ?_) (fun no => ?_)
  · refine br_f (by decide) (br_c (fun z => ?_) (fun z1 => br_c (fun z2 => ?_) (fun z2 => ?_)))
    · refine h0 (fun i' j' n g => ?_)
      rw [g.2.2.2.2.2.1] at z
      exact nI_nlt (b := 1) g.2.2.2.2.2.2.1 (by have := g.2.2.2.2.2.2.2; omega) z
    · obtain ⟨n, n1, n2, e⟩ := wr_len_of z1 z2
      subst ei ej e
      refine ⟨by rw [wr_ixN]; exact vp_in_nI (by omega) (by decide), ?_⟩
      refine nm_r (e' := fun x => nI (wr_set G (i * 6 + j) n x)) (by rw [wr_ixN, nI_clamp (by omega)]; exact wr_upd_s G (i * 6 + j) n) ?_
      exact h1 i j n _ ⟨hi, hj, hij, rfl, rfl, rfl, n1, n2⟩ rfl
    · refine h0 (fun i' j' n g => z2 ?_)
      rw [g.2.2.2.2.2.1]
      exact nI_le (b := 20) g.2.2.2.2.2.2.2 (by decide)
  · exact br_t rfl (h0 (fun i j n g => g.2.2.1 (no i j g.1 g.2.1 g.2.2.2.1 g.2.2.2.2.1)))
theorem wr_Y_build {post : Int32 → SY → Prop} {G : Nat → Nat} {v : SY} (hv : wr_RY G v) {a b c : Int32} (h1 : ∀ i j n v', wr_gb a b c i j n → wr_RY (wr_set G (i * 6 + j) n) v' → post 1 v') (h0 : (∀ i j n, ¬ wr_gb a b c i j n) → post 0 v) : wpY_build post v a b c := by
  obtain ⟨cnt, ways, sums, rfl⟩ := wr_RY_o hv
  unfold wpY_build
  dsimp only
  refine wr_Y_pair (fun i j hi hj hij ei ej => ?_) (fun no => ?_)
  · refine br_f (by decide) (br_c (fun z => ?_) (fun z1 => br_c (fun z2 => ?_) (fun z2 => ?_)))
    · refine h0 (fun i' j' n g => ?_)
      rw [g.2.2.2.2.2.1] at z
      exact nI_nlt (b := 1) g.2.2.2.2.2.2.1 (by have := g.2.2.2.2.2.2.2; omega) z
    · obtain ⟨n, n1, n2, e⟩ := wr_len_of z1 z2
      subst ei ej e
      refine ⟨by rw [wr_ixM]; exact vp_in_nI (by omega) (by decide), ?_⟩
      refine nm_r (e' := fun x => nI (wr_set G (i * 6 + j) n x)) (by rw [wr_ixM, nI_clamp (by omega)]; exact wr_upd_s G (i * 6 + j) n) ?_
      exact h1 i j n _ ⟨hi, hj, hij, rfl, rfl, rfl, n1, n2⟩ rfl
    · refine h0 (fun i' j' n g => z2 ?_)
      rw [g.2.2.2.2.2.1]
      exact nI_le (b := 20) g.2.2.2.2.2.2.2 (by decide)
  · exact br_t rfl (h0 (fun i j n g => g.2.2.1 (no i j g.1 g.2.1 g.2.2.2.1 g.2.2.2.2.1)))
theorem wr_gb_u {a b c : Int32} {i j n i' j' n' : Nat} (h : wr_gb a b c i j n) (h' : wr_gb a b c i' j' n') : i = i' ∧ j = j' ∧ n = n' := by
  obtain ⟨a1, a2, a3, a4, a5, a6, a7, a8⟩ := h
  obtain ⟨b1, b2, b3, b4, b5, b6, b7, b8⟩ := h'
  rw [a4, nI_eq (by omega) (by omega)] at b4
  rw [a5, nI_eq (by omega) (by omega)] at b5
  rw [a6, nI_eq (by omega) (by omega)] at b6
  exact ⟨b4, b5, b6⟩
/-- there is a road; there is none -/
def wr_gr (G : Nat → Nat) (a b : Int32) (i j : Nat) : Prop := i < 6 ∧ j < 6 ∧ i ≠ j ∧ a = nI i ∧ b = nI j ∧ 0 < G (i * 6 + j)
theorem wr_X_rd {post : Int32 → Prop} {G : Nat → Nat} (hG : ∀ i, G i ≤ 20) {u : SX} (hu : wr_RX G u) {a b : Int32} (h1 : ∀ i j, wr_gr G a b i j → post (nI (G (i * 6 + j)))) (h0 : (∀ i j, ¬ wr_gr G a b i j) → post (-1)) : wpX_road post u a b := by
  obtain ⟨tc, rc, tr, rk, rfl⟩ := wr_RX_o hu
  by_cases h : ∃ i j, i < 6 ∧ j < 6 ∧ a = nI i ∧ b = nI j
  · obtain ⟨i, j, hi, hj, ei, ej⟩ := h
    subst ei ej
    refine wr_X_road hG hi hj (fun no => h0 (fun i' j' g => ?_)) (fun hij hg => h1 i j ⟨hi, hj, hij, rfl, rfl, hg⟩)
    obtain ⟨g1, g2, g3, g4, g5, g6⟩ := g
    rw [nI_eq (by omega) (by omega)] at g4 g5
    subst g4 g5
    omega
  · exact wr_X_roadN (fun i j hi hj ei ej => absurd ⟨i, j, hi, hj, ei, ej⟩ h) (h0 (fun i j g => h ⟨i, j, g.1, g.2.1, g.2.2.2.1, g.2.2.2.2.1⟩))
theorem wr_Y_rd {post : Int32 → Prop} {G : Nat → Nat} (hG : ∀ i, G i ≤ 20) {v : SY} (hv : wr_RY G v) {a b : Int32} (h1 : ∀ i j, wr_gr G a b i j → post (nI (G (i * 6 + j)))) (h0 : (∀ i j, ¬ wr_gr G a b i j) → post (-1)) : wpY_road post v a b := by
  obtain ⟨cnt, ways, sums, rfl⟩ := wr_RY_o hv
  by_cases h : ∃ i j, i < 6 ∧ j < 6 ∧ a = nI i ∧ b = nI j
  · obtain ⟨i, j, hi, hj, ei, ej⟩ := h
    subst ei ej
    refine wr_Y_road hG hi hj (fun no => h0 (fun i' j' g => ?_)) (fun hij hg => h1 i j ⟨hi, hj, hij, rfl, rfl, hg⟩)
    obtain ⟨g1, g2, g3, g4, g5, g6⟩ := g
    rw [nI_eq (by omega) (by omega)] at g4 g5
    subst g4 g5
    omega
  · exact wr_Y_roadN (fun i j hi hj ei ej => absurd ⟨i, j, hi, hj, ei, ej⟩ h) (h0 (fun i j g => h ⟨i, j, g.1, g.2.1, g.2.2.2.1, g.2.2.2.2.1⟩))
theorem wr_gr_u {G : Nat → Nat} {a b : Int32} {i j i' j' : Nat} (h : wr_gr G a b i j) (h' : wr_gr G a b i' j') : i = i' ∧ j = j' := by
  obtain ⟨a1, a2, a3, a4, a5, a6⟩ := h
  obtain ⟨b1, b2, b3, b4, b5, b6⟩ := h'
  rw [a4, nI_eq (by omega) (by omega)] at b4
  rw [a5, nI_eq (by omega) (by omega)] at b5
  exact ⟨b4, b5⟩
theorem wr_X_close {post : Int32 → SX → Prop} {G : Nat → Nat} (hG : ∀ i, G i ≤ 20) {u : SX} (hu : wr_RX G u) {a b : Int32} (h1 : ∀ i j u', wr_gr G a b i j → wr_RX (wr_cut G (i * 6 + j)) u' → post 1 u') (h0 : (∀ i j, ¬ wr_gr G a b i j) → post 0 u) : wpX_close post u a b := by
  obtain ⟨tc, rc, tr, rk, rfl⟩ := wr_RX_o hu
  unfold wpX_close
  dsimp only
  refine wr_X_rd hG hu (fun i j g => ?_) (fun no => br_t rfl (h0 no))
  have hg20 := hG (i * 6 + j)
  have g' := g
  obtain ⟨g1, g2, g3, g4, g5, g6⟩ := g
  subst g4 g5
  refine br_f (wr_nm1 (by omega)) ⟨by rw [wr_ixN]; exact vp_in_nI (by omega) (by decide), ?_⟩
  refine nm_r (e' := fun x => nI (wr_cut G (i * 6 + j) x)) (by rw [wr_ixN, nI_clamp (by omega)]; exact wr_upd_0 G (i * 6 + j)) ?_
  exact h1 i j _ g' rfl
theorem wr_Y_close {post : Int32 → SY → Prop} {G : Nat → Nat} (hG : ∀ i, G i ≤ 20) {v : SY} (hv : wr_RY G v) {a b : Int32} (h1 : ∀ i j v', wr_gr G a b i j → wr_RY (wr_cut G (i * 6 + j)) v' → post 1 v') (h0 : (∀ i j, ¬ wr_gr G a b i j) → post 0 v) : wpY_close post v a b := by
  obtain ⟨cnt, ways, sums, rfl⟩ := wr_RY_o hv
  unfold wpY_close
  dsimp only
  refine wr_Y_pair (fun i j hi hj hij ei ej => ?_) (fun no => ?_)
  · subst ei ej
    have hg20 := hG (i * 6 + j)
    have hin : vp_in ((6 : Int32) * nI i + nI j) 36 := by rw [wr_ixM]; exact vp_in_nI (by omega) (by omega)
    have hcl : ((6 : Int32) * nI i + nI j).toNatClampNeg = i * 6 + j := by rw [wr_ixM, nI_clamp (by omega)]
    refine br_f (by decide) ⟨hin, ?_⟩
    rw [hcl]
    refine pk_eq (G (i * 6 + j)) 0 (fun e => ?_) (fun e => ⟨hin, ?_⟩) rfl rfl (by omega) (by omega)
    · refine h0 (fun i' j' g => ?_)
      obtain ⟨g1, g2, g3, g4, g5, g6⟩ := g
      rw [nI_eq (by omega) (by omega)] at g4 g5
      subst g4 g5
      omega
    · refine nm_r (e' := fun x => nI (wr_cut G (i * 6 + j) x)) (wr_upd_0 G (i * 6 + j)) ?_
      exact h1 i j _ ⟨hi, hj, hij, rfl, rfl, by omega⟩ rfl
  · exact br_t rfl (h0 (fun i j g => g.2.2.1 (no i j g.1 g.2.1 g.2.2.2.1 g.2.2.2.2.1)))
/-- how many roads there are -/
def wr_nr (G : Nat → Nat) : Nat → Nat
  | 0 => 0
  | i + 1 => if G i = 0 then wr_nr G i else wr_nr G i + 1
theorem wr_X_roads {post : Int32 → Prop} {G : Nat → Nat} (hG : ∀ i, G i ≤ 20) {u : SX} (hu : wr_RX G u) (h : post (nI (wr_nr G 36))) : wpX_roads post u := by
  obtain ⟨tc, rc, tr, rk, rfl⟩ := wr_RX_o hu
  refine loop_0 (fun m i x => wX_roads_4 post tc rc (fun i => nI (G i)) tr rk m x (nI i)) (fun i x => x = nI (wr_nr G i)) 36 (nI 0) rfl ?_ ?_
  · intro m x hx
    subst hx
    exact br_t (by decide) h
  · intro m i x hi hx k
    subst hx
    have hg := hG i
    refine br_f (nI_ge (b := 36) hi (by decide)) ⟨vp_in_nI hi (by decide), ?_⟩
    refine pk_eq (G i) 0 (fun e => ?_) (fun e => ?_) (by rw [nI_clamp (by omega)]) rfl (by omega) (by omega)
    · refine nm_r (nI_1 i) (k _ ?_)
      show _ = nI (if G i = 0 then _ else _)
      rw [if_pos e]
    · refine nm_r (nI_1 _) (nm_r (nI_1 i) (k _ ?_))
      show _ = nI (if G i = 0 then _ else _)
      rw [if_neg e]
theorem wr_Y_roads {post : Int32 → Prop} {G : Nat → Nat} (hG : ∀ i, G i ≤ 20) {v : SY} (hv : wr_RY G v) (h : post (nI (wr_nr G 36))) : wpY_roads post v := by
  obtain ⟨cnt, ways, sums, rfl⟩ := wr_RY_o hv
  refine loop_0 (fun m i x => wY_roads_4 post cnt (fun i => nI (G i)) ways sums m x (nI i)) (fun i x => x = nI (wr_nr G i)) 36 (nI 0) rfl ?_ ?_
  · intro m x hx
    subst hx
    exact br_t (by decide) h
  · intro m i x hi hx k
    subst hx
    have hg := hG i
    refine br_f (nI_ge (b := 36) hi (by decide)) ⟨vp_in_nI hi (by decide), ?_⟩
    refine pk_le (G i) 0 (fun e => ?_) (fun e => ?_) (by rw [nI_clamp (by omega)]) rfl (by omega) (by omega)
    · refine nm_r (nI_1 i) (k _ ?_)
      show _ = nI (if G i = 0 then _ else _)
      rw [if_pos (by omega)]
    · refine nm_r (nI_1 _) (nm_r (nI_1 i) (k _ ?_))
      show _ = nI (if G i = 0 then _ else _)
      rw [if_neg (by omega)]
theorem wr_X_detourN {post : Int32 → SX → Prop} {G : Nat → Nat} (hG : ∀ i, G i ≤ 20) {u : SX} (hu : wr_RX G u) {s t a b : Int32} (no : ∀ i j, ¬ wr_gr G a b i j) (h : post 0 u) : wpX_detour post u s t a b := by
  obtain ⟨tc, rc, tr, rk, rfl⟩ := wr_RX_o hu
  unfold wpX_detour
  dsimp only
  exact wr_X_rd hG hu (fun i j g => absurd g (no i j)) (fun _ => br_t rfl h)
theorem wr_Y_detourN {post : Int32 → SY → Prop} {G : Nat → Nat} (hG : ∀ i, G i ≤ 20) {s t : Int32} {tn : Nat} {W : List (List Nat)} (hV : wr_V G s t tn W) {v : SY} (hv : wr_RY G v) {a b : Int32} (no : ∀ i j, ¬ wr_gr G a b i j) (h : ∀ v', wr_RY G v' → post 0 v') : wpY_detour post v s t a b := by
  obtain ⟨cnt, ways, sums, rfl⟩ := wr_RY_o hv
  unfold wpY_detour
  dsimp only
  refine wr_Y_length hG hV wr_RY_i (fun v' r hv' hr e => ?_) (fun v' hv' _ => ?_)
  · obtain ⟨cnt', ways', sums', rfl⟩ := wr_RY_o hv'
    dsimp only
    refine wr_Y_rd hG hv' (fun i j g => absurd g (no i j)) (fun _ => ?_)
    exact br_c (fun _ => h _ rfl) (fun _ => br_f (by decide) (h _ rfl))
  · obtain ⟨cnt', ways', sums', rfl⟩ := wr_RY_o hv'
    dsimp only
    refine wr_Y_rd hG hv' (fun i j g => absurd g (no i j)) (fun _ => ?_)
    exact br_c (fun _ => h _ rfl) (fun _ => br_f (by decide) (h _ rfl))
