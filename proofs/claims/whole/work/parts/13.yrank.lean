/-! the reference's digits, order, ranks -/
theorem wr_Y_dg {post : Int32 → Prop} {G : Nat → Nat} {s t : Int32} {tn : Nat} {W : List (List Nat)} (hV : wr_V G s t tn W) {cnt : Int32} {len ways sums : Nat → Int32} (hS : wr_YS G tn W cnt ways sums) {w i : Nat} (hw : w < W.length) (hi : i < (tn :: W[w]).length) {x : Int32} (hx : x = nI i) (h : post (nI (wr_p (tn :: W[w]) i))) : wpY_digit post (cnt, len, ways, sums) (nI w) x := by
  subst hx
  have h65 := wr_V_65 hV
  have hg := wr_V_g hV W[w] (List.getElem_mem hw)
  have hgl := wr_g_l hg
  refine ⟨vp_in_nI (by omega) (by decide), ?_⟩
  have e : ways (nI w).toNatClampNeg = nI (wr_z tn W[w]) := by rw [nI_clamp (by omega)]; exact hS.2.1 w hw
  rw [e, wr_dg (Nat.lt_trans (wr_z_lt hg.1 hg.2.2.2) (by decide)) (by omega), wr_z_d hg.1 hi]
  exact h
theorem wr_Y_be {post : Int32 → Prop} {G : Nat → Nat} (hG : ∀ i, G i ≤ 20) {s t : Int32} {tn : Nat} {W : List (List Nat)} (hV : wr_V G s t tn W) {cnt : Int32} {len ways sums : Nat → Int32} (hS : wr_YS G tn W cnt ways sums) {a b : Nat} (ha : a < W.length) (hb : b < W.length) (hab : a ≠ b)
    (h1 : wr_K G (tn :: W[a]) < wr_K G (tn :: W[b]) → post 1) (h0 : ¬ wr_K G (tn :: W[a]) < wr_K G (tn :: W[b]) → post 0) : wpY_before post (cnt, len, ways, sums) (nI a) (nI b) := by
  have h65 := wr_V_65 hV
  have ma := List.getElem_mem ha
  have mb := List.getElem_mem hb
  have hga := wr_V_g hV W[a] ma
  have hgb := wr_V_g hV W[b] mb
  have sa := wr_s_b hG (tn :: W[a])
  have sb := wr_s_b hG (tn :: W[b])
  have la := wr_g_l hga
  have lb := wr_g_l hgb
  have ne : W[a] ≠ W[b] := fun e => hab ((List.getElem_inj (wr_V_nd hV)).1 e)
  obtain ⟨i, i1, i2, i6, i3, i4, i5, _⟩ := wr_V_lt hV ma mb ne
  have ea : sums (nI a).toNatClampNeg = nI (wr_s G (tn :: W[a])) := by rw [nI_clamp (by omega)]; exact hS.2.2 a ha
  have eb : sums (nI b).toNatClampNeg = nI (wr_s G (tn :: W[b])) := by rw [nI_clamp (by omega)]; exact hS.2.2 b hb
  have va : vp_in (nI a) 65 := vp_in_nI (by omega) (by decide)
  have vb : vp_in (nI b) 65 := vp_in_nI (by omega) (by decide)
  have pa := wr_g_p hga
  have pb := wr_g_p hgb
  refine ⟨va, vb, ?_⟩
  refine pk_eq (wr_s G (tn :: W[a])) (wr_s G (tn :: W[b])) (fun e => ?_) (fun e => ?_) ea eb (by omega) (by omega)
  · refine loop_0 (fun m j (_ : Unit) => wY_before_38 post (nI a) (nI b) cnt len ways sums m (nI j)) (fun _ _ => True) i () trivial ?_ ?_
    · intro m _ _
      have pai := pa i
      have pbi := pb i
      have hia : i < (tn :: W[a]).length := by simp only [List.length_cons]; omega
      have hib : i < (tn :: W[b]).length := by simp only [List.length_cons]; omega
      refine br_f (nI_ge (b := 6) i6 (by decide)) ?_
      refine wr_Y_dg hV hS ha hia rfl (wr_Y_dg hV hS hb hib rfl ?_)
      refine pk_eq (wr_p (tn :: W[a]) i) (wr_p (tn :: W[b]) i) (fun z => absurd z i4) (fun _ => ?_) rfl rfl (by omega) (by omega)
      refine wr_Y_dg hV hS ha hia rfl (wr_Y_dg hV hS hb hib rfl ?_)
      refine pk_le (wr_p (tn :: W[b]) i) (wr_p (tn :: W[a]) i) (fun l => h0 (fun z => ?_)) (fun l => h1 (i5.2 (Or.inr ⟨e, l⟩))) rfl rfl (by omega) (by omega)
      rcases i5.1 z with y | y
      · omega
      · omega
    · intro m j _ hj _ k
      have paj := pa j
      have pbj := pb j
      have hja : j < (tn :: W[a]).length := by simp only [List.length_cons]; omega
      have hjb : j < (tn :: W[b]).length := by simp only [List.length_cons]; omega
      refine br_f (nI_ge (b := 6) (by omega) (by decide)) ?_
      refine wr_Y_dg hV hS ha hja rfl (wr_Y_dg hV hS hb hjb rfl ?_)
      refine pk_eq (wr_p (tn :: W[a]) j) (wr_p (tn :: W[b]) j) (fun _ => nm_r (nI_1 j) (k () trivial)) (fun z => absurd (i3 j hj) z) rfl rfl (by omega) (by omega)
  · refine ⟨va, vb, ?_⟩
    refine pk_le (wr_s G (tn :: W[b])) (wr_s G (tn :: W[a])) (fun l => h0 (fun z => ?_)) (fun l => h1 (i5.2 (Or.inl l))) eb ea (by omega) (by omega)
    rcases i5.1 z with y | y
    · omega
    · exact e y.1
theorem wr_Y_rk {post : Int32 → Prop} {G : Nat → Nat} (hG : ∀ i, G i ≤ 20) {s t : Int32} {tn : Nat} {W : List (List Nat)} (hV : wr_V G s t tn W) {cnt : Int32} {len ways sums : Nat → Int32} (hS : wr_YS G tn W cnt ways sums) {w : Nat} (hw : w < W.length) (h : post (nI (wr_rk G tn W W[w]))) : wpY_rank post (cnt, len, ways, sums) (nI w) := by
  have h65 := wr_V_65 hV
  obtain ⟨e, q2, q3⟩ := hS
  subst e
  refine loop_0 (fun m i x => wY_rank_4 post (nI w) (nI W.length) len ways sums m x (nI i)) (fun i x => x = nI ((W.take i).countP (fun x => decide (wr_K G (tn :: x) < wr_K G (tn :: W[w]))))) W.length (nI 0) rfl ?_ ?_
  · intro m x hx
    rw [List.take_length] at hx
    subst hx
    exact br_t (nI_le (Nat.le_refl _) (by omega)) h
  · intro m i x hi hx k
    subst hx
    have hc := wr_ct (fun x => decide (wr_K G (tn :: x) < wr_K G (tn :: W[w]))) hi
    refine br_f (nI_ge hi (by omega)) ?_
    refine pk_eq i w (fun e => ?_) (fun e => ?_) rfl rfl (by omega) (by omega)
    · refine nm_r (nI_1 i) (k _ ?_)
      rw [hc, if_neg]
      · rfl
      · subst e
        intro z
        exact Nat.lt_irrefl _ (of_decide_eq_true z)
    · refine wr_Y_be hG hV ⟨rfl, q2, q3⟩ hi hw e (fun l => ?_) (fun l => ?_)
      · refine br_f (by decide) (nm_r (nI_1 _) (nm_r (nI_1 i) (k _ ?_)))
        rw [hc, if_pos (decide_eq_true l)]
      · refine br_t rfl (nm_r (nI_1 i) (k _ ?_))
        rw [hc, if_neg]
        · rfl
        · intro z
          exact l (of_decide_eq_true z)
theorem wr_rk_65 {G : Nat → Nat} {s t : Int32} {tn : Nat} {W : List (List Nat)} (hV : wr_V G s t tn W) (r : List Nat) : wr_rk G tn W r < 2 ^ 31 := by
  have h65 := wr_V_65 hV
  have : wr_rk G tn W r ≤ W.length := List.countP_le_length
  omega
def wr_RY (G : Nat → Nat) (v : SY) : Prop := v.2.1 = fun i => nI (G i)
theorem wr_RY_o {G : Nat → Nat} {v : SY} (h : wr_RY G v) : ∃ cnt ways sums, v = (cnt, (fun i => nI (G i)), ways, sums) := by
  obtain ⟨cnt, len, ways, sums⟩ := v
  have h' : len = fun i => nI (G i) := h
  exact ⟨cnt, ways, sums, by rw [h']⟩
theorem wr_Y_find {post : Int32 → SY → Prop} {G : Nat → Nat} (hG : ∀ i, G i ≤ 20) {s t : Int32} {tn : Nat} {W : List (List Nat)} (hV : wr_V G s t tn W) {v : SY} (hv : wr_RY G v) {k : Int32}
    (h1 : ∀ (w : Nat) (hw : w < W.length) cnt' ways' sums', wr_YS G tn W cnt' ways' sums' → k = nI (wr_rk G tn W W[w]) → post (nI w) (cnt', (fun i => nI (G i)), ways', sums'))
    (h0 : ∀ cnt' ways' sums', wr_YS G tn W cnt' ways' sums' → (∀ r, r ∈ W → k ≠ nI (wr_rk G tn W r)) → post (-1) (cnt', (fun i => nI (G i)), ways', sums')) : wpY_find post v s t k := by
  obtain ⟨cnt, ways, sums, rfl⟩ := wr_RY_o hv
  unfold wpY_find
  dsimp only
  refine wr_Y_list hG hV (fun cnt' ways' sums' hS => ?_)
  dsimp only
  have h65 := wr_V_65 hV
  have ec := hS.1
  subst ec
  refine loop_0 (fun m i (_ : Unit) => wY_find_9 post k (nI W.length) (fun i => nI (G i)) ways' sums' m (nI i)) (fun i _ => ∀ (w : Nat) (hw : w < W.length), w < i → k ≠ nI (wr_rk G tn W W[w])) W.length () (fun w hw l => absurd l (Nat.not_lt_zero _)) ?_ ?_
  · intro m _ hI
    refine br_t (nI_le (Nat.le_refl _) (by omega)) (h0 _ _ _ hS (fun r hr => ?_))
    obtain ⟨w, hw, e⟩ := List.mem_iff_getElem.1 hr
    rw [← e]
    exact hI w hw hw
  · intro m i _ hi hI next
    refine br_f (nI_ge hi (by omega)) (wr_Y_rk hG hV hS hi ?_)
    refine br_c (fun c => h1 i hi _ _ _ hS c.symm) (fun c => nm_r (nI_1 i) (next () (fun w hw l => ?_)))
    rcases Nat.lt_or_ge w i with z | z
    · exact hI w hw z
    · have : w = i := by omega
      subst this
      exact fun e => c e.symm
theorem wr_V_t {G : Nat → Nat} {s t : Int32} {tn : Nat} {W : List (List Nat)} (hV : wr_V G s t tn W) {r : List Nat} (hr : r ∈ W) : t = nI tn := by
  rcases hV with ⟨i, _, _, _, _, e, _⟩ | ⟨_, e⟩
  · exact e
  · rw [e] at hr
    exact absurd hr List.not_mem_nil
theorem wr_Y_sz {post : Int32 → Prop} {G : Nat → Nat} {s t : Int32} {tn : Nat} {W : List (List Nat)} (hV : wr_V G s t tn W) {cnt : Int32} {len ways sums : Nat → Int32} (hS : wr_YS G tn W cnt ways sums) {w : Nat} (hw : w < W.length) (h : post (nI (tn :: W[w]).length)) : wpY_sizeOf post (cnt, len, ways, sums) (nI w) t := by
  have hm := List.getElem_mem hw
  have hg := wr_V_g hV W[w] hm
  have et := wr_V_t hV hm
  have hgl := hg.2.2.2
  have htn := hg.1 tn List.mem_cons_self
  have hl : (tn :: W[w]).length = W[w].length + 1 := rfl
  refine loop_0 (fun m j (_ : Unit) => wY_sizeOf_2 post (nI w) t cnt len ways sums m (nI j)) (fun _ _ => True) W[w].length () trivial ?_ ?_
  · intro m _ _
    refine pk_le 5 W[w].length (fun l => ?_) (fun l => ?_) rfl rfl (by omega) (by omega)
    · rw [nI_1]; exact h
    · refine wr_Y_dg hV hS hw (i := W[w].length) (by omega) rfl ?_
      rw [wr_p_hd]
      refine br_t et.symm ?_
      rw [nI_1]; exact h
  · intro m j _ hj _ k
    refine br_f (nI_ge (b := 5) (by omega) (by decide)) (wr_Y_dg hV hS hw (i := j) (by omega) rfl ?_)
    rw [wr_p_tl tn W[w] (by omega)]
    have hmem := wr_p_mem W[w] j hj
    have hlt := hg.1 _ (List.mem_cons_of_mem tn hmem)
    refine br_f ?_ (nm_r (nI_1 j) (k () trivial))
    intro z
    rw [et, nI_eq (by omega) (by omega)] at z
    apply hg.2.1
    rw [← z]
    exact hmem
theorem wr_Y_th {post : Int32 → Prop} {G : Nat → Nat} {s t : Int32} {tn : Nat} {W : List (List Nat)} (hV : wr_V G s t tn W) {cnt : Int32} {len ways sums : Nat → Int32} (hS : wr_YS G tn W cnt ways sums) {w : Nat} (hw : w < W.length) {v : Nat} (hv : v < 6) (h1 : v ∈ tn :: W[w] → post 1) (h0 : v ∉ tn :: W[w] → post 0) : wpY_through post (cnt, len, ways, sums) (nI w) (nI v) t := by
  have hg := wr_V_g hV W[w] (List.getElem_mem hw)
  have hgl := wr_g_l hg
  unfold wpY_through
  dsimp only
  refine wr_Y_sz hV hS hw ?_
  refine loop_0 (fun m i x => wY_through_14 post (nI w) (nI v) (nI (tn :: W[w]).length) cnt len ways sums m x (nI i)) (fun i x => (x = 1 ∧ v ∈ tn :: W[w]) ∨ (x = 0 ∧ ∀ j, j < i → wr_p (tn :: W[w]) j ≠ v)) (tn :: W[w]).length 0 (Or.inr ⟨rfl, lt_0⟩) ?_ ?_
  · rintro m x (⟨hx, hm⟩ | ⟨hx, hm⟩)
    · subst hx
      exact br_t (nI_le (Nat.le_refl _) (by omega)) ⟨rfl, h1 hm⟩
    · subst hx
      refine br_t (nI_le (Nat.le_refl _) (by omega)) ⟨rfl, h0 (fun z => ?_)⟩
      obtain ⟨j, hj, e⟩ := wr_p_of_mem _ _ z
      exact hm j hj e
  · rintro m i x hi (⟨hx, hm⟩ | ⟨hx, hm⟩) k
    · subst hx
      exact br_f (nI_ge hi (by omega)) (br_f (by decide) (nm_r (nI_1 i) (k _ (Or.inl ⟨rfl, hm⟩))))
    · subst hx
      have hp := wr_g_p hg i
      refine br_f (nI_ge hi (by omega)) (br_t rfl (wr_Y_dg hV hS hw hi rfl ?_))
      refine pk_eq (wr_p (tn :: W[w]) i) v (fun e => ?_) (fun e => ?_) rfl rfl (by omega) (by omega)
      · refine nm_r (nI_1 i) (k _ (Or.inl ⟨rfl, ?_⟩))
        rw [← e]
        exact wr_p_mem _ i hi
      · exact nm_r (nI_1 i) (k _ (Or.inr ⟨rfl, lt_s hm e⟩))
