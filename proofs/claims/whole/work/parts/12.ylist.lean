/-! the reference's list -/
def wr_YS (G : Nat → Nat) (t : Nat) (W : List (List Nat)) (cnt : Int32) (ways sums : Nat → Int32) : Prop := cnt = nI W.length ∧ wr_A (fun r => nI (wr_z t r)) ways W ∧ wr_A (fun r => nI (wr_s G (t :: r))) sums W
theorem wr_ixM {a b : Nat} : (6 : Int32) * nI a + nI b = nI (a * 6 + b) := by
  show nI 6 * nI a + nI b = _
  rw [pk_mul, nI_add, Nat.mul_comm]
theorem wr_Y_pair {post : Int32 → Prop} {u : SY} {a b : Int32} (h1 : ∀ i j, i < 6 → j < 6 → i ≠ j → a = nI i → b = nI j → post 1) (h0 : (∀ i j, i < 6 → j < 6 → a = nI i → b = nI j → i = j) → post 0) : wpY_pair post u a b := by
  obtain ⟨cnt, len, ways, sums⟩ := u
  refine br_c (fun c => h0 (fun i j hi hj ei ej => ?_)) (fun c => ?_)
  · rw [ei, ej, nI_eq (by omega) (by omega)] at c
    exact c
  by_cases za : a < 0
  · refine br_t za (h0 (fun i j hi hj ei ej => ?_))
    rw [ei] at za
    exact absurd za (nI_pos (by omega))
  refine br_f za ?_
  obtain ⟨i, hi, ei⟩ := nI_of za
  refine pk_lt 5 i (fun l => h0 (fun i' j' hi' hj' ei' ej' => ?_)) (fun l => ?_) rfl ei (by omega) hi
  · rw [ei, nI_eq hi (by omega)] at ei'
    omega
  by_cases zb : b < 0
  · refine br_t zb (h0 (fun i j hi hj ei ej => ?_))
    rw [ej] at zb
    exact absurd zb (nI_pos (by omega))
  refine br_f zb ?_
  obtain ⟨j, hj, ej⟩ := nI_of zb
  refine pk_lt 5 j (fun l => h0 (fun i' j' hi' hj' ei' ej' => ?_)) (fun l' => ?_) rfl ej (by omega) hj
  · rw [ej, nI_eq hj (by omega)] at ej'
    omega
  refine h1 i j (by omega) (by omega) (fun e => c ?_) ei ej
  rw [ei, ej, e]
theorem wr_Y_149 {post : SY → Prop} {J : Int32 → Int32 → Int32 → Int32 → Int32 → Int32 → Int32 → Int32 → Int32 → Prop} {x2 x4 x5 x6 x7 x8 x9 x10 : Int32} {c k : Nat} {cnt : Int32} {len ways sums : Nat → Int32}
    (h : J x4 x5 x6 x7 x8 x9 x10 (wr_b (wr_en c (k + 1))) (nI (k + 1))) : wY_look_149 post J x2 x4 x5 x6 x7 x8 x9 x10 (wr_b (wr_en c k)) (nI k) (nI (wr_D c k)) cnt len ways sums := by
  have hD := wr_D_7 c k
  refine br_c (fun z => ?_) (fun z => ?_)
  · rw [wr_b_0] at z
    refine pk_eq (wr_D c k) 6 (fun e => ?_) (fun e => ?_) rfl rfl (by omega) (by omega)
    · rw [wr_b_t (wr_en_i.2 (Or.inr e))] at h
      exact nm_r (nI_1 k) h
    · rw [wr_b_f (fun y => (wr_en_i.1 y).elim z e)] at h
      exact nm_r (nI_1 k) h
  · have z' : wr_en c k = true := Classical.byContradiction (fun y => z (wr_b_0.2 y))
    rw [wr_b_t (wr_en_i.2 (Or.inl z'))] at h
    exact nm_r (nI_1 k) h
theorem wr_Y_101 {post : SY → Prop} {J : Int32 → Int32 → Int32 → Int32 → Int32 → Int32 → Int32 → Int32 → Int32 → Prop} {G : Nat → Nat} {x2 x4 z0 : Int32} {s t c k U : Nat} (hs : s < 6) (hk : k < 4) (hD : wr_D c k < 6) {cnt : Int32} {ways sums : Nat → Int32} {n0 : Nat} (ez : z0 = wr_b (wr_kk G s t c (k + 1)))
    (h : J x4 (nI (U ||| 2 ^ wr_D c k)) (nI ((wr_rr s c (k + 1)).headD 0)) (nI (wr_s G (wr_rr s c (k + 1)))) (nI (wr_y (wr_rr s c (k + 1)))) (nI (wr_rr s c (k + 1)).length) (wr_b (wr_kk G s t c (k + 1))) (wr_b (wr_en c (k + 1))) (nI (k + 1))) :
    wY_look_101 post J x2 x4 (nI U) (nI ((wr_rr s c k).headD 0)) (nI (wr_s G (wr_rr s c k))) (nI (wr_y (wr_rr s c k))) (nI (wr_rr s c k).length) (wr_b (wr_en c k)) (nI k) (nI (wr_D c k)) z0 cnt (fun i => nI (G i)) ways sums := by
  have hh := wr_rr_hd (c := c) hs k
  have hlt := wr_rr_lt (c := c) hs k
  have hlen := wr_rr_len s c k
  have e := wr_rr_y (s := s) hD
  subst ez
  refine ⟨?_, ?_⟩
  · rw [wr_ixM]; exact vp_in_nI (by omega) (by decide)
  refine nm_r (e' := nI (wr_s G (wr_rr s c (k + 1)))) ?_ ?_
  · rw [wr_ixM, nI_clamp (by omega), nI_add, e, wr_s_c G _ hlen.1]
  refine nm_r (e' := nI (U ||| 2 ^ wr_D c k)) ?_ ?_
  · rw [wr_1l _ hD, wr_or]
  refine nm_r (e' := nI (wr_y (wr_rr s c (k + 1)))) ?_ ?_
  · rw [wr_yc hD hlt (by omega), e]
  refine nm_r (e' := nI (wr_rr s c (k + 1)).length) ?_ ?_
  · rw [nI_1, e]; rfl
  have eh : (wr_rr s c (k + 1)).headD 0 = wr_D c k := by rw [e]; rfl
  rw [eh] at h
  exact wr_Y_149 h
theorem wr_Y_look {post : SY → Prop} {G : Nat → Nat} (hG : ∀ i, G i ≤ 20) {s t : Nat} (hs : s < 6) (ht : t < 6) (hst : s ≠ t) {c : Nat} (hc : c < 2401) {cnt : Int32} {ways sums : Nat → Int32} (hS : wr_YS G t (wr_Y G s t c) cnt ways sums)
    (h : ∀ cnt' ways' sums', wr_YS G t (wr_Y G s t (c + 1)) cnt' ways' sums' → post (cnt', (fun i => nI (G i)), ways', sums')) : wpY_look post (cnt, (fun i => nI (G i)), ways, sums) (nI s) (nI t) (nI c) := by
  refine nm_r (e' := nI (2 ^ s ||| 2 ^ t)) (by rw [wr_1l s hs, wr_1l t ht, wr_or]) ?_
  have key := loop_0 (fun m k (U : Nat) => wY_look_33 post (nI t) cnt (fun i => nI (G i)) ways sums m (nI (c / 7 ^ k)) (nI U) (nI ((wr_rr s c k).headD 0)) (nI (wr_s G (wr_rr s c k))) (nI (wr_y (wr_rr s c k))) (nI (wr_rr s c k).length) (wr_b (wr_kk G s t c k)) (wr_b (wr_en c k)) (nI k))
    (fun k U => wr_U t (wr_rr s c k) U) 4 (2 ^ s ||| 2 ^ t) (wr_U_1 hs ht) ?_ ?_
  · obtain ⟨n, hn⟩ := key
    have hn' : wY_look_33 post (nI t) cnt (fun i => nI (G i)) ways sums n (nI (c / 7 ^ 0)) (nI (2 ^ s ||| 2 ^ t)) (nI s) (nI 0) (nI (wr_y [s])) (nI 1) 1 0 (nI 0) := hn
    have e1 : c / 7 ^ 0 = c := by rw [Nat.pow_zero, Nat.div_one]
    have e2 : wr_y [s] = s := by
      show 0 + s * 16 ^ 0 = s
      rw [Nat.pow_zero]; omega
    rw [e1, e2] at hn'
    exact ⟨n, hn'⟩
  · intro m U hU
    have hh := wr_rr_hd (c := c) hs 4
    have hlt := wr_rr_lt (c := c) hs 4
    have hlen := wr_rr_len s c 4
    have hlt' : ∀ x, x ∈ t :: wr_rr s c 4 → x < 6 := fun x hx => (List.mem_cons.1 hx).elim (fun e => by omega) (fun e => hlt x e)
    have hstay : ¬ wr_cd G s t c = true → post (cnt, (fun i => nI (G i)), ways, sums) := by
      intro no
      refine h _ _ _ ?_
      rw [wr_Y_n no]
      exact hS
    refine br_t (by decide) (br_c (fun z => ?_) (fun z => ?_))
    · rw [wr_b_0] at z
      refine hstay (fun y => z ?_)
      exact (Bool.and_eq_true_iff.1 y).1
    · have hkk : wr_kk G s t c 4 = true := Classical.byContradiction (fun y => z (wr_b_0.2 y))
      have hix : (6 : Int32) * nI ((wr_rr s c 4).headD 0) + nI t = nI ((wr_rr s c 4).headD 0 * 6 + t) := wr_ixM
      have hin : vp_in ((6 : Int32) * nI ((wr_rr s c 4).headD 0) + nI t) 36 := by rw [hix]; exact vp_in_nI (by omega) (by decide)
      have hcl : ((6 : Int32) * nI ((wr_rr s c 4).headD 0) + nI t).toNatClampNeg = (wr_rr s c 4).headD 0 * 6 + t := by rw [hix, nI_clamp (by omega)]
      have hg20 := hG ((wr_rr s c 4).headD 0 * 6 + t)
      refine ⟨hin, ?_⟩
      refine pk_le (G ((wr_rr s c 4).headD 0 * 6 + t)) 0 (fun l => ?_) (fun l => ?_) (by rw [hcl]) rfl (by omega) (by omega)
      · refine hstay (fun y => ?_)
        have := of_decide_eq_true (Bool.and_eq_true_iff.1 y).2
        omega
      · have hcd : wr_cd G s t c = true := by
          unfold wr_cd
          rw [hkk, decide_eq_true l]; rfl
        have hY := wr_Y_y hcd
        have h65 := wr_Y_65 (G := G) (n := c + 1) hs ht hst (by omega)
        rw [hY, List.length_append] at h65
        have h65' : (wr_Y G s t c).length < 65 := h65
        obtain ⟨q1, q2, q3⟩ := hS
        subst q1
        refine br_f (nI_ge (b := 65) h65' (by decide)) ?_
        refine nm_r (e' := nI (wr_y (t :: wr_rr s c 4))) (wr_yc ht hlt (by omega)) ?_
        have last : wY_look_245 post (nI t) (nI ((wr_rr s c 4).headD 0)) (nI (wr_s G (wr_rr s c 4))) (nI (wr_z t (wr_rr s c 4))) (nI (wr_Y G s t c).length) (nI (wr_Y G s t c).length) (fun i => nI (G i)) ways sums := by
          refine ⟨vp_in_nI h65' (by decide), ?_⟩
          refine nm_r (e' := upd ways (wr_Y G s t c).length (nI (wr_z t (wr_rr s c 4)))) (by rw [nI_clamp (by omega)]) ?_
          refine ⟨hin, vp_in_nI h65' (by decide), ?_⟩
          refine nm_r (e' := upd sums (wr_Y G s t c).length (nI (wr_s G (t :: wr_rr s c 4)))) (by rw [hcl, nI_clamp (by omega), nI_add, wr_s_c G t hlen.1]) ?_
          refine nm_r (nI_1 _) (h _ _ _ ?_)
          rw [hY]
          refine ⟨?_, wr_A_push q2 _, wr_A_push q3 _⟩
          rw [List.length_append]; rfl
        refine pk_le 5 (wr_rr s c 4).length (fun l5 => ?_) (fun l5 => ?_) rfl rfl (by omega) (by omega)
        · have e : wr_z t (wr_rr s c 4) = wr_y (t :: wr_rr s c 4) := if_neg (by omega)
          rw [e] at last
          exact last
        · rw [wr_ye hlt' l5]
          exact last
  · intro m k U hk hU next
    have hD7 := wr_D_7 c k
    have hc7 : c / 7 ^ k < 2 ^ 31 := Nat.lt_of_le_of_lt (Nat.div_le_self _ _) (by omega)
    have hh := wr_rr_hd (c := c) hs k
    refine br_f (nI_ge (b := 4) hk (by decide)) ⟨by decide, ?_⟩
    refine nm_r (e' := nI (wr_D c k)) (pk_rem (d := 7) hc7 (by decide) (by decide)) ?_
    refine ⟨by decide, ?_⟩
    refine nm_r (e' := nI (c / 7 ^ (k + 1))) ((pk_div (d := 7) hc7 (by decide) (by decide)).trans (congrArg nI (wr_dv c k))) ?_
    refine pk_le 6 (wr_D c k) (fun l => ?_) (fun l => ?_) rfl rfl (by omega) (by omega)
    · have n6 : ¬ wr_D c k < 6 := by omega
      refine wr_Y_149 ?_
      have := next U (by rw [wr_rr_n n6]; exact hU)
      rw [wr_rr_n n6, wr_kk_n n6] at this
      exact this
    · have nx := next (U ||| 2 ^ wr_D c k) (by rw [wr_rr_y l]; exact wr_U_c l hU)
      have off : ¬ wr_kk G s t c (k + 1) = true → wY_look_100 post (wY_look_33 post (nI t) cnt (fun i => nI (G i)) ways sums m) (nI t) (nI (c / 7 ^ (k + 1))) (nI U) (nI ((wr_rr s c k).headD 0)) (nI (wr_s G (wr_rr s c k))) (nI (wr_y (wr_rr s c k))) (nI (wr_rr s c k).length) (wr_b (wr_en c k)) (nI k) (nI (wr_D c k)) cnt (fun i => nI (G i)) ways sums := by
        intro no
        exact wr_Y_101 (n0 := 0) hs hk l (wr_b_f no).symm nx
      have hi := wr_kk_i (G := G) l hU
      refine br_c (fun z => off (fun y => wr_b_0.1 z (hi.1 y).1)) (fun z1 => ?_)
      refine br_c (fun z2 => ?_) (fun z2 => off (fun y => z2 (wr_b_0.2 (hi.1 y).2.1)))
      have eb := wr_ub hU.1 l
      have hbit : U / 2 ^ wr_D c k % 2 < 2 := Nat.mod_lt _ (by decide)
      refine pk_eq (U / 2 ^ wr_D c k % 2) 0 (fun z3 => ?_) (fun z3 => off (fun y => z3 (hi.1 y).2.2.1)) eb rfl (by omega) (by omega)
      have hix : (6 : Int32) * nI ((wr_rr s c k).headD 0) + nI (wr_D c k) = nI ((wr_rr s c k).headD 0 * 6 + wr_D c k) := wr_ixM
      have hg20 := hG ((wr_rr s c k).headD 0 * 6 + wr_D c k)
      refine ⟨by rw [hix]; exact vp_in_nI (by omega) (by decide), ?_⟩
      refine pk_le (G ((wr_rr s c k).headD 0 * 6 + wr_D c k)) 0 (fun z4 => off (fun y => ?_)) (fun z4 => ?_) (by rw [hix, nI_clamp (by omega)]) rfl (by omega) (by omega)
      · have := (hi.1 y).2.2.2
        omega
      · have y1 : wr_kk G s t c k = true := Classical.byContradiction (fun y => z1 (wr_b_0.2 y))
        exact wr_Y_101 (n0 := 0) hs hk l (wr_b_t (hi.2 ⟨y1, wr_b_0.1 z2, z3, z4⟩)).symm nx
theorem wr_Y_list {post : SY → Prop} {G : Nat → Nat} (hG : ∀ i, G i ≤ 20) {s t : Int32} {tn : Nat} {W : List (List Nat)} (hV : wr_V G s t tn W) {cnt : Int32} {ways sums : Nat → Int32}
    (h : ∀ cnt' ways' sums', wr_YS G tn W cnt' ways' sums' → post (cnt', (fun i => nI (G i)), ways', sums')) : wpY_list post (cnt, (fun i => nI (G i)), ways, sums) s t := by
  rcases hV with ⟨si, hs, ht, hst, es, et, eW⟩ | ⟨no, eW⟩
  · subst es et eW
    refine loop_0 (fun m c (q : Int32 × (Nat → Int32) × (Nat → Int32)) => wY_list_7 post (nI si) (nI tn) m (nI c) q.1 (fun i => nI (G i)) q.2.1 q.2.2)
      (fun c q => wr_YS G tn (wr_Y G si tn c) q.1 q.2.1 q.2.2) 2401 (nI 0, ways, sums) ⟨rfl, wr_A_nil _ _, wr_A_nil _ _⟩ ?_ ?_
    · rintro m ⟨c', w', s'⟩ hq
      exact br_t (by decide) (h c' w' s' hq)
    · rintro m c ⟨c', w', s'⟩ hc hq k
      refine br_f (nI_ge (b := 2401) hc (by decide)) ?_
      refine wr_Y_pair (fun i j hi hj hij ei ej => ?_) (fun no => absurd (no si tn hs ht rfl rfl) hst)
      refine br_f (by decide) ?_
      refine wr_Y_look hG hs ht hst hc hq (fun a b d hS => ?_)
      exact nm_r (nI_1 c) (k (a, b, d) hS)
  · subst eW
    refine ⟨1, ?_⟩
    refine br_f (by decide) ?_
    refine wr_Y_pair (fun i j hi hj hij ei ej => absurd (no i j hi hj ei ej) hij) (fun _ => ?_)
    exact br_t rfl (h _ _ _ ⟨rfl, wr_A_nil _ _, wr_A_nil _ _⟩)
