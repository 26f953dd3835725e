/-! arrays that hold lists; the class's ranked list; answers as functions of the two lists -/
def wr_A {α : Type} (e : α → Int32) (f : Nat → Int32) (L : List α) : Prop := ∀ (j : Nat) (h : j < L.length), f j = e L[j]
theorem wr_A_nil {α : Type} (e : α → Int32) (f : Nat → Int32) : wr_A e f [] := fun j h => absurd h (Nat.not_lt_zero j)
theorem wr_A_push {α : Type} {e : α → Int32} {f : Nat → Int32} {L : List α} (h : wr_A e f L) (x : α) : wr_A e (upd f L.length (e x)) (L ++ [x]) := by
  intro j hj
  by_cases z : j < L.length
  · rw [pk_un (by omega), List.getElem_append_left z]; exact h j z
  · have hl : (L ++ [x]).length = L.length + 1 := by simp
    have hj' : j = L.length := by omega
    subst hj'
    rw [pk_us, List.getElem_concat_length rfl]
theorem wr_A_ins {f : Nat → Int32} {R : List Nat} {i x : Nat} (hi : i ≤ R.length) (h1 : ∀ (j : Nat) (hj : j < R.length), j < i → f j = nI R[j]) (h2 : ∀ (j : Nat) (hj : j < R.length), i ≤ j → f (j + 1) = nI R[j]) : wr_A nI (upd f i (nI x)) (R.take i ++ x :: R.drop i) := by
  intro j hj
  have hl : (R.take i).length = i := by rw [List.length_take]; omega
  have hlen : (R.take i ++ x :: R.drop i).length = R.length + 1 := by
    rw [List.length_append, hl, List.length_cons, List.length_drop]; omega
  rcases Nat.lt_trichotomy j i with l | l | l
  · rw [pk_un (by omega), List.getElem_append_left (by omega), List.getElem_take]
    exact h1 j (by omega) l
  · subst l
    have key : (R.take j ++ x :: R.drop j)[j]? = some x := by
      rw [List.getElem?_append_right (by omega), hl, Nat.sub_self]; rfl
    rw [List.getElem?_eq_getElem hj] at key
    rw [pk_us, Option.some.inj key]
  · obtain ⟨m, rfl⟩ : ∃ m, j = m + 1 := ⟨j - 1, by omega⟩
    have key : (R.take i ++ x :: R.drop i)[m + 1]? = R[m]? := by
      rw [List.getElem?_append_right (by omega), hl, show m + 1 - i = (m - i) + 1 from by omega, List.getElem?_cons_succ, List.getElem?_drop]
      congr 1; omega
    rw [List.getElem?_eq_getElem hj, List.getElem?_eq_getElem (by omega)] at key
    rw [pk_un (by omega), Option.some.inj key]
    exact h2 m (by omega) (by omega)
theorem wr_ct {α : Type} {L : List α} (p : α → Bool) {i : Nat} (h : i < L.length) : (L.take (i + 1)).countP p = (L.take i).countP p + if p L[i] = true then 1 else 0 := by
  rw [List.take_succ_eq_append_getElem h, List.countP_append, List.countP_singleton]
theorem wr_ct_le {α : Type} (L : List α) (p : α → Bool) (i : Nat) : (L.take i).countP p ≤ L.length := by
  refine Nat.le_trans List.countP_le_length ?_
  rw [List.length_take]; omega
/-- a way's trail -/
def wr_g (t : Nat) (r : List Nat) : Prop := (∀ x, x ∈ t :: r → x < 6) ∧ t ∉ r ∧ 1 ≤ r.length ∧ r.length ≤ 5
theorem wr_ok_g {G : Nat → Nat} {s t : Nat} (hs : s < 6) (ht : t < 6) (hst : s ≠ t) {r : List Nat} (h : wr_ok G s t r = true) : wr_g t r := by
  refine ⟨fun x hx => ?_, wr_ok_t hst r h, (wr_ok_len hs ht hst h).1, (wr_ok_len hs ht hst h).2⟩
  rcases List.mem_cons.1 hx with e | e
  · omega
  · exact wr_ok_lt hs r h x e
theorem wr_g_p {t : Nat} {r : List Nat} (h : wr_g t r) : ∀ i, wr_p (t :: r) i < 8 := wr_p_lt h.1
theorem wr_g_l {t : Nat} {r : List Nat} (h : wr_g t r) : (t :: r).length ≤ 6 := by
  have := h.2.2.2
  simp only [List.length_cons]; omega
theorem wr_g_K {G : Nat → Nat} (hG : ∀ i, G i ≤ 20) {t : Nat} {r : List Nat} (h : wr_g t r) : wr_K G (t :: r) < 2 ^ 25 := wr_K_lt hG (wr_g_p h) (wr_g_l h)
/-! the class: V the ways that have been found, each by its trail -/
def wr_v (G : Nat → Nat) (t : Nat) (r : List Nat) (i : Nat) : List (List Nat) := if t < i ∧ 0 < G (r.headD 0 * 6 + t) then [r] else []
/-- the sorted list of the keys of V, equal keys allowed -/
def wr_S (G : Nat → Nat) (t : Nat) (V : List (List Nat)) (R : List Nat) : Prop := R.Pairwise (· ≤ ·) ∧ R.Perm (V.map (fun r => wr_K G (t :: r)))
theorem wr_S_0 (G : Nat → Nat) (t : Nat) : wr_S G t [] [] := ⟨List.Pairwise.nil, List.Perm.refl _⟩
theorem wr_S_len {G : Nat → Nat} {t : Nat} {V : List (List Nat)} {R : List Nat} (h : wr_S G t V R) : R.length = V.length := by
  rw [h.2.length_eq, List.length_map]
theorem wr_S_i {G : Nat → Nat} {t : Nat} {V : List (List Nat)} {R : List Nat} (h : wr_S G t V R) {r : List Nat} {i : Nat} (h1 : ∀ y, y ∈ R.drop i → wr_K G (t :: r) ≤ y) (h2 : ∀ y, y ∈ R.take i → y ≤ wr_K G (t :: r)) : wr_S G t (V ++ [r]) (R.take i ++ wr_K G (t :: r) :: R.drop i) := by
  obtain ⟨a, b⟩ := wr_ins h.1 h1 h2
  refine ⟨a, b.trans ?_⟩
  rw [List.map_append]
  refine (List.Perm.cons _ h.2).trans ?_
  exact (List.perm_append_singleton _ _).symm
theorem wr_R_S {G : Nat → Nat} {t : Nat} {V W : List (List Nat)} {R : List Nat} (h : wr_S G t V R) (hn : (V.map (fun r => wr_K G (t :: r))).Nodup) (hp : V.Perm W) : wr_R G t W R := by
  have hnR : R.Nodup := h.2.nodup_iff.2 hn
  refine ⟨?_, h.2.trans (hp.map _)⟩
  exact (List.Pairwise.and h.1 hnR).imp (fun {a b} z => Nat.lt_of_le_of_ne z.1 z.2)
theorem wr_T_A {G : Nat → Nat} {s t : Nat} {T : List (List Nat)} {i : Nat} (h : wr_T G s t (T.take i) T) (hi : i < T.length) : T[i] ∉ T.take i := by
  have h1 : (T.take (i + 1)).Nodup := List.Nodup.sublist (List.take_sublist (i + 1) T) h.1
  rw [List.take_succ_eq_append_getElem hi, List.nodup_append] at h1
  intro m
  exact h1.2.2 _ m _ (List.mem_singleton.2 rfl) rfl
theorem wr_T_n {G : Nat → Nat} {s t : Nat} {T : List (List Nat)} {i : Nat} (h : wr_T G s t (T.take i) T) (hi : i < T.length) : wr_T G s t ((T ++ wr_x G t T[i] 6).take (i + 1)) (T ++ wr_x G t T[i] 6) := by
  have e : (T ++ wr_x G t T[i] 6).take (i + 1) = T.take i ++ [T[i]] := by
    rw [List.take_append_of_le_length (by omega), List.take_succ_eq_append_getElem hi]
  rw [e]
  exact wr_T_s h (List.getElem_mem hi) (wr_T_A h hi)
/-- the ways of the processed trails -/
def wr_f (G : Nat → Nat) (t : Nat) (A : List (List Nat)) : List (List Nat) := A.filter (fun r => decide (0 < G (r.headD 0 * 6 + t)))
theorem wr_f_s {G : Nat → Nat} {t : Nat} (ht : t < 6) (A : List (List Nat)) (r : List Nat) : wr_f G t (A ++ [r]) = wr_f G t A ++ wr_v G t r 6 := by
  unfold wr_f wr_v
  rw [List.filter_append]
  by_cases z : 0 < G (r.headD 0 * 6 + t)
  · rw [if_pos ⟨ht, z⟩, List.filter_cons_of_pos (by simpa using z)]; rfl
  · rw [if_neg (fun y => z y.2), List.filter_cons_of_neg (by simpa using z)]; rfl
theorem wr_f_Y {G : Nat → Nat} {s t : Nat} (hs : s < 6) (ht : t < 6) (hst : s ≠ t) {T : List (List Nat)} (h : wr_T G s t T T) : (wr_f G t T).Perm (wr_Y G s t 2401) := by
  refine (List.perm_ext_iff_of_nodup (List.Pairwise.filter _ h.1) (wr_Y_nd G s t (Nat.le_refl _))).2 (fun r => ?_)
  rw [wr_Y_all hs ht hst]
  unfold wr_w
  rw [List.mem_filter, Bool.and_eq_true]
  exact ⟨fun z => ⟨h.2.1 r z.1, z.2⟩, fun z => ⟨wr_T_all h r z.1, z.2⟩⟩
theorem wr_f_R {G : Nat → Nat} {s t : Nat} (hs : s < 6) (ht : t < 6) (hst : s ≠ t) {T : List (List Nat)} (h : wr_T G s t T T) {R : List Nat} (hS : wr_S G t (wr_f G t T) R) : wr_R G t (wr_Y G s t 2401) R := by
  refine wr_R_S hS (wr_map_nd hs ht hst (List.Pairwise.filter _ h.1) (fun r hr => h.2.1 r ?_)) (wr_f_Y hs ht hst h)
  exact (List.mem_filter.1 hr).1
/-! the ways of a call: s, t as given -/
def wr_V (G : Nat → Nat) (s t : Int32) (tn : Nat) (W : List (List Nat)) : Prop := (∃ i, i < 6 ∧ tn < 6 ∧ i ≠ tn ∧ s = nI i ∧ t = nI tn ∧ W = wr_Y G i tn 2401) ∨ ((∀ i j, i < 6 → j < 6 → s = nI i → t = nI j → i = j) ∧ W = [])
theorem wr_V_ex (G : Nat → Nat) (s t : Int32) : ∃ tn W, wr_V G s t tn W := by
  by_cases h : ∃ i j, i < 6 ∧ j < 6 ∧ i ≠ j ∧ s = nI i ∧ t = nI j
  · obtain ⟨i, j, h1, h2, h3, h4, h5⟩ := h
    exact ⟨j, _, Or.inl ⟨i, h1, h2, h3, h4, h5, rfl⟩⟩
  · refine ⟨0, [], Or.inr ⟨fun i j h1 h2 h4 h5 => ?_, rfl⟩⟩
    exact Classical.byContradiction (fun z => h ⟨i, j, h1, h2, z, h4, h5⟩)
theorem wr_V_g {G : Nat → Nat} {s t : Int32} {tn : Nat} {W : List (List Nat)} (h : wr_V G s t tn W) : ∀ r, r ∈ W → wr_g tn r := by
  rcases h with ⟨i, h1, h2, h3, _, _, e⟩ | ⟨_, e⟩
  · intro r hr
    rw [e] at hr
    exact wr_ok_g h1 h2 h3 (Bool.and_eq_true_iff.1 (wr_Y_w r hr)).1
  · intro r hr
    rw [e] at hr
    exact absurd hr List.not_mem_nil
theorem wr_V_65 {G : Nat → Nat} {s t : Int32} {tn : Nat} {W : List (List Nat)} (h : wr_V G s t tn W) : W.length ≤ 65 := by
  rcases h with ⟨i, h1, h2, h3, _, _, e⟩ | ⟨_, e⟩
  · rw [e]; exact wr_Y_65 h1 h2 h3 (Nat.le_refl _)
  · rw [e]; exact Nat.zero_le _
theorem wr_V_nd {G : Nat → Nat} {s t : Int32} {tn : Nat} {W : List (List Nat)} (h : wr_V G s t tn W) : W.Nodup := by
  rcases h with ⟨i, h1, h2, h3, _, _, e⟩ | ⟨_, e⟩
  · rw [e]; exact wr_Y_nd G i tn (Nat.le_refl _)
  · rw [e]; exact List.Pairwise.nil
/-- two ways of one call -/
theorem wr_V_lt {G : Nat → Nat} {s t : Int32} {tn : Nat} {W : List (List Nat)} (h : wr_V G s t tn W) {a b : List Nat} (ha : a ∈ W) (hb : b ∈ W) (ne : a ≠ b) :
    ∃ i, i ≤ a.length ∧ i ≤ b.length ∧ i < 6 ∧ (∀ j, j < i → wr_p (tn :: a) j = wr_p (tn :: b) j) ∧ wr_p (tn :: a) i ≠ wr_p (tn :: b) i ∧
      (wr_K G (tn :: a) < wr_K G (tn :: b) ↔ (wr_s G (tn :: a) < wr_s G (tn :: b) ∨ (wr_s G (tn :: a) = wr_s G (tn :: b) ∧ wr_p (tn :: a) i < wr_p (tn :: b) i))) ∧ wr_K G (tn :: a) ≠ wr_K G (tn :: b) := by
  rcases h with ⟨i, h1, h2, h3, _, _, e⟩ | ⟨_, e⟩
  · rw [e] at ha hb
    exact wr_K_ne h1 h2 h3 (Bool.and_eq_true_iff.1 (wr_Y_w a ha)).1 (Bool.and_eq_true_iff.1 (wr_Y_w b hb)).1 ne
  · rw [e] at ha
    exact absurd ha List.not_mem_nil
theorem wr_R_mem {G : Nat → Nat} {t : Nat} {W : List (List Nat)} {R : List Nat} (h : wr_R G t W R) {n : Nat} : n ∈ R ↔ ∃ r, r ∈ W ∧ wr_K G (t :: r) = n := by
  rw [h.2.mem_iff, List.mem_map]
theorem wr_R_cnt {G : Nat → Nat} {t : Nat} {W : List (List Nat)} {R : List Nat} (h : wr_R G t W R) (hg : ∀ r, r ∈ W → wr_g t r) (p : Nat → Bool) : R.countP (fun n => p (n / 262144)) = W.countP (fun r => p (wr_s G (t :: r))) := by
  rw [h.2.countP_eq, List.countP_map]
  refine List.countP_congr (fun r hr => ?_)
  show p (wr_K G (t :: r) / 262144) = true ↔ _
  rw [wr_s_K (wr_g_p (hg r hr))]
/-! a road cut -/
def wr_q (a b n : Nat) : Bool := (List.range 5).any (fun i => wr_d n i == a && wr_d n (i + 1) == b)
theorem wr_q_i {a b n : Nat} : wr_q a b n = true ↔ ∃ i, i < 5 ∧ wr_d n i = a ∧ wr_d n (i + 1) = b := by
  unfold wr_q
  rw [List.any_eq_true]
  constructor
  · rintro ⟨i, h1, h2⟩
    simp only [Bool.and_eq_true, beq_iff_eq] at h2
    exact ⟨i, List.mem_range.1 h1, h2.1, h2.2⟩
  · rintro ⟨i, h1, h2, h3⟩
    refine ⟨i, List.mem_range.2 h1, ?_⟩
    simp only [Bool.and_eq_true, beq_iff_eq]
    exact ⟨h2, h3⟩
theorem wr_q_K {G : Nat → Nat} {t : Nat} {r : List Nat} (h : wr_g t r) {a b : Nat} (ha : a < 6) (hb : b < 6) : wr_q a b (wr_K G (t :: r)) = wr_tk a b (t :: r) := by
  rw [Bool.eq_iff_iff, wr_q_i]
  exact wr_tk_K h.1 (wr_g_l h) ha hb
theorem wr_cut_w {G : Nat → Nat} {s t a b : Nat} (hs : s < 6) (ht : t < 6) (hb : b < 6) (r : List Nat) : wr_w (wr_cut G (a * 6 + b)) s t r = true ↔ wr_w G s t r = true ∧ wr_tk a b (t :: r) = false := by
  unfold wr_w
  rw [Bool.and_eq_true, Bool.and_eq_true, wr_cut_ok hs hb r, decide_eq_true_eq, decide_eq_true_eq]
  cases r with
  | nil =>
    constructor
    · rintro ⟨⟨z, _⟩, _⟩; exact (Bool.false_ne_true z).elim
    · rintro ⟨⟨z, _⟩, _⟩; exact (Bool.false_ne_true z).elim
  | cons u r =>
    have hk : wr_tk a b (t :: u :: r) = ((u == a && t == b) || wr_tk a b (u :: r)) := rfl
    have hg : 0 < wr_cut G (a * 6 + b) (u * 6 + t) ↔ 0 < G (u * 6 + t) ∧ ¬ (u = a ∧ t = b) := by
      unfold wr_cut
      by_cases e : u * 6 + t = a * 6 + b
      · rw [if_pos e]
        have : u = a ∧ t = b := by omega
        simp [this]
      · rw [if_neg e]
        have : ¬ (u = a ∧ t = b) := fun z => e (by rw [z.1, z.2])
        simp [this]
    show (_ ∧ 0 < wr_cut G (a * 6 + b) (u * 6 + t)) ↔ (_ ∧ 0 < G (u * 6 + t)) ∧ _
    rw [hk, Bool.or_eq_false_iff, hg]
    constructor
    · rintro ⟨⟨h1, h2⟩, h3, h4⟩
      exact ⟨⟨h1, h3⟩, by simpa using h4, h2⟩
    · rintro ⟨⟨h1, h2⟩, h3, h4⟩
      exact ⟨⟨h1, h4⟩, h2, by simpa using h3⟩
theorem wr_R_cut {G : Nat → Nat} {s t a b : Nat} (hs : s < 6) (ht : t < 6) (hst : s ≠ t) (ha : a < 6) (hb : b < 6) {R : List Nat} (h : wr_R G t (wr_Y G s t 2401) R) : wr_R (wr_cut G (a * 6 + b)) t (wr_Y (wr_cut G (a * 6 + b)) s t 2401) (R.filter (fun n => !wr_q a b n)) := by
  refine ⟨List.Pairwise.filter _ h.1, ?_⟩
  refine (List.Perm.filter _ h.2).trans ?_
  rw [List.filter_map]
  have hg : ∀ r, r ∈ wr_Y G s t 2401 → wr_g t r := fun r hr => wr_ok_g hs ht hst (Bool.and_eq_true_iff.1 (wr_Y_w r hr)).1
  have e1 : ((wr_Y G s t 2401).filter ((fun n => !wr_q a b n) ∘ fun r => wr_K G (t :: r))).Perm (wr_Y (wr_cut G (a * 6 + b)) s t 2401) := by
    refine (List.perm_ext_iff_of_nodup (List.Pairwise.filter _ (wr_Y_nd G s t (Nat.le_refl _))) (wr_Y_nd _ s t (Nat.le_refl _))).2 (fun r => ?_)
    rw [List.mem_filter, wr_Y_all (G := wr_cut G (a * 6 + b)) hs ht hst, wr_cut_w hs ht hb r]
    constructor
    · rintro ⟨h1, h2⟩
      refine ⟨(wr_Y_all hs ht hst r).1 h1, ?_⟩
      have h2' : (!wr_q a b (wr_K G (t :: r))) = true := h2
      rw [wr_q_K (hg r h1) ha hb] at h2'
      simpa using h2'
    · rintro ⟨h1, h2⟩
      have h1' := (wr_Y_all hs ht hst r).2 h1
      refine ⟨h1', ?_⟩
      show (!wr_q a b (wr_K G (t :: r))) = true
      rw [wr_q_K (hg r h1') ha hb, h2]; rfl
  have e2 : ((wr_Y G s t 2401).filter ((fun n => !wr_q a b n) ∘ fun r => wr_K G (t :: r))).map (fun r => wr_K G (t :: r)) = ((wr_Y G s t 2401).filter ((fun n => !wr_q a b n) ∘ fun r => wr_K G (t :: r))).map (fun r => wr_K (wr_cut G (a * 6 + b)) (t :: r)) := by
    refine List.map_congr_left (fun r hr => ?_)
    have hm := e1.mem_iff.1 hr
    have hw := ((wr_cut_w hs ht hb r).1 ((wr_Y_all hs ht hst r).1 hm)).2
    have hr' := (List.mem_filter.1 hr).1
    unfold wr_K
    rw [wr_cut_s hb (t :: r) (hg r hr').1 hw]
  rw [e2]
  exact e1.map _
theorem wr_flt0 {R : List Nat} {p : Nat → Bool} {k : Nat} (hk : k < R.length) (h : p R[k] = true) (h0 : ∀ (j : Nat) (hj : j < k), p (R[j]'(by omega)) = false) : (R.filter p)[0]? = some R[k] := by
  rw [← List.head?_eq_getElem?, List.head?_filter, List.find?_eq_some_iff_getElem]
  refine ⟨h, k, hk, rfl, fun j hj => ?_⟩
  rw [h0 j hj]; rfl
