/-! The class's walk over trails, the reference's over codes: two lists of the same ways. -/
/-- the trails that go on from r to a place below i -/
def wr_x (G : Nat → Nat) (t : Nat) (r : List Nat) (i : Nat) : List (List Nat) := ((List.range i).filter (fun v => decide (0 < G (r.headD 0 * 6 + v)) && !r.contains v && v != t)).map (fun v => v :: r)
theorem wr_x_0 (G : Nat → Nat) (t : Nat) (r : List Nat) : wr_x G t r 0 = [] := rfl
theorem wr_x_y {G : Nat → Nat} {t : Nat} {r : List Nat} {i : Nat} (h1 : 0 < G (r.headD 0 * 6 + i)) (h2 : i ∉ r) (h3 : i ≠ t) : wr_x G t r (i + 1) = wr_x G t r i ++ [i :: r] := by
  unfold wr_x
  rw [List.range_succ, List.filter_append, List.map_append, List.filter_cons_of_pos (by simp only [Bool.and_eq_true, decide_eq_true_eq, bne_iff_ne, Bool.not_eq_true', ne_eq, List.contains_eq_mem, decide_eq_false_iff_not]; exact ⟨⟨h1, h2⟩, h3⟩)]
  rfl
theorem wr_x_n {G : Nat → Nat} {t : Nat} {r : List Nat} {i : Nat} (h : ¬ (0 < G (r.headD 0 * 6 + i) ∧ i ∉ r ∧ i ≠ t)) : wr_x G t r (i + 1) = wr_x G t r i := by
  unfold wr_x
  rw [List.range_succ, List.filter_append, List.map_append, List.filter_cons_of_neg (by
    intro z
    simp only [Bool.and_eq_true, decide_eq_true_eq, bne_iff_ne, Bool.not_eq_true', ne_eq, List.contains_eq_mem, decide_eq_false_iff_not] at z
    exact h ⟨z.1.1, z.1.2, z.2⟩)]
  simp
theorem wr_x_mem {G : Nat → Nat} {t : Nat} {r : List Nat} {i : Nat} {x : List Nat} : x ∈ wr_x G t r i ↔ ∃ v, v < i ∧ 0 < G (r.headD 0 * 6 + v) ∧ v ∉ r ∧ v ≠ t ∧ x = v :: r := by
  unfold wr_x
  rw [List.mem_map]
  constructor
  · rintro ⟨v, hv, e⟩
    rw [List.mem_filter, List.mem_range] at hv
    obtain ⟨h1, h2⟩ := hv
    simp only [Bool.and_eq_true, decide_eq_true_eq, bne_iff_ne, Bool.not_eq_true', ne_eq, List.contains_eq_mem, decide_eq_false_iff_not] at h2
    exact ⟨v, h1, h2.1.1, h2.1.2, h2.2, e.symm⟩
  · rintro ⟨v, h1, h2, h3, h4, e⟩
    refine ⟨v, List.mem_filter.2 ⟨List.mem_range.2 h1, ?_⟩, e.symm⟩
    simp only [Bool.and_eq_true, decide_eq_true_eq, bne_iff_ne, Bool.not_eq_true', ne_eq, List.contains_eq_mem, decide_eq_false_iff_not]
    exact ⟨⟨h2, h3⟩, h4⟩
theorem wr_x_nd (G : Nat → Nat) (t : Nat) (r : List Nat) (i : Nat) : (wr_x G t r i).Nodup := by
  unfold wr_x
  refine List.pairwise_map.2 (List.Pairwise.filter _ (List.Pairwise.imp ?_ (List.nodup_range (n := i))))
  intro a b hab e
  exact hab (List.cons.inj e).1
theorem wr_x_ok {G : Nat → Nat} {s t : Nat} {r : List Nat} {i : Nat} (hi : i ≤ 6) (h : wr_ok G s t r = true) : ∀ x, x ∈ wr_x G t r i → wr_ok G s t x = true := by
  intro x hx
  obtain ⟨v, h1, h2, h3, h4, e⟩ := wr_x_mem.1 hx
  cases r with
  | nil => exact (Bool.false_ne_true h).elim
  | cons u r => rw [e]; exact wr_ok_c.2 ⟨by omega, h4, h3, h2, h⟩
/-- the list of trails T, of which those of A have been gone on from -/
def wr_T (G : Nat → Nat) (s t : Nat) (A T : List (List Nat)) : Prop := T.Nodup ∧ (∀ r, r ∈ T → wr_ok G s t r = true) ∧ T = [s] :: A.flatMap (fun r => wr_x G t r 6)
theorem wr_T_0 (G : Nat → Nat) (s t : Nat) : wr_T G s t [] [[s]] := by
  refine ⟨by simp, fun r hr => ?_, rfl⟩
  rw [List.mem_singleton.1 hr]
  exact wr_ok_1.2 rfl
theorem wr_T_i {G : Nat → Nat} {s t : Nat} {A T : List (List Nat)} (h : wr_T G s t A T) {r : List Nat} (hr : r ∈ T) (hA : r ∉ A) {i : Nat} (hi : i ≤ 6) : (T ++ wr_x G t r i).Nodup ∧ (∀ x, x ∈ T ++ wr_x G t r i → wr_ok G s t x = true) := by
  obtain ⟨h1, h2, h3⟩ := h
  refine ⟨List.nodup_append.2 ⟨h1, wr_x_nd G t r i, ?_⟩, ?_⟩
  · intro a ha b hb e
    obtain ⟨v, _, _, _, _, eb⟩ := wr_x_mem.1 hb
    rw [h3] at ha
    rcases List.mem_cons.1 ha with z | z
    · rw [e, eb] at z
      exact wr_ok_ne (h2 r hr) (List.cons.inj z).2
    · obtain ⟨r', m1, m2⟩ := List.mem_flatMap.1 z
      obtain ⟨v', _, _, _, _, ea⟩ := wr_x_mem.1 m2
      rw [e, eb] at ea
      have ee := (List.cons.inj ea).2
      exact hA (by rw [ee]; exact m1)
  · intro x hx
    rcases List.mem_append.1 hx with z | z
    · exact h2 x z
    · exact wr_x_ok hi (h2 r hr) x z
theorem wr_T_s {G : Nat → Nat} {s t : Nat} {A T : List (List Nat)} (h : wr_T G s t A T) {r : List Nat} (hr : r ∈ T) (hA : r ∉ A) : wr_T G s t (A ++ [r]) (T ++ wr_x G t r 6) := by
  obtain ⟨a, b⟩ := wr_T_i h hr hA (Nat.le_refl 6)
  refine ⟨a, b, ?_⟩
  have h3 := h.2.2
  rw [List.flatMap_append, ← List.cons_append, ← h3]
  simp
/-- where all have been gone on from, every trail is there -/
theorem wr_T_all {G : Nat → Nat} {s t : Nat} {T : List (List Nat)} (h : wr_T G s t T T) : ∀ r, wr_ok G s t r = true → r ∈ T
  | [], z => (Bool.false_ne_true z).elim
  | [v], z => by
    rw [wr_ok_1] at z
    rw [h.2.2, z]
    exact List.mem_cons_self
  | v :: u :: r, z => by
    have z' := wr_ok_c.1 z
    have ih := wr_T_all h (u :: r) z'.2.2.2.2
    rw [h.2.2]
    refine List.mem_cons_of_mem _ (List.mem_flatMap.2 ⟨u :: r, ih, ?_⟩)
    exact wr_x_mem.2 ⟨v, z'.1, z'.2.2.2.1, z'.2.2.1, z'.2.1, rfl⟩
/-! the reference's codes -/
/-- digit k of the code c -/
def wr_D (c k : Nat) : Nat := c / 7 ^ k % 7
def wr_rr (s c : Nat) : Nat → List Nat
  | 0 => [s]
  | k + 1 => if wr_D c k < 6 then (wr_D c k) :: wr_rr s c k else wr_rr s c k
def wr_en (c : Nat) : Nat → Bool
  | 0 => false
  | k + 1 => wr_en c k || decide (wr_D c k = 6)
def wr_kk (G : Nat → Nat) (s t c : Nat) : Nat → Bool
  | 0 => true
  | k + 1 => if wr_D c k < 6 then wr_kk G s t c k && !wr_en c k && (wr_D c k != t && !(wr_rr s c k).contains (wr_D c k)) && decide (0 < G ((wr_rr s c k).headD 0 * 6 + wr_D c k)) else wr_kk G s t c k
def wr_cd (G : Nat → Nat) (s t c : Nat) : Bool := wr_kk G s t c 4 && decide (0 < G ((wr_rr s c 4).headD 0 * 6 + t))
def wr_Y (G : Nat → Nat) (s t n : Nat) : List (List Nat) := ((List.range n).filter (wr_cd G s t)).map (fun c => wr_rr s c 4)
theorem wr_rr_ne (s c : Nat) : ∀ k, ∃ u r, wr_rr s c k = u :: r
  | 0 => ⟨s, [], rfl⟩
  | k + 1 => by
    obtain ⟨u, r, e⟩ := wr_rr_ne s c k
    unfold wr_rr
    by_cases h : wr_D c k < 6
    · rw [if_pos h]; exact ⟨_, _, rfl⟩
    · rw [if_neg h]; exact ⟨u, r, e⟩
theorem wr_kk_ok {G : Nat → Nat} {s t c : Nat} : ∀ k, wr_kk G s t c k = true → wr_ok G s t (wr_rr s c k) = true
  | 0, _ => wr_ok_1.2 rfl
  | k + 1, h => by
    obtain ⟨u, r, e⟩ := wr_rr_ne s c k
    have ih := wr_kk_ok (G := G) (s := s) (t := t) (c := c) k
    unfold wr_kk at h
    unfold wr_rr
    by_cases z : wr_D c k < 6
    · rw [if_pos z] at h ⊢
      rw [e] at ih h ⊢
      simp only [Bool.and_eq_true, decide_eq_true_eq, bne_iff_ne, Bool.not_eq_true', ne_eq, List.contains_eq_mem, decide_eq_false_iff_not] at h
      exact wr_ok_c.2 ⟨z, h.1.2.1, h.1.2.2, h.2, ih h.1.1.1⟩
    · rw [if_neg z] at h ⊢
      exact ih h
/-- the code of a list -/
def wr_e : List Nat → Nat
  | [_] => 2400
  | [a, _] => 2394 + a
  | [b, a, _] => 2352 + 7 * b + a
  | [c, b, a, _] => 2058 + 49 * c + 7 * b + a
  | [d, c, b, a, _] => 343 * d + 49 * c + 7 * b + a
  | _ => 0
theorem wr_D_c {c : Nat} (hc : c < 2401) : c = 343 * wr_D c 3 + 49 * wr_D c 2 + 7 * wr_D c 1 + wr_D c 0 ∧ wr_D c 0 < 7 ∧ wr_D c 1 < 7 ∧ wr_D c 2 < 7 ∧ wr_D c 3 < 7 := by
  unfold wr_D
  simp only [Nat.reducePow]
  omega
theorem wr_D_a {a b c d : Nat} (ha : a < 7) (hb : b < 7) (hc : c < 7) (hd : d < 7) : wr_D (343 * d + 49 * c + 7 * b + a) 0 = a ∧ wr_D (343 * d + 49 * c + 7 * b + a) 1 = b ∧ wr_D (343 * d + 49 * c + 7 * b + a) 2 = c ∧ wr_D (343 * d + 49 * c + 7 * b + a) 3 = d := by
  unfold wr_D
  simp only [Nat.reducePow]
  omega
theorem wr_e_c {G : Nat → Nat} {s t c : Nat} (hc : c < 2401) (h : wr_kk G s t c 4 = true) : wr_e (wr_rr s c 4) = c := by
  obtain ⟨hq, q0, q1, q2, q3⟩ := wr_D_c hc
  simp only [wr_kk, wr_en] at h
  simp only [wr_rr] at h ⊢
  by_cases z0 : wr_D c 0 < 6 <;> by_cases z1 : wr_D c 1 < 6 <;> by_cases z2 : wr_D c 2 < 6 <;> by_cases z3 : wr_D c 3 < 6 <;>
    simp only [z0, z1, z2, z3, if_true, if_false, ite_true, ite_false, reduceIte] at h ⊢ <;>
    first
    | (show wr_e _ = _; simp only [wr_e]; omega)
    | (exfalso
       simp only [Bool.and_eq_true, Bool.not_eq_true', Bool.or_eq_false_iff, decide_eq_false_iff_not] at h
       omega)
theorem wr_e_r' {G : Nat → Nat} {s t : Nat} : ∀ (r : List Nat), wr_ok G s t r = true → r.length ≤ 5 → wr_e r < 2401 ∧ wr_rr s (wr_e r) 4 = r ∧ wr_kk G s t (wr_e r) 4 = true
  | [], h, _ => (Bool.false_ne_true h).elim
  | [u], h, _ => by
    have e := wr_ok_1.1 h
    subst e
    obtain ⟨w0, w1, w2, w3⟩ := wr_D_a (a := 6) (b := 6) (c := 6) (d := 6) (by omega) (by omega) (by omega) (by omega)
    have ee : wr_e [u] = 343 * 6 + 49 * 6 + 7 * 6 + 6 := by
      simp only [wr_e]
      try omega
    rw [ee]
    generalize hcc : 343 * 6 + 49 * 6 + 7 * 6 + 6 = cc at *
    refine ⟨by omega, ?_, ?_⟩
    · simp [wr_rr, w0, w1, w2, w3]
    · simp [wr_kk, wr_en, wr_rr, w0, w1, w2, w3]
  | [a, u], h, _ => by
    obtain ⟨a1, a2, a3, a4, ka⟩ := wr_ok_c.1 h
    have e := wr_ok_1.1 ka
    subst e
    have a5 : a ≠ 6 := by omega
    obtain ⟨w0, w1, w2, w3⟩ := wr_D_a (a := a) (b := 6) (c := 6) (d := 6) (by omega) (by omega) (by omega) (by omega)
    have ee : wr_e [a, u] = 343 * 6 + 49 * 6 + 7 * 6 + a := by
      simp only [wr_e]
      try omega
    rw [ee]
    generalize hcc : 343 * 6 + 49 * 6 + 7 * 6 + a = cc at *
    refine ⟨by omega, ?_, ?_⟩
    · simp [wr_rr, w0, w1, w2, w3, a1]
    · simp [wr_kk, wr_en, wr_rr, w0, w1, w2, w3, a1, a2, a3, a4, a5]
  | [b, a, u], h, _ => by
    obtain ⟨b1, b2, b3, b4, kb⟩ := wr_ok_c.1 h
    obtain ⟨a1, a2, a3, a4, ka⟩ := wr_ok_c.1 kb
    have e := wr_ok_1.1 ka
    subst e
    have a5 : a ≠ 6 := by omega
    have b5 : b ≠ 6 := by omega
    obtain ⟨w0, w1, w2, w3⟩ := wr_D_a (a := a) (b := b) (c := 6) (d := 6) (by omega) (by omega) (by omega) (by omega)
    have ee : wr_e [b, a, u] = 343 * 6 + 49 * 6 + 7 * b + a := by
      simp only [wr_e]
      try omega
    rw [ee]
    generalize hcc : 343 * 6 + 49 * 6 + 7 * b + a = cc at *
    refine ⟨by omega, ?_, ?_⟩
    · simp [wr_rr, w0, w1, w2, w3, a1, b1]
    · simp [wr_kk, wr_en, wr_rr, w0, w1, w2, w3, a1, a2, a3, a4, a5, b1, b2, b3, b4, b5]
  | [c, b, a, u], h, _ => by
    obtain ⟨c1, c2, c3, c4, kc⟩ := wr_ok_c.1 h
    obtain ⟨b1, b2, b3, b4, kb⟩ := wr_ok_c.1 kc
    obtain ⟨a1, a2, a3, a4, ka⟩ := wr_ok_c.1 kb
    have e := wr_ok_1.1 ka
    subst e
    have a5 : a ≠ 6 := by omega
    have b5 : b ≠ 6 := by omega
    have c5 : c ≠ 6 := by omega
    obtain ⟨w0, w1, w2, w3⟩ := wr_D_a (a := a) (b := b) (c := c) (d := 6) (by omega) (by omega) (by omega) (by omega)
    have ee : wr_e [c, b, a, u] = 343 * 6 + 49 * c + 7 * b + a := by
      simp only [wr_e]
      try omega
    rw [ee]
    generalize hcc : 343 * 6 + 49 * c + 7 * b + a = cc at *
    refine ⟨by omega, ?_, ?_⟩
    · simp [wr_rr, w0, w1, w2, w3, a1, b1, c1]
    · simp [wr_kk, wr_en, wr_rr, w0, w1, w2, w3, a1, a2, a3, a4, a5, b1, b2, b3, b4, b5, c1, c2, c3, c4, c5]
  | [d, c, b, a, u], h, _ => by
    obtain ⟨d1, d2, d3, d4, kd⟩ := wr_ok_c.1 h
    obtain ⟨c1, c2, c3, c4, kc⟩ := wr_ok_c.1 kd
    obtain ⟨b1, b2, b3, b4, kb⟩ := wr_ok_c.1 kc
    obtain ⟨a1, a2, a3, a4, ka⟩ := wr_ok_c.1 kb
    have e := wr_ok_1.1 ka
    subst e
    have a5 : a ≠ 6 := by omega
    have b5 : b ≠ 6 := by omega
    have c5 : c ≠ 6 := by omega
    have d5 : d ≠ 6 := by omega
    obtain ⟨w0, w1, w2, w3⟩ := wr_D_a (a := a) (b := b) (c := c) (d := d) (by omega) (by omega) (by omega) (by omega)
    have ee : wr_e [d, c, b, a, u] = 343 * d + 49 * c + 7 * b + a := by
      simp only [wr_e]
      try omega
    rw [ee]
    generalize hcc : 343 * d + 49 * c + 7 * b + a = cc at *
    refine ⟨by omega, ?_, ?_⟩
    · simp [wr_rr, w0, w1, w2, w3, a1, b1, c1, d1]
    · simp [wr_kk, wr_en, wr_rr, w0, w1, w2, w3, a1, a2, a3, a4, a5, b1, b2, b3, b4, b5, c1, c2, c3, c4, c5, d1, d2, d3, d4, d5]
  | _ :: _ :: _ :: _ :: _ :: _ :: _, _, hl => by simp only [List.length_cons] at hl; omega
theorem wr_e_r {G : Nat → Nat} {s t : Nat} (hs : s < 6) (ht : t < 6) (hst : s ≠ t) {r : List Nat} (h : wr_ok G s t r = true) : wr_e r < 2401 ∧ wr_rr s (wr_e r) 4 = r ∧ wr_kk G s t (wr_e r) 4 = true :=
  wr_e_r' r h (wr_ok_len hs ht hst h).2
theorem wr_Y_nd (G : Nat → Nat) (s t : Nat) {n : Nat} (hn : n ≤ 2401) : (wr_Y G s t n).Nodup := by
  unfold wr_Y
  refine List.pairwise_map.2 ?_
  refine List.Pairwise.imp_of_mem ?_ (List.Pairwise.filter _ (List.nodup_range (n := n)))
  intro a b ha hb hab e
  rw [List.mem_filter, List.mem_range] at ha hb
  have ea := wr_e_c (by omega) (Bool.and_eq_true_iff.1 ha.2).1
  have eb := wr_e_c (by omega) (Bool.and_eq_true_iff.1 hb.2).1
  exact hab (by rw [← ea, ← eb, e])
theorem wr_Y_w {G : Nat → Nat} {s t n : Nat} : ∀ r, r ∈ wr_Y G s t n → wr_w G s t r = true := by
  intro r hr
  unfold wr_Y at hr
  obtain ⟨c, hc, e⟩ := List.mem_map.1 hr
  rw [List.mem_filter, List.mem_range] at hc
  obtain ⟨h1, h2⟩ := Bool.and_eq_true_iff.1 hc.2
  unfold wr_w
  rw [← e, wr_kk_ok 4 h1, h2]; rfl
theorem wr_Y_all {G : Nat → Nat} {s t : Nat} (hs : s < 6) (ht : t < 6) (hst : s ≠ t) : ∀ r, r ∈ wr_Y G s t 2401 ↔ wr_w G s t r = true := by
  intro r
  constructor
  · exact wr_Y_w r
  · intro h
    obtain ⟨h1, h2⟩ := Bool.and_eq_true_iff.1 h
    obtain ⟨e1, e2, e3⟩ := wr_e_r hs ht hst h1
    refine List.mem_map.2 ⟨wr_e r, List.mem_filter.2 ⟨List.mem_range.2 e1, ?_⟩, e2⟩
    unfold wr_cd
    rw [e2, e3, h2]; rfl
theorem wr_Y_65 {G : Nat → Nat} {s t n : Nat} (hs : s < 6) (ht : t < 6) (hst : s ≠ t) (hn : n ≤ 2401) : (wr_Y G s t n).length ≤ 65 :=
  wr_65 hs ht hst (wr_Y_nd G s t hn) (fun r hr => (Bool.and_eq_true_iff.1 (wr_Y_w r hr)).1)
theorem wr_Y_y {G : Nat → Nat} {s t n : Nat} (h : wr_cd G s t n = true) : wr_Y G s t (n + 1) = wr_Y G s t n ++ [wr_rr s n 4] := by
  unfold wr_Y
  rw [List.range_succ, List.filter_append, List.map_append, List.filter_cons_of_pos h]
  rfl
theorem wr_Y_n {G : Nat → Nat} {s t n : Nat} (h : ¬ wr_cd G s t n = true) : wr_Y G s t (n + 1) = wr_Y G s t n := by
  unfold wr_Y
  rw [List.range_succ, List.filter_append, List.map_append, List.filter_cons_of_neg h]
  simp
/-! a road taken away -/
def wr_tk (a b : Nat) : List Nat → Bool
  | v :: u :: r => (u == a && v == b) || wr_tk a b (u :: r)
  | _ => false
def wr_cut (G : Nat → Nat) (i : Nat) : Nat → Nat := fun j => if j = i then 0 else G j
theorem wr_cut_ok {G : Nat → Nat} {s t a b : Nat} (hs : s < 6) (hb : b < 6) : ∀ r, wr_ok (wr_cut G (a * 6 + b)) s t r = true ↔ wr_ok G s t r = true ∧ wr_tk a b r = false
  | [] => by simp [wr_ok]
  | [v] => by simp [wr_ok, wr_tk]
  | v :: u :: r => by
    rw [wr_ok_c, wr_ok_c, wr_cut_ok hs hb (u :: r)]
    have ht : wr_tk a b (v :: u :: r) = ((u == a && v == b) || wr_tk a b (u :: r)) := rfl
    have hg : ∀ hv : v < 6, (0 < wr_cut G (a * 6 + b) (u * 6 + v) ↔ 0 < G (u * 6 + v) ∧ ¬ (u = a ∧ v = b)) := by
      intro hv
      unfold wr_cut
      by_cases e : u * 6 + v = a * 6 + b
      · rw [if_pos e]
        have : u = a ∧ v = b := by omega
        simp [this]
      · rw [if_neg e]
        have : ¬ (u = a ∧ v = b) := fun z => e (by rw [z.1, z.2])
        simp [this]
    rw [ht, Bool.or_eq_false_iff]
    constructor
    · rintro ⟨h1, h2, h3, h4, h5, h6⟩
      have g := (hg h1).1 h4
      exact ⟨⟨h1, h2, h3, g.1, h5⟩, by simpa using g.2, h6⟩
    · rintro ⟨⟨h1, h2, h3, h4, h5⟩, h6, h7⟩
      exact ⟨h1, h2, h3, (hg h1).2 ⟨h4, by simpa using h6⟩, h5, h7⟩
theorem wr_cut_s {G : Nat → Nat} {a b : Nat} (hb : b < 6) : ∀ r, (∀ x, x ∈ r → x < 6) → wr_tk a b r = false → wr_s (wr_cut G (a * 6 + b)) r = wr_s G r
  | [], _, _ => rfl
  | [_], _, _ => rfl
  | v :: u :: r, h, z => by
    have ht : wr_tk a b (v :: u :: r) = ((u == a && v == b) || wr_tk a b (u :: r)) := rfl
    rw [ht, Bool.or_eq_false_iff] at z
    have ih := wr_cut_s (G := G) hb (u :: r) (fun x hx => h x (List.mem_cons_of_mem _ hx)) z.2
    have hv := h v List.mem_cons_self
    have : wr_cut G (a * 6 + b) (u * 6 + v) = G (u * 6 + v) := by
      unfold wr_cut
      rw [if_neg]
      intro e
      have : u = a ∧ v = b := by omega
      simp [this] at z
    show wr_s _ (u :: r) + _ = wr_s G (u :: r) + _
    rw [ih, this]
