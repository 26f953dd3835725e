/-! Insertion into the sorted list; ranks on both sides; a road cut, on the sorted list. -/
/-- f holds R -/
def wr_H (f : Nat → Int32) (R : List Nat) : Prop := ∀ (j : Nat) (h : j < R.length), f j = nI R[j]
theorem wr_ins {R : List Nat} {x i : Nat} (hs : R.Pairwise (· ≤ ·)) (h1 : ∀ y, y ∈ R.drop i → x ≤ y) (h2 : ∀ y, y ∈ R.take i → y ≤ x) : (R.take i ++ x :: R.drop i).Pairwise (· ≤ ·) ∧ (R.take i ++ x :: R.drop i).Perm (x :: R) := by
  constructor
  · have ht : (R.take i ++ R.drop i).Pairwise (· ≤ ·) := by rw [List.take_append_drop]; exact hs
    rw [List.pairwise_append] at ht ⊢
    refine ⟨ht.1, List.pairwise_cons.2 ⟨h1, ht.2.1⟩, ?_⟩
    intro a ha b hb
    rcases List.mem_cons.1 hb with e | e
    · rw [e]; exact h2 a ha
    · exact ht.2.2 a ha b e
  · have := List.perm_middle (a := x) (l₁ := R.take i) (l₂ := R.drop i)
    rw [List.take_append_drop] at this
    exact this
/-- the facts that the order of two ways rests on -/
theorem wr_K_ne {G : Nat → Nat} {s t : Nat} (hs : s < 6) (ht : t < 6) (hst : s ≠ t) {a b : List Nat} (ha : wr_ok G s t a = true) (hb : wr_ok G s t b = true) (ne : a ≠ b) :
    ∃ i, i ≤ a.length ∧ i ≤ b.length ∧ i < 6 ∧ (∀ j, j < i → wr_p (t :: a) j = wr_p (t :: b) j) ∧ wr_p (t :: a) i ≠ wr_p (t :: b) i ∧
      (wr_K G (t :: a) < wr_K G (t :: b) ↔ (wr_s G (t :: a) < wr_s G (t :: b) ∨ (wr_s G (t :: a) = wr_s G (t :: b) ∧ wr_p (t :: a) i < wr_p (t :: b) i))) ∧ wr_K G (t :: a) ≠ wr_K G (t :: b) := by
  obtain ⟨i, h1, h2, h3, h4⟩ := wr_lex (wr_ok_t hst a ha) (wr_ok_t hst b hb) ne
  have la := (wr_ok_len hs ht hst ha).2
  have i6 : i < 6 := by omega
  have pa : ∀ i, wr_p (t :: a) i < 8 := wr_p_lt (fun x hx => by
    rcases List.mem_cons.1 hx with e | e
    · omega
    · exact wr_ok_lt hs a ha x e)
  have pb : ∀ i, wr_p (t :: b) i < 8 := wr_p_lt (fun x hx => by
    rcases List.mem_cons.1 hx with e | e
    · omega
    · exact wr_ok_lt hs b hb x e)
  have ka := wr_k_b pa
  have kb := wr_k_b pb
  have k1 : wr_p (t :: a) i < wr_p (t :: b) i → wr_k (t :: a) < wr_k (t :: b) := wr_k_lt pa pb i6 h3
  have k2 : wr_p (t :: b) i < wr_p (t :: a) i → wr_k (t :: b) < wr_k (t :: a) := wr_k_lt pb pa i6 (fun j hj => (h3 j hj).symm)
  refine ⟨i, h1, h2, i6, h3, h4, ?_, ?_⟩
  · unfold wr_K
    generalize wr_s G (t :: a) = x at *
    generalize wr_s G (t :: b) = y at *
    generalize wr_k (t :: a) = z at *
    generalize wr_k (t :: b) = w at *
    generalize wr_p (t :: a) i = m at *
    generalize wr_p (t :: b) i = n at *
    rcases Nat.lt_trichotomy m n with l | l | l
    · have := k1 l; omega
    · exact absurd l h4
    · have := k2 l; omega
  · unfold wr_K
    generalize wr_s G (t :: a) = x at *
    generalize wr_s G (t :: b) = y at *
    generalize wr_k (t :: a) = z at *
    generalize wr_k (t :: b) = w at *
    rcases Nat.lt_trichotomy (wr_p (t :: a) i) (wr_p (t :: b) i) with l | l | l
    · have := k1 l; omega
    · exact absurd l h4
    · have := k2 l; omega
theorem wr_map_nd {G : Nat → Nat} {s t : Nat} (hs : s < 6) (ht : t < 6) (hst : s ≠ t) {W : List (List Nat)} (hn : W.Nodup) (h : ∀ r, r ∈ W → wr_ok G s t r = true) : (W.map (fun r => wr_K G (t :: r))).Nodup := by
  refine List.pairwise_map.2 (List.Pairwise.imp_of_mem ?_ hn)
  intro a b ha hb hab
  obtain ⟨_, _, _, _, _, _, _, z⟩ := wr_K_ne hs ht hst (h a ha) (h b hb) hab
  exact z
/-- R is the sorted list of the keys of the ways W -/
def wr_R (G : Nat → Nat) (t : Nat) (W : List (List Nat)) (R : List Nat) : Prop := R.Pairwise (· < ·) ∧ R.Perm (W.map (fun r => wr_K G (t :: r)))
/-- the reference's rank -/
def wr_rk (G : Nat → Nat) (t : Nat) (W : List (List Nat)) (r : List Nat) : Nat := W.countP (fun x => decide (wr_K G (t :: x) < wr_K G (t :: r)))
theorem wr_rk_k {G : Nat → Nat} {t : Nat} {W : List (List Nat)} {R : List Nat} (h : wr_R G t W R) {r : List Nat} {k : Nat} (hk : k < R.length) (e : R[k] = wr_K G (t :: r)) : wr_rk G t W r = k := by
  have h1 := wr_cnt R h.1 k hk
  rw [h.2.countP_eq, List.countP_map, e] at h1
  exact h1
theorem wr_rk_of {G : Nat → Nat} {t : Nat} {W : List (List Nat)} {R : List Nat} (h : wr_R G t W R) {r : List Nat} (hr : r ∈ W) : ∃ hk : wr_rk G t W r < R.length, R[wr_rk G t W r] = wr_K G (t :: r) := by
  have hm : wr_K G (t :: r) ∈ R := h.2.mem_iff.2 (List.mem_map.2 ⟨r, hr, rfl⟩)
  obtain ⟨k, hk, e⟩ := List.mem_iff_getElem.1 hm
  have z := wr_rk_k h hk e
  subst z
  exact ⟨hk, e⟩
/-- every rank has its way -/
theorem wr_rk_ex {G : Nat → Nat} {t : Nat} {W : List (List Nat)} {R : List Nat} (h : wr_R G t W R) {k : Nat} (hk : k < R.length) : ∃ w, ∃ hw : w < W.length, R[k] = wr_K G (t :: W[w]) ∧ wr_rk G t W W[w] = k := by
  have hm : R[k] ∈ W.map (fun r => wr_K G (t :: r)) := h.2.mem_iff.1 (List.getElem_mem hk)
  obtain ⟨r, hr, e⟩ := List.mem_map.1 hm
  obtain ⟨w, hw, ew⟩ := List.mem_iff_getElem.1 hr
  refine ⟨w, hw, ?_, ?_⟩
  · rw [ew]; exact e.symm
  · rw [ew]; exact wr_rk_k h hk e.symm
theorem wr_R_len {G : Nat → Nat} {t : Nat} {W : List (List Nat)} {R : List Nat} (h : wr_R G t W R) : R.length = W.length := by
  rw [h.2.length_eq, List.length_map]
