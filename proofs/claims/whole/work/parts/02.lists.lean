/-! Trails and ways as lists of places, the LAST place first: r = v_k :: .. :: v_1 :: s :: [].
    A way is t :: r with r a trail that doesn't hold t and a road from its head to t. G i: the length of road i = a * 6 + b, 0 for none. -/
/-- place number i (from s on) of r; 7 beyond its end -/
def wr_p : List Nat → Nat → Nat
  | [], _ => 7
  | v :: r, i => if i = r.length then v else wr_p r i
/-- the sum of the roads of r -/
def wr_s (G : Nat → Nat) : List Nat → Nat
  | [] => 0
  | [_] => 0
  | v :: u :: r => wr_s G (u :: r) + G (u * 6 + v)
/-- r is a trail from s that keeps off t -/
def wr_ok (G : Nat → Nat) (s t : Nat) : List Nat → Bool
  | [] => false
  | [v] => v == s
  | v :: u :: r => decide (v < 6) && (v != t) && !((u :: r).contains v) && decide (0 < G (u * 6 + v)) && wr_ok G s t (u :: r)
/-- r is a trail that a road ends in t -/
def wr_w (G : Nat → Nat) (s t : Nat) (r : List Nat) : Bool := wr_ok G s t r && decide (0 < G (r.headD 0 * 6 + t))
theorem wr_p_ge : ∀ (r : List Nat) (i : Nat), r.length ≤ i → wr_p r i = 7
  | [], _, _ => rfl
  | v :: r, i, h => by
    have h' : r.length + 1 ≤ i := h
    unfold wr_p
    rw [if_neg (by omega)]
    exact wr_p_ge r i (by omega)
theorem wr_p_mem : ∀ (r : List Nat) (i : Nat), i < r.length → wr_p r i ∈ r
  | [], i, h => absurd h (Nat.not_lt_zero i)
  | v :: r, i, h => by
    have h' : i < r.length + 1 := h
    unfold wr_p
    by_cases e : i = r.length
    · rw [if_pos e]; exact List.mem_cons_self
    · rw [if_neg e]; exact List.mem_cons_of_mem _ (wr_p_mem r i (by omega))
theorem wr_p_hd (v : Nat) (r : List Nat) : wr_p (v :: r) r.length = v := by unfold wr_p; rw [if_pos rfl]
theorem wr_p_tl (v : Nat) (r : List Nat) {i : Nat} (h : i ≠ r.length) : wr_p (v :: r) i = wr_p r i := by
  show (if i = r.length then v else wr_p r i) = _
  rw [if_neg h]
theorem wr_p_lt {r : List Nat} (h : ∀ x, x ∈ r → x < 6) (i : Nat) : wr_p r i < 8 := by
  rcases Nat.lt_or_ge i r.length with l | l
  · have := h _ (wr_p_mem r i l); omega
  · rw [wr_p_ge r i l]; omega
theorem wr_p_of_mem : ∀ (r : List Nat) (x : Nat), x ∈ r → ∃ i, i < r.length ∧ wr_p r i = x
  | [], x, h => absurd h List.not_mem_nil
  | v :: r, x, h => by
    rcases List.mem_cons.1 h with e | e
    · exact ⟨r.length, Nat.lt_succ_self _, by rw [wr_p_hd, e]⟩
    · obtain ⟨i, hi, hp⟩ := wr_p_of_mem r x e
      exact ⟨i, Nat.lt_succ_of_lt hi, by rw [wr_p_tl v r (by omega), hp]⟩
theorem wr_p_ext : ∀ (a b : List Nat), a.length = b.length → (∀ i, i < a.length → wr_p a i = wr_p b i) → a = b
  | [], [], _, _ => rfl
  | [], _ :: _, h, _ => by simp at h
  | _ :: _, [], h, _ => by simp at h
  | v :: a, w :: b, h, g => by
    have hl : a.length = b.length := Nat.succ.inj h
    have h1 : v = w := by
      have := g a.length (Nat.lt_succ_self _)
      rw [wr_p_hd, hl, wr_p_hd] at this
      exact this
    have h2 : a = b := wr_p_ext a b hl (fun i hi => by
      have := g i (Nat.lt_succ_of_lt hi)
      rw [wr_p_tl v a (by omega), wr_p_tl w b (by omega)] at this
      exact this)
    rw [h1, h2]
/-- what a trail has: places, none of them t, all different -/
theorem wr_ok_c {G : Nat → Nat} {s t v u : Nat} {r : List Nat} : wr_ok G s t (v :: u :: r) = true ↔ v < 6 ∧ v ≠ t ∧ v ∉ (u :: r) ∧ 0 < G (u * 6 + v) ∧ wr_ok G s t (u :: r) = true := by
  show (decide (v < 6) && (v != t) && !((u :: r).contains v) && decide (0 < G (u * 6 + v)) && wr_ok G s t (u :: r)) = true ↔ _
  simp only [Bool.and_eq_true, decide_eq_true_eq, bne_iff_ne, Bool.not_eq_true', ne_eq, List.contains_eq_mem, decide_eq_false_iff_not, and_assoc]
theorem wr_ok_1 {G : Nat → Nat} {s t v : Nat} : wr_ok G s t [v] = true ↔ v = s := by
  show (v == s) = true ↔ _
  exact beq_iff_eq
theorem wr_ok_ne {G : Nat → Nat} {s t : Nat} {r : List Nat} (h : wr_ok G s t r = true) : r ≠ [] := by
  intro e; rw [e] at h; exact Bool.false_ne_true h
theorem wr_ok_lt {G : Nat → Nat} {s t : Nat} (hs : s < 6) : ∀ (r : List Nat), wr_ok G s t r = true → ∀ x, x ∈ r → x < 6
  | [], h, _, _ => (Bool.false_ne_true h).elim
  | [v], h, x, hx => by
    rw [wr_ok_1] at h
    rw [List.mem_singleton] at hx
    omega
  | v :: u :: r, h, x, hx => by
    rw [wr_ok_c] at h
    rcases List.mem_cons.1 hx with e | e
    · omega
    · exact wr_ok_lt hs (u :: r) h.2.2.2.2 x e
theorem wr_ok_t {G : Nat → Nat} {s t : Nat} (hst : s ≠ t) : ∀ (r : List Nat), wr_ok G s t r = true → t ∉ r
  | [], h => (Bool.false_ne_true h).elim
  | [v], h => by
    rw [wr_ok_1] at h
    rw [List.mem_singleton]
    omega
  | v :: u :: r, h => by
    rw [wr_ok_c] at h
    intro m
    rcases List.mem_cons.1 m with e | e
    · exact h.2.1 e.symm
    · exact wr_ok_t hst (u :: r) h.2.2.2.2 e
theorem wr_ok_nd {G : Nat → Nat} {s t : Nat} : ∀ (r : List Nat), wr_ok G s t r = true → r.Nodup
  | [], h => (Bool.false_ne_true h).elim
  | [v], _ => by simp
  | v :: u :: r, h => by
    rw [wr_ok_c] at h
    exact List.nodup_cons.2 ⟨h.2.2.1, wr_ok_nd (u :: r) h.2.2.2.2⟩
/-! the 65 candidates -/
def wr_cx (t : Nat) (r : List Nat) : List (List Nat) := ((List.range 6).filter (fun v => !r.contains v && v != t)).map (fun v => v :: r)
def wr_cl (s t : Nat) : Nat → List (List Nat)
  | 0 => [[s]]
  | k + 1 => (wr_cl s t k).flatMap (wr_cx t)
def wr_C (s t : Nat) : List (List Nat) := wr_cl s t 0 ++ (wr_cl s t 1 ++ (wr_cl s t 2 ++ (wr_cl s t 3 ++ wr_cl s t 4)))
theorem wr_C_len : ∀ s, s < 6 → ∀ t, t < 6 → s ≠ t → (wr_C s t).length = 65 := by decide +kernel
theorem wr_cl5 : ∀ s, s < 6 → ∀ t, t < 6 → s ≠ t → wr_cl s t 5 = [] := by decide +kernel
theorem wr_cl_mem {G : Nat → Nat} {s t : Nat} : ∀ (r : List Nat), wr_ok G s t r = true → r ∈ wr_cl s t (r.length - 1)
  | [], h => (Bool.false_ne_true h).elim
  | [v], h => by
    rw [wr_ok_1] at h
    rw [h]
    exact List.mem_singleton.2 rfl
  | v :: u :: r, h => by
    rw [wr_ok_c] at h
    have ih := wr_cl_mem (u :: r) h.2.2.2.2
    show _ ∈ (wr_cl s t ((u :: r).length - 1)).flatMap (wr_cx t)
    refine List.mem_flatMap.2 ⟨u :: r, ih, ?_⟩
    refine List.mem_map.2 ⟨v, List.mem_filter.2 ⟨List.mem_range.2 h.1, ?_⟩, rfl⟩
    simp only [Bool.and_eq_true, bne_iff_ne, Bool.not_eq_true', ne_eq, List.contains_eq_mem, decide_eq_false_iff_not]
    exact ⟨h.2.2.1, h.2.1⟩
theorem wr_cl_big {s t : Nat} (hs : s < 6) (ht : t < 6) (hst : s ≠ t) : ∀ k, wr_cl s t (5 + k) = []
  | 0 => wr_cl5 s hs t ht hst
  | k + 1 => by
    show (wr_cl s t (5 + k)).flatMap (wr_cx t) = []
    rw [wr_cl_big hs ht hst k]; rfl
theorem wr_ok_len {G : Nat → Nat} {s t : Nat} (hs : s < 6) (ht : t < 6) (hst : s ≠ t) {r : List Nat} (h : wr_ok G s t r = true) : 1 ≤ r.length ∧ r.length ≤ 5 := by
  have hne : 1 ≤ r.length := by
    cases r with
    | nil => exact (Bool.false_ne_true h).elim
    | cons a b => exact Nat.succ_le_succ (Nat.zero_le _)
  refine ⟨hne, ?_⟩
  have hm := wr_cl_mem r h
  rcases Nat.lt_or_ge 5 r.length with l | l
  · rw [show r.length - 1 = 5 + (r.length - 6) from by omega, wr_cl_big hs ht hst] at hm
    exact absurd hm List.not_mem_nil
  · exact l
theorem wr_C_mem {G : Nat → Nat} {s t : Nat} (hs : s < 6) (ht : t < 6) (hst : s ≠ t) {r : List Nat} (h : wr_ok G s t r = true) : r ∈ wr_C s t := by
  have hm := wr_cl_mem r h
  have hl := wr_ok_len hs ht hst h
  unfold wr_C
  simp only [List.mem_append]
  have : r.length - 1 = 0 ∨ r.length - 1 = 1 ∨ r.length - 1 = 2 ∨ r.length - 1 = 3 ∨ r.length - 1 = 4 := by omega
  rcases this with e | e | e | e | e <;> rw [e] at hm
  · exact Or.inl hm
  · exact Or.inr (Or.inl hm)
  · exact Or.inr (Or.inr (Or.inl hm))
  · exact Or.inr (Or.inr (Or.inr (Or.inl hm)))
  · exact Or.inr (Or.inr (Or.inr (Or.inr hm)))
/-- a list of different trails has at most 65 -/
theorem wr_65 {G : Nat → Nat} {s t : Nat} (hs : s < 6) (ht : t < 6) (hst : s ≠ t) {T : List (List Nat)} (hn : T.Nodup) (h : ∀ r, r ∈ T → wr_ok G s t r = true) : T.length ≤ 65 := by
  have := List.Nodup.length_le_of_subset hn (fun r hr => wr_C_mem hs ht hst (h r hr))
  rw [wr_C_len s hs t ht hst] at this
  exact this
/-! keys: the order of the ways -/
def wr_k (a : List Nat) : Nat := 32768 * wr_p a 0 + 4096 * wr_p a 1 + 512 * wr_p a 2 + 64 * wr_p a 3 + 8 * wr_p a 4 + wr_p a 5
def wr_K (G : Nat → Nat) (a : List Nat) : Nat := 262144 * wr_s G a + wr_k a
theorem wr_lex {t : Nat} {a b : List Nat} (ha : t ∉ a) (hb : t ∉ b) (ne : a ≠ b) : ∃ i, i ≤ a.length ∧ i ≤ b.length ∧ (∀ j, j < i → wr_p (t :: a) j = wr_p (t :: b) j) ∧ wr_p (t :: a) i ≠ wr_p (t :: b) i := by
  have ex : ∃ i, i ≤ a.length ∧ i ≤ b.length ∧ wr_p (t :: a) i ≠ wr_p (t :: b) i := by
    apply Classical.byContradiction
    intro no
    have eq : ∀ i, i ≤ a.length → i ≤ b.length → wr_p (t :: a) i = wr_p (t :: b) i := fun i h1 h2 =>
      Classical.byContradiction (fun z => no ⟨i, h1, h2, z⟩)
    rcases Nat.lt_trichotomy a.length b.length with l | l | l
    · have e := eq a.length (Nat.le_refl _) (by omega)
      rw [wr_p_hd, wr_p_tl t b (by omega)] at e
      exact hb (by rw [e]; exact wr_p_mem b a.length l)
    · have e := wr_p_ext (t :: a) (t :: b) (by simp [l]) (fun i hi => eq i (by simp at hi; omega) (by simp at hi; omega))
      exact ne (List.cons.inj e).2
    · have e := eq b.length (by omega) (Nat.le_refl _)
      rw [wr_p_hd, wr_p_tl t a (by omega)] at e
      exact ha (by rw [← e]; exact wr_p_mem a b.length l)
  obtain ⟨i, ⟨h1, h2, h3⟩, hm⟩ := pk_least (fun i => i ≤ a.length ∧ i ≤ b.length ∧ wr_p (t :: a) i ≠ wr_p (t :: b) i) ex
  refine ⟨i, h1, h2, fun j hj => ?_, h3⟩
  exact Classical.byContradiction (fun z => hm j hj ⟨by omega, by omega, z⟩)
theorem wr_k_lt {a b : List Nat} (ha : ∀ i, wr_p a i < 8) (hb : ∀ i, wr_p b i < 8) {i : Nat} (hi : i < 6) (he : ∀ j, j < i → wr_p a j = wr_p b j) (h : wr_p a i < wr_p b i) : wr_k a < wr_k b := by
  have a0 := ha 0; have a1 := ha 1; have a2 := ha 2; have a3 := ha 3; have a4 := ha 4; have a5 := ha 5
  have b0 := hb 0; have b1 := hb 1; have b2 := hb 2; have b3 := hb 3; have b4 := hb 4; have b5 := hb 5
  unfold wr_k
  have hc : i = 0 ∨ i = 1 ∨ i = 2 ∨ i = 3 ∨ i = 4 ∨ i = 5 := by omega
  rcases hc with e | e | e | e | e | e <;> subst e
  · omega
  · have := he 0 (by omega); omega
  · have := he 0 (by omega); have := he 1 (by omega); omega
  · have := he 0 (by omega); have := he 1 (by omega); have := he 2 (by omega); omega
  · have := he 0 (by omega); have := he 1 (by omega); have := he 2 (by omega); have := he 3 (by omega); omega
  · have := he 0 (by omega); have := he 1 (by omega); have := he 2 (by omega); have := he 3 (by omega); have := he 4 (by omega); omega
theorem wr_k_b {a : List Nat} (ha : ∀ i, wr_p a i < 8) : wr_k a < 262144 := by
  have a0 := ha 0; have a1 := ha 1; have a2 := ha 2; have a3 := ha 3; have a4 := ha 4; have a5 := ha 5
  unfold wr_k; omega
theorem wr_s_b {G : Nat → Nat} (hG : ∀ i, G i ≤ 20) : ∀ r : List Nat, wr_s G r ≤ 20 * r.length
  | [] => Nat.le_refl _
  | [_] => Nat.zero_le _
  | v :: u :: r => by
    have := wr_s_b hG (u :: r)
    have := hG (u * 6 + v)
    simp only [List.length_cons] at *
    show wr_s G (u :: r) + G (u * 6 + v) ≤ _
    omega
/-! ranks -/
theorem wr_cnt0 {R : List Nat} {x : Nat} (h : ∀ y, y ∈ R → x ≤ y) : R.countP (fun z => decide (z < x)) = 0 := by
  rw [List.countP_eq_zero]
  intro y hy
  have := h y hy
  simp; omega
theorem wr_cnt : ∀ (R : List Nat), R.Pairwise (· < ·) → ∀ (k : Nat) (hk : k < R.length), R.countP (fun z => decide (z < R[k])) = k
  | [], _, k, hk => absurd hk (Nat.not_lt_zero k)
  | a :: R, h, 0, _ => by
    show (a :: R).countP (fun z => decide (z < a)) = 0
    refine wr_cnt0 (fun y hy => ?_)
    rcases List.mem_cons.1 hy with e | e
    · omega
    · exact Nat.le_of_lt ((List.pairwise_cons.1 h).1 y e)
  | a :: R, h, k + 1, hk => by
    have hk' : k < R.length := Nat.lt_of_succ_lt_succ hk
    have ih := wr_cnt R (List.pairwise_cons.1 h).2 k hk'
    show (a :: R).countP (fun z => decide (z < R[k])) = k + 1
    rw [List.countP_cons_of_pos (by simpa using (List.pairwise_cons.1 h).1 _ (List.getElem_mem hk')), ih]
