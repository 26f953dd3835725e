/-! numbers and bits: the class's ints (wr_K), the reference's ints (wr_z) -/
theorem wr_bt (n i : Nat) (hi : i < 32) : bt (nI n) i = n.testBit i := by
  show (BitVec.ofNat 32 n).getLsbD i = _
  rw [BitVec.getLsbD_ofNat, decide_eq_true hi, Bool.true_and]
theorem wr_or (a b : Nat) : nI a ||| nI b = nI (a ||| b) := by
  apply b_ext
  intro i hi
  rw [b_or, wr_bt _ _ hi, wr_bt _ _ hi, wr_bt _ _ hi, Nat.testBit_or]
theorem wr_orA {k a : Nat} (b : Nat) (ha : a < 2 ^ k) : nI a ||| nI (b * 2 ^ k) = nI (a + b * 2 ^ k) := by
  have h := Nat.two_pow_add_eq_or_of_lt ha b
  rw [wr_or, Nat.or_comm, Nat.mul_comm b, ← h, Nat.add_comm]
theorem wr_put0 {A B v sh : Nat} (hsh : sh < 32) (hv : v < 8) (hB : B < 2 ^ sh) : (nI (2 ^ sh * (8 * A + 7) + B) &&& ((nI 7 <<< (nI sh &&& 31)) ^^^ (-1))) ||| (nI v <<< (nI sh &&& 31)) = nI (2 ^ sh * (8 * A + v) + B) := by
  apply b_ext
  intro i hi
  rw [b_or, b_and, b_xor, b_m1 i hi, b_shl sh hsh _ hi, b_shl sh hsh _ hi, wr_bt _ _ hi, wr_bt _ _ hi, wr_bt 7 (i - sh) (by omega), wr_bt v (i - sh) (by omega),
    Nat.testBit_two_pow_mul_add _ hB, Nat.testBit_two_pow_mul_add _ hB]
  by_cases h : i < sh
  · rw [if_pos h, if_pos h, decide_eq_false (by omega)]
    cases B.testBit i <;> rfl
  · rw [if_neg h, if_neg h, decide_eq_true (by omega)]
    generalize i - sh = j
    have e7 : (8 * A + 7).testBit j = if j < 3 then (7 : Nat).testBit j else A.testBit (j - 3) := Nat.testBit_two_pow_mul_add A (b := 7) (i := 3) (by decide) j
    have ev : (8 * A + v).testBit j = if j < 3 then v.testBit j else A.testBit (j - 3) := Nat.testBit_two_pow_mul_add A (b := v) (i := 3) hv j
    rw [e7, ev]
    by_cases l : j < 3
    · rw [if_pos l, if_pos l]
      have z : (7 : Nat).testBit j = true := (by decide : ∀ j, j < 3 → (7 : Nat).testBit j = true) j l
      rw [z]
      cases v.testBit j <;> rfl
    · rw [if_neg l, if_neg l]
      have p8 : 2 ^ 3 ≤ 2 ^ j := Nat.pow_le_pow_right (by decide) (by omega)
      have z7 : (7 : Nat).testBit j = false := Nat.testBit_lt_two_pow (by omega)
      have zv : v.testBit j = false := Nat.testBit_lt_two_pow (by omega)
      rw [z7, zv]
      cases A.testBit (j - 3) <;> rfl
theorem wr_put {n v sh : Nat} (hsh : sh < 32) (hv : v < 8) (h : n / 2 ^ sh % 8 = 7) : (nI n &&& ((nI 7 <<< (nI sh &&& 31)) ^^^ (-1))) ||| (nI v <<< (nI sh &&& 31)) = nI (n - 7 * 2 ^ sh + v * 2 ^ sh) := by
  have hB : n % 2 ^ sh < 2 ^ sh := Nat.mod_lt _ (Nat.two_pow_pos sh)
  have e1 : n = 2 ^ sh * (8 * (n / 2 ^ sh / 8) + 7) + n % 2 ^ sh := by
    have a := (Nat.div_add_mod n (2 ^ sh)).symm
    have b : 8 * (n / 2 ^ sh / 8) + 7 = n / 2 ^ sh := by omega
    rw [b]; exact a
  have e2 := wr_put0 (A := n / 2 ^ sh / 8) hsh hv hB
  rw [← e1] at e2
  rw [e2]
  refine congrArg nI ?_
  generalize n / 2 ^ sh / 8 = A at e1
  generalize n % 2 ^ sh = B at e1
  generalize 2 ^ sh = p at e1
  rw [Nat.mul_add] at e1 ⊢
  rw [Nat.mul_comm v p, Nat.mul_comm 7 p]
  omega
/-! the class's digits -/
def wr_d (n i : Nat) : Nat := n / 8 ^ (5 - i) % 8
theorem wr_sh : ∀ i, i < 6 → ((((15 : Int32) - 3 * nI i) &&& 31).toBitVec.smod 32).toNat = 3 * (5 - i) := by decide +kernel
theorem wr_shN : ∀ i, i < 6 → (15 : Int32) - 3 * nI i = nI (3 * (5 - i)) := by decide +kernel
theorem wr_8 (i : Nat) : 2 ^ (3 * i) = 8 ^ i := by rw [Nat.pow_mul]
theorem wr_pl {n i : Nat} (hn : n < 2 ^ 31) (hi : i < 6) : (nI n >>> (((15 : Int32) - 3 * nI i) &&& 31)) &&& 7 = nI (wr_d n i) := by
  rw [pk_shrN hn _ _ (wr_sh i hi), pk_andN (Nat.lt_of_le_of_lt (Nat.div_le_self _ _) (by omega)) 3 (by decide), wr_8]
  rfl
theorem wr_d_lt (n i : Nat) : wr_d n i < 8 := Nat.mod_lt _ (by omega)
theorem wr_d_K {G : Nat → Nat} {a : List Nat} (h : ∀ i, wr_p a i < 8) : ∀ i, i < 6 → wr_d (wr_K G a) i = wr_p a i := by
  have a0 := h 0; have a1 := h 1; have a2 := h 2; have a3 := h 3; have a4 := h 4; have a5 := h 5
  intro i hi
  unfold wr_d wr_K wr_k
  generalize wr_s G a = S
  have hc : i = 0 ∨ i = 1 ∨ i = 2 ∨ i = 3 ∨ i = 4 ∨ i = 5 := by omega
  rcases hc with e | e | e | e | e | e <;> subst e <;> simp only [Nat.reduceSub, Nat.reducePow] <;> omega
theorem wr_s_K {G : Nat → Nat} {a : List Nat} (h : ∀ i, wr_p a i < 8) : wr_K G a / 262144 = wr_s G a := by
  have := wr_k_b h
  unfold wr_K
  omega
theorem wr_K_lt {G : Nat → Nat} (hG : ∀ i, G i ≤ 20) {a : List Nat} (h : ∀ i, wr_p a i < 8) (hl : a.length ≤ 6) : wr_K G a < 2 ^ 25 := by
  have h1 := wr_k_b h
  have h2 := wr_s_b hG a
  unfold wr_K
  omega
theorem wr_k_c {v : Nat} {r : List Nat} (hl : r.length ≤ 5) : wr_k (v :: r) + 7 * 8 ^ (5 - r.length) = wr_k r + v * 8 ^ (5 - r.length) := by
  have g : wr_p r r.length = 7 := wr_p_ge r r.length (Nat.le_refl _)
  have e : ∀ i, wr_p (v :: r) i = if i = r.length then v else wr_p r i := fun i => rfl
  unfold wr_k
  rw [e 0, e 1, e 2, e 3, e 4, e 5]
  generalize r.length = L at *
  have hc : L = 0 ∨ L = 1 ∨ L = 2 ∨ L = 3 ∨ L = 4 ∨ L = 5 := by omega
  rcases hc with e | e | e | e | e | e <;> subst e <;> simp only [g, Nat.reduceSub, Nat.reducePow, Nat.reduceEqDiff, if_true, if_false, reduceIte, Nat.one_ne_zero, Nat.zero_ne_one] <;> omega
/-- one step on -/
theorem wr_K_c {G : Nat → Nat} {v u : Nat} {r : List Nat} (hp : ∀ i, wr_p (u :: r) i < 8) (hl : (u :: r).length ≤ 5) : wr_K G (v :: u :: r) = (wr_K G (u :: r) - 7 * 8 ^ (5 - (u :: r).length) + v * 8 ^ (5 - (u :: r).length)) + G (u * 6 + v) * 262144 := by
  have h := wr_k_c (v := v) hl
  have hd := wr_d_K (G := G) hp (u :: r).length (by omega)
  rw [wr_p_ge (u :: r) _ (Nat.le_refl _)] at hd
  unfold wr_d at hd
  have hs : wr_s G (v :: u :: r) = wr_s G (u :: r) + G (u * 6 + v) := rfl
  have hm : 7 * 8 ^ (5 - (u :: r).length) ≤ wr_K G (u :: r) := by
    have h1 := Nat.div_mul_le_self (wr_K G (u :: r)) (8 ^ (5 - (u :: r).length))
    have h2 : 7 ≤ wr_K G (u :: r) / 8 ^ (5 - (u :: r).length) := by
      clear h1
      generalize wr_K G (u :: r) / 8 ^ (5 - (u :: r).length) = m at hd
      omega
    exact Nat.le_trans (Nat.mul_le_mul_right _ h2) h1
  unfold wr_K at hm ⊢
  rw [hs]
  generalize 8 ^ (5 - (u :: r).length) = q at *
  generalize v * q = y at *
  generalize 7 * q = z at *
  omega
theorem wr_K_1 (G : Nat → Nat) {s : Nat} : wr_K G [s] = 262143 - 7 * 2 ^ 15 + s * 2 ^ 15 := by
  unfold wr_K wr_k
  have e0 : wr_p [s] 0 = s := rfl
  have e1 : wr_p [s] 1 = 7 := rfl
  have e2 : wr_p [s] 2 = 7 := rfl
  have e3 : wr_p [s] 3 = 7 := rfl
  have e4 : wr_p [s] 4 = 7 := rfl
  have e5 : wr_p [s] 5 = 7 := rfl
  have es : wr_s G [s] = 0 := rfl
  rw [e0, e1, e2, e3, e4, e5, es]
  omega
/-- the number of places of the int n -/
def wr_sz (n : Nat) : Nat → Nat
  | 0 => 0
  | i + 1 => if wr_d n i = 7 then wr_sz n i else wr_sz n i + 1
theorem wr_sz_a {n L : Nat} (h1 : ∀ i, i < L → wr_d n i ≠ 7) (h2 : ∀ i, L ≤ i → i < 6 → wr_d n i = 7) : ∀ i, i ≤ 6 → wr_sz n i = if i < L then i else L
  | 0, _ => by
    show 0 = _
    by_cases z : 0 < L
    · rw [if_pos z]
    · rw [if_neg z]; omega
  | i + 1, hi => by
    have ih := wr_sz_a h1 h2 i (by omega)
    show (if wr_d n i = 7 then wr_sz n i else wr_sz n i + 1) = _
    by_cases z : i < L
    · rw [if_neg (h1 i z), ih, if_pos z]
      by_cases y : i + 1 < L
      · rw [if_pos y]
      · rw [if_neg y]; omega
    · rw [if_pos (h2 i (by omega) (by omega)), ih, if_neg z, if_neg (by omega)]
theorem wr_sz_K {G : Nat → Nat} {a : List Nat} (h : ∀ x, x ∈ a → x < 6) (hl : a.length ≤ 6) : wr_sz (wr_K G a) 6 = a.length := by
  have hp := wr_p_lt h
  rw [wr_sz_a (L := a.length) (fun i hi => ?_) (fun i h1 h2 => ?_) 6 (Nat.le_refl _)]
  · by_cases z : 6 < a.length
    · omega
    · rw [if_neg z]
  · rw [wr_d_K hp i (by omega)]
    have := h _ (wr_p_mem a i hi)
    omega
  · rw [wr_d_K hp i h2, wr_p_ge a i h1]
/-- does the int come through v, take the road from a to b -/
theorem wr_th_K {G : Nat → Nat} {a : List Nat} (h : ∀ x, x ∈ a → x < 6) (hl : a.length ≤ 6) {v : Nat} (hv : v < 6) : (∃ i, i < 6 ∧ wr_d (wr_K G a) i = v) ↔ v ∈ a := by
  have hp := wr_p_lt h
  constructor
  · rintro ⟨i, hi, e⟩
    rw [wr_d_K hp i hi] at e
    rcases Nat.lt_or_ge i a.length with l | l
    · rw [← e]; exact wr_p_mem a i l
    · rw [wr_p_ge a i l] at e; omega
  · intro m
    obtain ⟨i, hi, e⟩ := wr_p_of_mem a v m
    exact ⟨i, by omega, by rw [wr_d_K hp i (by omega), e]⟩
theorem wr_tk_p : ∀ (l : List Nat) (a b : Nat), a < 6 → b < 6 → (wr_tk a b l = true ↔ ∃ i, i + 1 < l.length ∧ wr_p l i = a ∧ wr_p l (i + 1) = b)
  | [], a, b, _, _ => by
    constructor
    · intro h; exact (Bool.false_ne_true h).elim
    · rintro ⟨i, h, _⟩; exact absurd h (Nat.not_lt_zero _)
  | [v], a, b, _, _ => by
    constructor
    · intro h; exact (Bool.false_ne_true h).elim
    · rintro ⟨i, h, _⟩
      simp only [List.length_cons, List.length_nil] at h
      omega
  | v :: u :: r, a, b, ha, hb => by
    have ih := wr_tk_p (u :: r) a b ha hb
    have ht : wr_tk a b (v :: u :: r) = ((u == a && v == b) || wr_tk a b (u :: r)) := rfl
    rw [ht, Bool.or_eq_true, ih]
    have hu : wr_p (v :: u :: r) r.length = u := by rw [wr_p_tl v (u :: r) (by simp only [List.length_cons]; omega), wr_p_hd]
    have hv : wr_p (v :: u :: r) (r.length + 1) = v := wr_p_hd v (u :: r)
    constructor
    · rintro (h | ⟨i, h1, h2, h3⟩)
      · simp only [Bool.and_eq_true, beq_iff_eq] at h
        exact ⟨r.length, by simp only [List.length_cons]; omega, by rw [hu]; exact h.1, by rw [hv]; exact h.2⟩
      · have hl : (u :: r).length = r.length + 1 := rfl
        refine ⟨i, by simp only [List.length_cons] at h1 ⊢; omega, ?_, ?_⟩
        · rw [wr_p_tl v (u :: r) (by omega)]; exact h2
        · rw [wr_p_tl v (u :: r) (by omega)]; exact h3
    · rintro ⟨i, h1, h2, h3⟩
      have hl : (u :: r).length = r.length + 1 := rfl
      simp only [List.length_cons] at h1
      by_cases z : i = r.length
      · left
        rw [z, hu] at h2
        rw [z, hv] at h3
        simp only [Bool.and_eq_true, beq_iff_eq]
        exact ⟨h2, h3⟩
      · right
        rw [wr_p_tl v (u :: r) (by omega)] at h2
        rw [wr_p_tl v (u :: r) (by omega)] at h3
        exact ⟨i, by omega, h2, h3⟩
theorem wr_tk_K {G : Nat → Nat} {l : List Nat} (h : ∀ x, x ∈ l → x < 6) (hl : l.length ≤ 6) {a b : Nat} (ha : a < 6) (hb : b < 6) : (∃ i, i < 5 ∧ wr_d (wr_K G l) i = a ∧ wr_d (wr_K G l) (i + 1) = b) ↔ wr_tk a b l = true := by
  have hp := wr_p_lt h
  rw [wr_tk_p l a b ha hb]
  constructor
  · rintro ⟨i, hi, e1, e2⟩
    rw [wr_d_K hp i (by omega)] at e1
    rw [wr_d_K hp (i + 1) (by omega)] at e2
    refine ⟨i, ?_, e1, e2⟩
    rcases Nat.lt_or_ge (i + 1) l.length with z | z
    · exact z
    · rw [wr_p_ge l (i + 1) z] at e2; omega
  · rintro ⟨i, h1, h2, h3⟩
    exact ⟨i, by omega, by rw [wr_d_K hp i (by omega), h2], by rw [wr_d_K hp (i + 1) (by omega), h3]⟩
/-! the reference's ints -/
def wr_y : List Nat → Nat
  | [] => 0
  | v :: r => wr_y r + v * 16 ^ r.length
theorem wr_y_lt : ∀ (r : List Nat), (∀ x, x ∈ r → x < 6) → wr_y r < 16 ^ r.length
  | [], _ => by show 0 < 16 ^ 0; decide
  | v :: r, h => by
    have ih := wr_y_lt r (fun x hx => h x (List.mem_cons_of_mem _ hx))
    have hv := h v List.mem_cons_self
    show wr_y r + v * 16 ^ r.length < 16 ^ (r.length + 1)
    rw [Nat.pow_succ]
    generalize 16 ^ r.length = p at *
    have : v * p ≤ 5 * p := Nat.mul_le_mul_right _ (by omega)
    omega
theorem wr_y_d : ∀ (r : List Nat) (q i : Nat), (∀ x, x ∈ r → x < 6) → i < r.length → (wr_y r + q * 16 ^ r.length) / 16 ^ i % 16 = wr_p r i
  | [], _, i, _, h => absurd h (Nat.not_lt_zero i)
  | v :: r, q, i, h, hi => by
    have hr := fun x hx => h x (List.mem_cons_of_mem v hx)
    have hv := h v List.mem_cons_self
    have e : wr_y (v :: r) + q * 16 ^ (v :: r).length = wr_y r + (v + 16 * q) * 16 ^ r.length := by
      show wr_y r + v * 16 ^ r.length + q * 16 ^ (r.length + 1) = _
      rw [Nat.pow_succ, Nat.add_mul, Nat.add_assoc]
      congr 2
      rw [Nat.mul_comm 16 q, Nat.mul_assoc, Nat.mul_comm 16]
    rw [e]
    by_cases z : i = r.length
    · rw [z, wr_p_hd, Nat.add_mul_div_right _ _ (Nat.pow_pos (by decide)), Nat.div_eq_of_lt (wr_y_lt r hr)]
      omega
    · have hi' : i < r.length + 1 := hi
      rw [wr_p_tl v r z]
      exact wr_y_d r _ i hr (by omega)
def wr_z (t : Nat) (r : List Nat) : Nat := if r.length < 5 then wr_y (t :: r) + 15 * 16 ^ (t :: r).length else wr_y (t :: r)
theorem wr_z_d {t : Nat} {r : List Nat} (h : ∀ x, x ∈ t :: r → x < 6) {i : Nat} (hi : i < (t :: r).length) : wr_z t r / 16 ^ i % 16 = wr_p (t :: r) i := by
  unfold wr_z
  by_cases z : r.length < 5
  · rw [if_pos z]; exact wr_y_d (t :: r) 15 i h hi
  · rw [if_neg z]
    have := wr_y_d (t :: r) 0 i h hi
    rw [Nat.zero_mul, Nat.add_zero] at this
    exact this
theorem wr_z_lt {t : Nat} {r : List Nat} (h : ∀ x, x ∈ t :: r → x < 6) (hl : r.length ≤ 5) : wr_z t r < 2 ^ 24 := by
  have h1 := wr_y_lt (t :: r) h
  have e : (t :: r).length = r.length + 1 := rfl
  rw [e] at h1
  unfold wr_z
  rw [e]
  generalize r.length = L at *
  have hc : L = 0 ∨ L = 1 ∨ L = 2 ∨ L = 3 ∨ L = 4 ∨ L = 5 := by omega
  rcases hc with e | e | e | e | e | e <;> subst e <;> simp only [Nat.reduceAdd, Nat.reducePow, Nat.reduceLT, if_true, if_false, reduceIte] at h1 ⊢ <;> omega
theorem wr_s4 : ∀ i, i < 6 → (((4 : Int32) * nI i &&& 31).toBitVec.smod 32).toNat = 4 * i := by decide +kernel
theorem wr_s44 : ∀ i, i < 5 → (((4 : Int32) * nI i + 4 &&& 31).toBitVec.smod 32).toNat = 4 * (i + 1) := by decide +kernel
theorem wr_16 (i : Nat) : 2 ^ (4 * i) = 16 ^ i := by rw [Nat.pow_mul]
theorem wr_dg {n i : Nat} (hn : n < 2 ^ 31) (hi : i < 6) : (nI n >>> ((4 : Int32) * nI i &&& 31)) &&& 15 = nI (n / 16 ^ i % 16) := by
  rw [pk_shrN hn _ _ (wr_s4 i hi), pk_andN (Nat.lt_of_le_of_lt (Nat.div_le_self _ _) (by omega)) 4 (by decide), wr_16]
theorem wr_yc {v : Nat} {r : List Nat} (hv : v < 6) (h : ∀ x, x ∈ r → x < 6) (hl : r.length < 6) : nI (wr_y r) ||| (nI v <<< ((4 : Int32) * nI r.length &&& 31)) = nI (wr_y (v :: r)) := by
  have hb := wr_y_lt r h
  have hp : 16 ^ r.length ≤ 16 ^ 5 := Nat.pow_le_pow_right (by decide) (by omega)
  have hm : v * 16 ^ r.length ≤ 6 * 16 ^ 5 := Nat.mul_le_mul (by omega) hp
  rw [pk_shlN _ _ (wr_s4 _ hl) (by rw [wr_16]; omega), wr_orA v (by rw [wr_16]; exact hb), wr_16]
  rfl
theorem wr_ye {t : Nat} {r : List Nat} (h : ∀ x, x ∈ t :: r → x < 6) (hl : r.length < 5) : nI (wr_y (t :: r)) ||| ((15 : Int32) <<< ((4 : Int32) * nI r.length + 4 &&& 31)) = nI (wr_z t r) := by
  have hb := wr_y_lt (t :: r) h
  have e : (t :: r).length = r.length + 1 := rfl
  have hp : 16 ^ (r.length + 1) ≤ 16 ^ 5 := Nat.pow_le_pow_right (by decide) (by omega)
  have h15 : (15 : Int32) = nI 15 := by decide +kernel
  rw [h15, pk_shlN _ _ (wr_s44 _ hl) (by rw [wr_16]; omega), wr_orA 15 (by rw [wr_16]; exact hb), wr_16]
  unfold wr_z
  rw [if_pos hl]
  rfl
/-- the set of the places that are used -/
def wr_U (t : Nat) (r : List Nat) (U : Nat) : Prop := U < 64 ∧ ∀ j, j < 6 → U.testBit j = (decide (j = t) || r.contains j)
theorem wr_U_1 {s t : Nat} (hs : s < 6) (ht : t < 6) : wr_U t [s] (2 ^ s ||| 2 ^ t) := by
  refine ⟨Nat.or_lt_two_pow (n := 6) (Nat.pow_lt_pow_right (by decide) hs) (Nat.pow_lt_pow_right (by decide) ht), fun j hj => ?_⟩
  rw [Nat.testBit_or, Nat.testBit_two_pow, Nat.testBit_two_pow, Bool.or_comm]
  have e1 : decide (t = j) = decide (j = t) := decide_eq_decide.2 eq_comm
  have e2 : decide (s = j) = List.contains [s] j := by
    rw [List.contains_eq_mem]
    exact decide_eq_decide.2 (by rw [List.mem_singleton]; exact eq_comm)
  rw [e1, e2]
theorem wr_U_c {v t : Nat} {r : List Nat} {U : Nat} (hv : v < 6) (h : wr_U t r U) : wr_U t (v :: r) (U ||| 2 ^ v) := by
  refine ⟨Nat.or_lt_two_pow (n := 6) h.1 (Nat.pow_lt_pow_right (by decide) hv), fun j hj => ?_⟩
  rw [Nat.testBit_or, Nat.testBit_two_pow, h.2 j hj, Bool.or_assoc]
  congr 1
  rw [List.contains_eq_mem, List.contains_eq_mem]
  by_cases e : v = j
  · subst e; simp
  · have : ¬ j = v := fun z => e z.symm
    simp [e, this]
theorem wr_1l : ∀ v, v < 6 → (1 : Int32) <<< (nI v &&& 31) = nI (2 ^ v) := by decide +kernel
theorem wr_ub {U v : Nat} (hU : U < 64) (hv : v < 6) : (nI U >>> (nI v &&& 31)) &&& 1 = nI (U / 2 ^ v % 2) := by
  rw [pk_shrN (by omega) _ _ (s_l v (by omega)), pk_andN (Nat.lt_of_le_of_lt (Nat.div_le_self _ _) (by omega)) 1 (by decide)]
theorem wr_ut {U v : Nat} : U / 2 ^ v % 2 = 0 ↔ U.testBit v = false := by
  rw [Nat.testBit_eq_decide_div_mod_eq, decide_eq_false_iff_not]
  generalize U / 2 ^ v = z
  omega
