section
/-! rows pasted from the kit's rows to paste -/
theorem pk_us {f : Nat → Int32} {k : Nat} {x : Int32} : upd f k x k = x := if_pos rfl
theorem pk_un {f : Nat → Int32} {k j : Nat} {x : Int32} (h : j ≠ k) : upd f k x j = f j := if_neg h
theorem pk_sub {a b : Nat} (h : b ≤ a) : nI a - nI b = nI (a - b) := by
  obtain ⟨c, rfl⟩ : ∃ c, a = c + b := ⟨a - b, by omega⟩
  rw [← nI_add, Int32.add_sub_cancel, Nat.add_sub_cancel]
theorem pk_m1 (n : Nat) : nI (n + 1) + (-1) = nI n := by
  rw [← nI_1, Int32.add_assoc, show (1 : Int32) + (-1) = 0 from rfl, Int32.add_zero]
theorem pk_mul (a b : Nat) : nI a * nI b = nI (a * b) := (Int32.ofNat_mul a b).symm
theorem pk_div {a d : Nat} (ha : a < 2 ^ 31) (h0 : 0 < d) (hd : d < 2 ^ 31) : nI a / nI d = nI (a / d) := by
  apply Int32.toInt_inj.mp
  rw [lg_idiv_nonneg (by rw [nI_toInt ha]; omega) (by rw [nI_toInt hd]; omega), nI_toInt ha, nI_toInt hd, nI_toInt (Nat.lt_of_le_of_lt (Nat.div_le_self a d) ha)]
  first | rfl | exact (Int.natCast_ediv _ _).symm
theorem pk_rem {a d : Nat} (ha : a < 2 ^ 31) (h0 : 0 < d) (hd : d < 2 ^ 31) : nI a - nI a / nI d * nI d = nI (a % d) := by
  rw [pk_div ha h0 hd, pk_mul, pk_sub (Nat.div_mul_le_self a d)]
  exact congrArg nI (by have := Nat.div_add_mod' a d; omega)
theorem pk_ix (x : Int32) {n : Nat} (hn : n < 2 ^ 31) : x < 0 ∨ nI n ≤ x ∨ ∃ j : Nat, j < n ∧ x = nI j := by
  by_cases h : x < 0
  · exact Or.inl h
  · obtain ⟨j, hj, rfl⟩ := nI_of h
    by_cases h2 : j < n
    · exact Or.inr (Or.inr ⟨j, h2, rfl⟩)
    · exact Or.inr (Or.inl (nI_le (by omega) hj))
theorem pk_le {x y : Int32} {A B : Prop} (a b : Nat) (f : a ≤ b → A) (g : b < a → B) (hx : x = nI a := by rfl) (hy : y = nI b := by rfl) (ha : a < 2 ^ 31 := by omega) (hb : b < 2 ^ 31 := by omega) : (x ≤ y → A) ∧ (¬ x ≤ y → B) := by
  subst hx hy
  rw [nI_leI ha hb]
  exact ⟨f, fun z => g (by omega)⟩
theorem pk_lt {x y : Int32} {A B : Prop} (a b : Nat) (f : a < b → A) (g : b ≤ a → B) (hx : x = nI a := by rfl) (hy : y = nI b := by rfl) (ha : a < 2 ^ 31 := by omega) (hb : b < 2 ^ 31 := by omega) : (x < y → A) ∧ (¬ x < y → B) := by
  subst hx hy
  rw [nI_ltI ha hb]
  exact ⟨f, fun z => g (by omega)⟩
theorem pk_eq {x y : Int32} {A B : Prop} (a b : Nat) (f : a = b → A) (g : a ≠ b → B) (hx : x = nI a := by rfl) (hy : y = nI b := by rfl) (ha : a < 2 ^ 31 := by omega) (hb : b < 2 ^ 31 := by omega) : (x = y → A) ∧ (¬ x = y → B) := by
  subst hx hy
  rw [nI_eq ha hb]
  exact ⟨f, g⟩
theorem pk_in {x : Int32} (n N : Nat) (h : n < N) (hx : x = nI n := by rfl) (hN : N < 2 ^ 31 := by omega) : vp_in x N := by
  subst hx
  exact vp_in_nI h hN
theorem pk_cl {x : Int32} (n : Nat) (hx : x = nI n := by rfl) (h : n < 2 ^ 31 := by omega) : x.toNatClampNeg = n := by
  subst hx
  exact nI_clamp h
theorem pk_tn {n : Nat} (h : n < 2 ^ 32) : (nI n).toBitVec.toNat = n := Nat.mod_eq_of_lt h
theorem pk_and (x : Int32) {m : Int32} (k : Nat) (hm : m.toBitVec.toNat = 2 ^ k - 1) : x &&& m = nI (x.toBitVec.toNat % 2 ^ k) := by
  apply Int32.toBitVec_inj.mp
  apply BitVec.eq_of_toNat_eq
  rw [Int32.toBitVec_and, BitVec.toNat_and, hm, Nat.and_two_pow_sub_one_eq_mod]
  show _ = (BitVec.ofNat 32 _).toNat
  rw [BitVec.toNat_ofNat]
  exact (Nat.mod_eq_of_lt (Nat.lt_of_le_of_lt (Nat.mod_le _ _) x.toBitVec.isLt)).symm
theorem pk_andN {n : Nat} (h : n < 2 ^ 32) {m : Int32} (k : Nat) (hm : m.toBitVec.toNat = 2 ^ k - 1) : nI n &&& m = nI (n % 2 ^ k) := by
  rw [pk_and _ k hm, pk_tn h]
theorem pk_shl (a s : Int32) (k : Nat) (hs : (s.toBitVec.smod 32).toNat = k) : (a <<< s).toBitVec.toNat = a.toBitVec.toNat * 2 ^ k % 2 ^ 32 := by
  show (a.toBitVec <<< (s.toBitVec.smod 32).toNat).toNat = _
  rw [hs, BitVec.toNat_shiftLeft, Nat.shiftLeft_eq]
theorem pk_shlN {n : Nat} (s : Int32) (k : Nat) (hs : (s.toBitVec.smod 32).toNat = k) (h : n * 2 ^ k < 2 ^ 32) : nI n <<< s = nI (n * 2 ^ k) := by
  apply Int32.toBitVec_inj.mp
  apply BitVec.eq_of_toNat_eq
  have hn : n < 2 ^ 32 := Nat.lt_of_le_of_lt (Nat.le_mul_of_pos_right n (Nat.two_pow_pos k)) h
  rw [pk_shl _ _ k hs, pk_tn hn, pk_tn h, Nat.mod_eq_of_lt h]
theorem pk_shr (a s : Int32) (k : Nat) (hs : (s.toBitVec.smod 32).toNat = k) : (a >>> s).toInt = a.toInt >>> k := by
  show (a.toBitVec.sshiftRight (s.toBitVec.smod 32).toNat).toInt = _
  rw [hs, BitVec.toInt_sshiftRight]
  rfl
theorem pk_shrN {n : Nat} (h : n < 2 ^ 31) (s : Int32) (k : Nat) (hs : (s.toBitVec.smod 32).toNat = k) : nI n >>> s = nI (n / 2 ^ k) := by
  apply Int32.toInt_inj.mp
  have h2 : n / 2 ^ k ≤ n := Nat.div_le_self _ _
  rw [pk_shr _ _ k hs, nI_toInt h, nI_toInt (by omega), Int.shiftRight_eq_div_pow]
  rfl
theorem pk_loop {σ : Type} (W : Nat → Nat → σ → Prop) (I : Nat → σ → Prop) (e i0 : Nat) (s : σ) (hi : i0 ≤ e) (h0 : I i0 s) (hx : ∀ n s, I e s → W (n + 1) e s)
    (hs : ∀ n i s, i < e → I i s → (∀ s', I (i + 1) s' → W n (i + 1) s') → W (n + 1) i s) : ∃ n, W n i0 s :=
  ⟨e + 1, loop_i W I e hx hs (e + 1) i0 s hi (by omega) h0⟩
theorem pk_loopD {σ : Type} (W : Nat → Nat → σ → Prop) (I : Nat → σ → Prop) (hx : ∀ n s, I 0 s → W (n + 1) 0 s)
    (hs : ∀ n i s, I (i + 1) s → (∀ s', I i s' → W n i s') → W (n + 1) (i + 1) s) : ∀ (e : Nat) (s : σ), I e s → W (e + 1) e s := by
  intro e
  induction e with
  | zero => exact fun s h => hx 0 s h
  | succ e ih => exact fun s h => hs (e + 1) e s h (fun s' h' => ih s' h')
theorem lp1 {A1 : Type} (W : Nat → A1 → Prop) (I : A1 → Prop) (μ : A1 → Nat) (hs : ∀ (n : Nat) (a1 : A1), I a1 → (∀ (b1 : A1), I b1 → μ b1 < μ a1 → W n b1) → W (n + 1) a1) (a1 : A1) (h : I a1) : ∃ n, W n a1 :=
  loop_m (σ := A1) (fun n s => W n s) (fun s => I s) (fun s => μ s) (fun n s hI hk => hs n s hI (fun b1 h9 hm => hk b1 h9 hm)) a1 h
theorem lp2 {A1 A2 : Type} (W : Nat → A1 → A2 → Prop) (I : A1 → A2 → Prop) (μ : A1 → A2 → Nat) (hs : ∀ (n : Nat) (a1 : A1) (a2 : A2), I a1 a2 → (∀ (b1 : A1) (b2 : A2), I b1 b2 → μ b1 b2 < μ a1 a2 → W n b1 b2) → W (n + 1) a1 a2) (a1 : A1) (a2 : A2) (h : I a1 a2) : ∃ n, W n a1 a2 :=
  loop_m (σ := A1 × A2) (fun n s => W n s.1 s.2) (fun s => I s.1 s.2) (fun s => μ s.1 s.2) (fun n s hI hk => hs n s.1 s.2 hI (fun b1 b2 h9 hm => hk (b1, b2) h9 hm)) (a1, a2) h
theorem lp3 {A1 A2 A3 : Type} (W : Nat → A1 → A2 → A3 → Prop) (I : A1 → A2 → A3 → Prop) (μ : A1 → A2 → A3 → Nat) (hs : ∀ (n : Nat) (a1 : A1) (a2 : A2) (a3 : A3), I a1 a2 a3 → (∀ (b1 : A1) (b2 : A2) (b3 : A3), I b1 b2 b3 → μ b1 b2 b3 < μ a1 a2 a3 → W n b1 b2 b3) → W (n + 1) a1 a2 a3) (a1 : A1) (a2 : A2) (a3 : A3) (h : I a1 a2 a3) : ∃ n, W n a1 a2 a3 :=
  loop_m (σ := A1 × A2 × A3) (fun n s => W n s.1 s.2.1 s.2.2) (fun s => I s.1 s.2.1 s.2.2) (fun s => μ s.1 s.2.1 s.2.2) (fun n s hI hk => hs n s.1 s.2.1 s.2.2 hI (fun b1 b2 b3 h9 hm => hk (b1, b2, b3) h9 hm)) (a1, a2, a3) h
theorem lp4 {A1 A2 A3 A4 : Type} (W : Nat → A1 → A2 → A3 → A4 → Prop) (I : A1 → A2 → A3 → A4 → Prop) (μ : A1 → A2 → A3 → A4 → Nat) (hs : ∀ (n : Nat) (a1 : A1) (a2 : A2) (a3 : A3) (a4 : A4), I a1 a2 a3 a4 → (∀ (b1 : A1) (b2 : A2) (b3 : A3) (b4 : A4), I b1 b2 b3 b4 → μ b1 b2 b3 b4 < μ a1 a2 a3 a4 → W n b1 b2 b3 b4) → W (n + 1) a1 a2 a3 a4) (a1 : A1) (a2 : A2) (a3 : A3) (a4 : A4) (h : I a1 a2 a3 a4) : ∃ n, W n a1 a2 a3 a4 :=
  loop_m (σ := A1 × A2 × A3 × A4) (fun n s => W n s.1 s.2.1 s.2.2.1 s.2.2.2) (fun s => I s.1 s.2.1 s.2.2.1 s.2.2.2) (fun s => μ s.1 s.2.1 s.2.2.1 s.2.2.2) (fun n s hI hk => hs n s.1 s.2.1 s.2.2.1 s.2.2.2 hI (fun b1 b2 b3 b4 h9 hm => hk (b1, b2, b3, b4) h9 hm)) (a1, a2, a3, a4) h
theorem lp5 {A1 A2 A3 A4 A5 : Type} (W : Nat → A1 → A2 → A3 → A4 → A5 → Prop) (I : A1 → A2 → A3 → A4 → A5 → Prop) (μ : A1 → A2 → A3 → A4 → A5 → Nat) (hs : ∀ (n : Nat) (a1 : A1) (a2 : A2) (a3 : A3) (a4 : A4) (a5 : A5), I a1 a2 a3 a4 a5 → (∀ (b1 : A1) (b2 : A2) (b3 : A3) (b4 : A4) (b5 : A5), I b1 b2 b3 b4 b5 → μ b1 b2 b3 b4 b5 < μ a1 a2 a3 a4 a5 → W n b1 b2 b3 b4 b5) → W (n + 1) a1 a2 a3 a4 a5) (a1 : A1) (a2 : A2) (a3 : A3) (a4 : A4) (a5 : A5) (h : I a1 a2 a3 a4 a5) : ∃ n, W n a1 a2 a3 a4 a5 :=
  loop_m (σ := A1 × A2 × A3 × A4 × A5) (fun n s => W n s.1 s.2.1 s.2.2.1 s.2.2.2.1 s.2.2.2.2) (fun s => I s.1 s.2.1 s.2.2.1 s.2.2.2.1 s.2.2.2.2) (fun s => μ s.1 s.2.1 s.2.2.1 s.2.2.2.1 s.2.2.2.2) (fun n s hI hk => hs n s.1 s.2.1 s.2.2.1 s.2.2.2.1 s.2.2.2.2 hI (fun b1 b2 b3 b4 b5 h9 hm => hk (b1, b2, b3, b4, b5) h9 hm)) (a1, a2, a3, a4, a5) h
theorem pk_least (P : Nat → Prop) (h : ∃ k, P k) : ∃ k, P k ∧ ∀ j, j < k → ¬ P j := by
  obtain ⟨k, hk⟩ := h
  induction k using Nat.strongRecOn with
  | ind k ih =>
    by_cases e : ∃ j, j < k ∧ P j
    · obtain ⟨j, hj, pj⟩ := e
      exact ih j hj pj
    · exact ⟨k, hk, fun j hj pj => e ⟨j, hj, pj⟩⟩
def bt (x : Int32) (i : Nat) : Bool := x.toBitVec.getLsbD i
theorem b_ext {x y : Int32} (h : ∀ i, i < 32 → bt x i = bt y i) : x = y := Int32.toBitVec_inj.mp (BitVec.eq_of_getLsbD_eq (fun i hi => h i hi))
theorem b_or (x y : Int32) (i : Nat) : bt (x ||| y) i = (bt x i || bt y i) := by unfold bt; rw [Int32.toBitVec_or, BitVec.getLsbD_or]
theorem b_and (x y : Int32) (i : Nat) : bt (x &&& y) i = (bt x i && bt y i) := by unfold bt; rw [Int32.toBitVec_and, BitVec.getLsbD_and]
theorem b_xor (x y : Int32) (i : Nat) : bt (x ^^^ y) i = (bt x i ^^ bt y i) := by unfold bt; rw [Int32.toBitVec_xor, BitVec.getLsbD_xor]
theorem b_m1 : ∀ i, i < 32 → bt (-1) i = true := by decide +kernel
theorem b_0 (i : Nat) : bt 0 i = false := BitVec.getLsbD_zero
theorem s_l : ∀ n, n < 32 → ((nI n &&& 31).toBitVec.smod 32).toNat = n := by decide +kernel
theorem b_shl (n : Nat) (hn : n < 32) (x : Int32) {i : Nat} (hi : i < 32) : bt (x <<< (nI n &&& 31)) i = (decide (n ≤ i) && bt x (i - n)) := by
  unfold bt
  rw [Int32.toBitVec_shiftLeft]
  show (x.toBitVec <<< ((nI n &&& 31).toBitVec.smod 32).toNat).getLsbD i = _
  rw [s_l n hn, BitVec.getLsbD_shiftLeft]
  rcases Nat.lt_or_ge i n with h | h
  · simp [h, Nat.not_le.mpr h]
  · simp [hi, h, Nat.not_lt.mpr h]
theorem nx_and (a b : Nat) : nI a &&& nI b = nI (a &&& b) := by
  apply Int32.toBitVec_inj.1
  show BitVec.ofNat 32 a &&& BitVec.ofNat 32 b = BitVec.ofNat 32 (a &&& b)
  apply BitVec.eq_of_getLsbD_eq
  intro i hi
  simp [hi]
end
section
/-! Trails and ways as lists of places, the LAST place first: r = v_k :: .. :: v_1 :: s :: [].
    A way is t :: r with r a trail that doesn't hold t and a road from its head to t. G i: the length of road i = a * 6 + b, 0 for none. -/
/-- place number i (from s on) of r; 7 beyond its end -/
def wr_p : List Nat → Nat → Nat
  | [], _ => 7
  | v :: r, i => if i = r.length then v else wr_p r i
/-- the sum of the roads of r -/
def wr_s (G : Nat → Nat) : List Nat → Nat
  | [] => 0
  | [_] => 0
  | v :: u :: r => wr_s G (u :: r) + G (u * 6 + v)
/-- r is a trail from s that keeps off t -/
def wr_ok (G : Nat → Nat) (s t : Nat) : List Nat → Bool
  | [] => false
  | [v] => v == s
  | v :: u :: r => decide (v < 6) && (v != t) && !((u :: r).contains v) && decide (0 < G (u * 6 + v)) && wr_ok G s t (u :: r)
/-- r is a trail that a road ends in t -/
def wr_w (G : Nat → Nat) (s t : Nat) (r : List Nat) : Bool := wr_ok G s t r && decide (0 < G (r.headD 0 * 6 + t))
theorem wr_p_ge : ∀ (r : List Nat) (i : Nat), r.length ≤ i → wr_p r i = 7
  | [], _, _ => rfl
  | v :: r, i, h => by
    have h' : r.length + 1 ≤ i := h
    unfold wr_p
    rw [if_neg (by omega)]
    exact wr_p_ge r i (by omega)
theorem wr_p_mem : ∀ (r : List Nat) (i : Nat), i < r.length → wr_p r i ∈ r
  | [], i, h => absurd h (Nat.not_lt_zero i)
  | v :: r, i, h => by
    have h' : i < r.length + 1 := h
    unfold wr_p
    by_cases e : i = r.length
    · rw [if_pos e]; exact List.mem_cons_self
    · rw [if_neg e]; exact List.mem_cons_of_mem _ (wr_p_mem r i (by omega))
theorem wr_p_hd (v : Nat) (r : List Nat) : wr_p (v :: r) r.length = v := by unfold wr_p; rw [if_pos rfl]
theorem wr_p_tl (v : Nat) (r : List Nat) {i : Nat} (h : i ≠ r.length) : wr_p (v :: r) i = wr_p r i := by
  show (if i = r.length then v else wr_p r i) = _
  rw [if_neg h]
theorem wr_p_lt {r : List Nat} (h : ∀ x, x ∈ r → x < 6) (i : Nat) : wr_p r i < 8 := by
  rcases Nat.lt_or_ge i r.length with l | l
  · have := h _ (wr_p_mem r i l); omega
  · rw [wr_p_ge r i l]; omega
theorem wr_p_of_mem : ∀ (r : List Nat) (x : Nat), x ∈ r → ∃ i, i < r.length ∧ wr_p r i = x
  | [], x, h => absurd h List.not_mem_nil
  | v :: r, x, h => by
    rcases List.mem_cons.1 h with e | e
    · exact ⟨r.length, Nat.lt_succ_self _, by rw [wr_p_hd, e]⟩
    · obtain ⟨i, hi, hp⟩ := wr_p_of_mem r x e
      exact ⟨i, Nat.lt_succ_of_lt hi, by rw [wr_p_tl v r (by omega), hp]⟩
theorem wr_p_ext : ∀ (a b : List Nat), a.length = b.length → (∀ i, i < a.length → wr_p a i = wr_p b i) → a = b
  | [], [], _, _ => rfl
  | [], _ :: _, h, _ => by simp at h
  | _ :: _, [], h, _ => by simp at h
  | v :: a, w :: b, h, g => by
    have hl : a.length = b.length := Nat.succ.inj h
    have h1 : v = w := by
      have := g a.length (Nat.lt_succ_self _)
      rw [wr_p_hd, hl, wr_p_hd] at this
      exact this
    have h2 : a = b := wr_p_ext a b hl (fun i hi => by
      have := g i (Nat.lt_succ_of_lt hi)
      rw [wr_p_tl v a (by omega), wr_p_tl w b (by omega)] at this
      exact this)
    rw [h1, h2]
/-- what a trail has: places, none of them t, all different -/
theorem wr_ok_c {G : Nat → Nat} {s t v u : Nat} {r : List Nat} : wr_ok G s t (v :: u :: r) = true ↔ v < 6 ∧ v ≠ t ∧ v ∉ (u :: r) ∧ 0 < G (u * 6 + v) ∧ wr_ok G s t (u :: r) = true := by
  show (decide (v < 6) && (v != t) && !((u :: r).contains v) && decide (0 < G (u * 6 + v)) && wr_ok G s t (u :: r)) = true ↔ _
  simp only [Bool.and_eq_true, decide_eq_true_eq, bne_iff_ne, Bool.not_eq_true', ne_eq, List.contains_eq_mem, decide_eq_false_iff_not, and_assoc]
theorem wr_ok_1 {G : Nat → Nat} {s t v : Nat} : wr_ok G s t [v] = true ↔ v = s := by
  show (v == s) = true ↔ _
  exact beq_iff_eq
theorem wr_ok_ne {G : Nat → Nat} {s t : Nat} {r : List Nat} (h : wr_ok G s t r = true) : r ≠ [] := by
  intro e; rw [e] at h; exact Bool.false_ne_true h
theorem wr_ok_lt {G : Nat → Nat} {s t : Nat} (hs : s < 6) : ∀ (r : List Nat), wr_ok G s t r = true → ∀ x, x ∈ r → x < 6
  | [], h, _, _ => (Bool.false_ne_true h).elim
  | [v], h, x, hx => by
    rw [wr_ok_1] at h
    rw [List.mem_singleton] at hx
    omega
  | v :: u :: r, h, x, hx => by
    rw [wr_ok_c] at h
    rcases List.mem_cons.1 hx with e | e
    · omega
    · exact wr_ok_lt hs (u :: r) h.2.2.2.2 x e
theorem wr_ok_t {G : Nat → Nat} {s t : Nat} (hst : s ≠ t) : ∀ (r : List Nat), wr_ok G s t r = true → t ∉ r
  | [], h => (Bool.false_ne_true h).elim
  | [v], h => by
    rw [wr_ok_1] at h
    rw [List.mem_singleton]
    omega
  | v :: u :: r, h => by
    rw [wr_ok_c] at h
    intro m
    rcases List.mem_cons.1 m with e | e
    · exact h.2.1 e.symm
    · exact wr_ok_t hst (u :: r) h.2.2.2.2 e
theorem wr_ok_nd {G : Nat → Nat} {s t : Nat} : ∀ (r : List Nat), wr_ok G s t r = true → r.Nodup
  | [], h => (Bool.false_ne_true h).elim
  | [v], _ => by simp
  | v :: u :: r, h => by
    rw [wr_ok_c] at h
    exact List.nodup_cons.2 ⟨h.2.2.1, wr_ok_nd (u :: r) h.2.2.2.2⟩
/-! the 65 candidates -/
def wr_cx (t : Nat) (r : List Nat) : List (List Nat) := ((List.range 6).filter (fun v => !r.contains v && v != t)).map (fun v => v :: r)
def wr_cl (s t : Nat) : Nat → List (List Nat)
  | 0 => [[s]]
  | k + 1 => (wr_cl s t k).flatMap (wr_cx t)
def wr_C (s t : Nat) : List (List Nat) := wr_cl s t 0 ++ (wr_cl s t 1 ++ (wr_cl s t 2 ++ (wr_cl s t 3 ++ wr_cl s t 4)))
theorem wr_C_len : ∀ s, s < 6 → ∀ t, t < 6 → s ≠ t → (wr_C s t).length = 65 := by decide +kernel
theorem wr_cl5 : ∀ s, s < 6 → ∀ t, t < 6 → s ≠ t → wr_cl s t 5 = [] := by decide +kernel
theorem wr_cl_mem {G : Nat → Nat} {s t : Nat} : ∀ (r : List Nat), wr_ok G s t r = true → r ∈ wr_cl s t (r.length - 1)
  | [], h => (Bool.false_ne_true h).elim
  | [v], h => by
    rw [wr_ok_1] at h
    rw [h]
    exact List.mem_singleton.2 rfl
  | v :: u :: r, h => by
    rw [wr_ok_c] at h
    have ih := wr_cl_mem (u :: r) h.2.2.2.2
    show _ ∈ (wr_cl s t ((u :: r).length - 1)).flatMap (wr_cx t)
    refine List.mem_flatMap.2 ⟨u :: r, ih, ?_⟩
    refine List.mem_map.2 ⟨v, List.mem_filter.2 ⟨List.mem_range.2 h.1, ?_⟩, rfl⟩
    simp only [Bool.and_eq_true, bne_iff_ne, Bool.not_eq_true', ne_eq, List.contains_eq_mem, decide_eq_false_iff_not]
    exact ⟨h.2.2.1, h.2.1⟩
theorem wr_cl_big {s t : Nat} (hs : s < 6) (ht : t < 6) (hst : s ≠ t) : ∀ k, wr_cl s t (5 + k) = []
  | 0 => wr_cl5 s hs t ht hst
  | k + 1 => by
    show (wr_cl s t (5 + k)).flatMap (wr_cx t) = []
    rw [wr_cl_big hs ht hst k]; rfl
theorem wr_ok_len {G : Nat → Nat} {s t : Nat} (hs : s < 6) (ht : t < 6) (hst : s ≠ t) {r : List Nat} (h : wr_ok G s t r = true) : 1 ≤ r.length ∧ r.length ≤ 5 := by
  have hne : 1 ≤ r.length := by
    cases r with
    | nil => exact (Bool.false_ne_true h).elim
    | cons a b => exact Nat.succ_le_succ (Nat.zero_le _)
  refine ⟨hne, ?_⟩
  have hm := wr_cl_mem r h
  rcases Nat.lt_or_ge 5 r.length with l | l
  · rw [show r.length - 1 = 5 + (r.length - 6) from by omega, wr_cl_big hs ht hst] at hm
    exact absurd hm List.not_mem_nil
  · exact l
theorem wr_C_mem {G : Nat → Nat} {s t : Nat} (hs : s < 6) (ht : t < 6) (hst : s ≠ t) {r : List Nat} (h : wr_ok G s t r = true) : r ∈ wr_C s t := by
  have hm := wr_cl_mem r h
  have hl := wr_ok_len hs ht hst h
  unfold wr_C
  simp only [List.mem_append]
  have : r.length - 1 = 0 ∨ r.length - 1 = 1 ∨ r.length - 1 = 2 ∨ r.length - 1 = 3 ∨ r.length - 1 = 4 := by omega
  rcases this with e | e | e | e | e <;> rw [e] at hm
  · exact Or.inl hm
  · exact Or.inr (Or.inl hm)
  · exact Or.inr (Or.inr (Or.inl hm))
  · exact Or.inr (Or.inr (Or.inr (Or.inl hm)))
  · exact Or.inr (Or.inr (Or.inr (Or.inr hm)))
/-- a list of different trails has at most 65 -/
theorem wr_65 {G : Nat → Nat} {s t : Nat} (hs : s < 6) (ht : t < 6) (hst : s ≠ t) {T : List (List Nat)} (hn : T.Nodup) (h : ∀ r, r ∈ T → wr_ok G s t r = true) : T.length ≤ 65 := by
  have := List.Nodup.length_le_of_subset hn (fun r hr => wr_C_mem hs ht hst (h r hr))
  rw [wr_C_len s hs t ht hst] at this
  exact this
/-! keys: the order of the ways -/
def wr_k (a : List Nat) : Nat := 32768 * wr_p a 0 + 4096 * wr_p a 1 + 512 * wr_p a 2 + 64 * wr_p a 3 + 8 * wr_p a 4 + wr_p a 5
def wr_K (G : Nat → Nat) (a : List Nat) : Nat := 262144 * wr_s G a + wr_k a
theorem wr_lex {t : Nat} {a b : List Nat} (ha : t ∉ a) (hb : t ∉ b) (ne : a ≠ b) : ∃ i, i ≤ a.length ∧ i ≤ b.length ∧ (∀ j, j < i → wr_p (t :: a) j = wr_p (t :: b) j) ∧ wr_p (t :: a) i ≠ wr_p (t :: b) i := by
  have ex : ∃ i, i ≤ a.length ∧ i ≤ b.length ∧ wr_p (t :: a) i ≠ wr_p (t :: b) i := by
    apply Classical.byContradiction
    intro no
    have eq : ∀ i, i ≤ a.length → i ≤ b.length → wr_p (t :: a) i = wr_p (t :: b) i := fun i h1 h2 =>
      Classical.byContradiction (fun z => no ⟨i, h1, h2, z⟩)
    rcases Nat.lt_trichotomy a.length b.length with l | l | l
    · have e := eq a.length (Nat.le_refl _) (by omega)
      rw [wr_p_hd, wr_p_tl t b (by omega)] at e
      exact hb (by rw [e]; exact wr_p_mem b a.length l)
    · have e := wr_p_ext (t :: a) (t :: b) (by simp [l]) (fun i hi => eq i (by simp at hi; omega) (by simp at hi; omega))
      exact ne (List.cons.inj e).2
    · have e := eq b.length (by omega) (Nat.le_refl _)
      rw [wr_p_hd, wr_p_tl t a (by omega)] at e
      exact ha (by rw [← e]; exact wr_p_mem a b.length l)
  obtain ⟨i, ⟨h1, h2, h3⟩, hm⟩ := pk_least (fun i => i ≤ a.length ∧ i ≤ b.length ∧ wr_p (t :: a) i ≠ wr_p (t :: b) i) ex
  refine ⟨i, h1, h2, fun j hj => ?_, h3⟩
  exact Classical.byContradiction (fun z => hm j hj ⟨by omega, by omega, z⟩)
theorem wr_k_lt {a b : List Nat} (ha : ∀ i, wr_p a i < 8) (hb : ∀ i, wr_p b i < 8) {i : Nat} (hi : i < 6) (he : ∀ j, j < i → wr_p a j = wr_p b j) (h : wr_p a i < wr_p b i) : wr_k a < wr_k b := by
  have a0 := ha 0; have a1 := ha 1; have a2 := ha 2; have a3 := ha 3; have a4 := ha 4; have a5 := ha 5
  have b0 := hb 0; have b1 := hb 1; have b2 := hb 2; have b3 := hb 3; have b4 := hb 4; have b5 := hb 5
  unfold wr_k
  have hc : i = 0 ∨ i = 1 ∨ i = 2 ∨ i = 3 ∨ i = 4 ∨ i = 5 := by omega
  rcases hc with e | e | e | e | e | e <;> subst e
  · omega
  · have := he 0 (by omega); omega
  · have := he 0 (by omega); have := he 1 (by omega); omega
  · have := he 0 (by omega); have := he 1 (by omega); have := he 2 (by omega); omega
  · have := he 0 (by omega); have := he 1 (by omega); have := he 2 (by omega); have := he 3 (by omega); omega
  · have := he 0 (by omega); have := he 1 (by omega); have := he 2 (by omega); have := he 3 (by omega); have := he 4 (by omega); omega
theorem wr_k_b {a : List Nat} (ha : ∀ i, wr_p a i < 8) : wr_k a < 262144 := by
  have a0 := ha 0; have a1 := ha 1; have a2 := ha 2; have a3 := ha 3; have a4 := ha 4; have a5 := ha 5
  unfold wr_k; omega
theorem wr_s_b {G : Nat → Nat} (hG : ∀ i, G i ≤ 20) : ∀ r : List Nat, wr_s G r ≤ 20 * r.length
  | [] => Nat.le_refl _
  | [_] => Nat.zero_le _
  | v :: u :: r => by
    have := wr_s_b hG (u :: r)
    have := hG (u * 6 + v)
    simp only [List.length_cons] at *
    show wr_s G (u :: r) + G (u * 6 + v) ≤ _
    omega
/-! ranks -/
theorem wr_cnt0 {R : List Nat} {x : Nat} (h : ∀ y, y ∈ R → x ≤ y) : R.countP (fun z => decide (z < x)) = 0 := by
  rw [List.countP_eq_zero]
  intro y hy
  have := h y hy
  simp; omega
theorem wr_cnt : ∀ (R : List Nat), R.Pairwise (· < ·) → ∀ (k : Nat) (hk : k < R.length), R.countP (fun z => decide (z < R[k])) = k
  | [], _, k, hk => absurd hk (Nat.not_lt_zero k)
  | a :: R, h, 0, _ => by
    show (a :: R).countP (fun z => decide (z < a)) = 0
    refine wr_cnt0 (fun y hy => ?_)
    rcases List.mem_cons.1 hy with e | e
    · omega
    · exact Nat.le_of_lt ((List.pairwise_cons.1 h).1 y e)
  | a :: R, h, k + 1, hk => by
    have hk' : k < R.length := Nat.lt_of_succ_lt_succ hk
    have ih := wr_cnt R (List.pairwise_cons.1 h).2 k hk'
    show (a :: R).countP (fun z => decide (z < R[k])) = k + 1
    rw [List.countP_cons_of_pos (by simpa using (List.pairwise_cons.1 h).1 _ (List.getElem_mem hk')), ih]
end
section
/-! The class's walk over trails, the reference's over codes: two lists of the same ways. -/
/-- the trails that go on from r to a place below i -/
def wr_x (G : Nat → Nat) (t : Nat) (r : List Nat) (i : Nat) : List (List Nat) := ((List.range i).filter (fun v => decide (0 < G (r.headD 0 * 6 + v)) && !r.contains v && v != t)).map (fun v => v :: r)
theorem wr_x_0 (G : Nat → Nat) (t : Nat) (r : List Nat) : wr_x G t r 0 = [] := rfl
theorem wr_x_y {G : Nat → Nat} {t : Nat} {r : List Nat} {i : Nat} (h1 : 0 < G (r.headD 0 * 6 + i)) (h2 : i ∉ r) (h3 : i ≠ t) : wr_x G t r (i + 1) = wr_x G t r i ++ [i :: r] := by
  unfold wr_x
  rw [List.range_succ, List.filter_append, List.map_append, List.filter_cons_of_pos (by simp only [Bool.and_eq_true, decide_eq_true_eq, bne_iff_ne, Bool.not_eq_true', ne_eq, List.contains_eq_mem, decide_eq_false_iff_not]; exact ⟨⟨h1, h2⟩, h3⟩)]
  rfl
theorem wr_x_n {G : Nat → Nat} {t : Nat} {r : List Nat} {i : Nat} (h : ¬ (0 < G (r.headD 0 * 6 + i) ∧ i ∉ r ∧ i ≠ t)) : wr_x G t r (i + 1) = wr_x G t r i := by
  unfold wr_x
  rw [List.range_succ, List.filter_append, List.map_append, List.filter_cons_of_neg (by
    intro z
    simp only [Bool.and_eq_true, decide_eq_true_eq, bne_iff_ne, Bool.not_eq_true', ne_eq, List.contains_eq_mem, decide_eq_false_iff_not] at z
    exact h ⟨z.1.1, z.1.2, z.2⟩)]
  simp
theorem wr_x_mem {G : Nat → Nat} {t : Nat} {r : List Nat} {i : Nat} {x : List Nat} : x ∈ wr_x G t r i ↔ ∃ v, v < i ∧ 0 < G (r.headD 0 * 6 + v) ∧ v ∉ r ∧ v ≠ t ∧ x = v :: r := by
  unfold wr_x
  rw [List.mem_map]
  constructor
  · rintro ⟨v, hv, e⟩
    rw [List.mem_filter, List.mem_range] at hv
    obtain ⟨h1, h2⟩ := hv
    simp only [Bool.and_eq_true, decide_eq_true_eq, bne_iff_ne, Bool.not_eq_true', ne_eq, List.contains_eq_mem, decide_eq_false_iff_not] at h2
    exact ⟨v, h1, h2.1.1, h2.1.2, h2.2, e.symm⟩
  · rintro ⟨v, h1, h2, h3, h4, e⟩
    refine ⟨v, List.mem_filter.2 ⟨List.mem_range.2 h1, ?_⟩, e.symm⟩
    simp only [Bool.and_eq_true, decide_eq_true_eq, bne_iff_ne, Bool.not_eq_true', ne_eq, List.contains_eq_mem, decide_eq_false_iff_not]
    exact ⟨⟨h2, h3⟩, h4⟩
theorem wr_x_nd (G : Nat → Nat) (t : Nat) (r : List Nat) (i : Nat) : (wr_x G t r i).Nodup := by
  unfold wr_x
  refine List.pairwise_map.2 (List.Pairwise.filter _ (List.Pairwise.imp ?_ (List.nodup_range (n := i))))
  intro a b hab e
  exact hab (List.cons.inj e).1
theorem wr_x_ok {G : Nat → Nat} {s t : Nat} {r : List Nat} {i : Nat} (hi : i ≤ 6) (h : wr_ok G s t r = true) : ∀ x, x ∈ wr_x G t r i → wr_ok G s t x = true := by
  intro x hx
  obtain ⟨v, h1, h2, h3, h4, e⟩ := wr_x_mem.1 hx
  cases r with
  | nil => exact (Bool.false_ne_true h).elim
  | cons u r => rw [e]; exact wr_ok_c.2 ⟨by omega, h4, h3, h2, h⟩
/-- the list of trails T, of which those of A have been gone on from -/
def wr_T (G : Nat → Nat) (s t : Nat) (A T : List (List Nat)) : Prop := T.Nodup ∧ (∀ r, r ∈ T → wr_ok G s t r = true) ∧ T = [s] :: A.flatMap (fun r => wr_x G t r 6)
theorem wr_T_0 (G : Nat → Nat) (s t : Nat) : wr_T G s t [] [[s]] := by
  refine ⟨by simp, fun r hr => ?_, rfl⟩
  rw [List.mem_singleton.1 hr]
  exact wr_ok_1.2 rfl
theorem wr_T_i {G : Nat → Nat} {s t : Nat} {A T : List (List Nat)} (h : wr_T G s t A T) {r : List Nat} (hr : r ∈ T) (hA : r ∉ A) {i : Nat} (hi : i ≤ 6) : (T ++ wr_x G t r i).Nodup ∧ (∀ x, x ∈ T ++ wr_x G t r i → wr_ok G s t x = true) := by
  obtain ⟨h1, h2, h3⟩ := h
  refine ⟨List.nodup_append.2 ⟨h1, wr_x_nd G t r i, ?_⟩, ?_⟩
  · intro a ha b hb e
    obtain ⟨v, _, _, _, _, eb⟩ := wr_x_mem.1 hb
    rw [h3] at ha
    rcases List.mem_cons.1 ha with z | z
    · rw [e, eb] at z
      exact wr_ok_ne (h2 r hr) (List.cons.inj z).2
    · obtain ⟨r', m1, m2⟩ := List.mem_flatMap.1 z
      obtain ⟨v', _, _, _, _, ea⟩ := wr_x_mem.1 m2
      rw [e, eb] at ea
      have ee := (List.cons.inj ea).2
      exact hA (by rw [ee]; exact m1)
  · intro x hx
    rcases List.mem_append.1 hx with z | z
    · exact h2 x z
    · exact wr_x_ok hi (h2 r hr) x z
theorem wr_T_s {G : Nat → Nat} {s t : Nat} {A T : List (List Nat)} (h : wr_T G s t A T) {r : List Nat} (hr : r ∈ T) (hA : r ∉ A) : wr_T G s t (A ++ [r]) (T ++ wr_x G t r 6) := by
  obtain ⟨a, b⟩ := wr_T_i h hr hA (Nat.le_refl 6)
  refine ⟨a, b, ?_⟩
  have h3 := h.2.2
  rw [List.flatMap_append, ← List.cons_append, ← h3]
  simp
/-- where all have been gone on from, every trail is there -/
theorem wr_T_all {G : Nat → Nat} {s t : Nat} {T : List (List Nat)} (h : wr_T G s t T T) : ∀ r, wr_ok G s t r = true → r ∈ T
  | [], z => (Bool.false_ne_true z).elim
  | [v], z => by
    rw [wr_ok_1] at z
    rw [h.2.2, z]
    exact List.mem_cons_self
  | v :: u :: r, z => by
    have z' := wr_ok_c.1 z
    have ih := wr_T_all h (u :: r) z'.2.2.2.2
    rw [h.2.2]
    refine List.mem_cons_of_mem _ (List.mem_flatMap.2 ⟨u :: r, ih, ?_⟩)
    exact wr_x_mem.2 ⟨v, z'.1, z'.2.2.2.1, z'.2.2.1, z'.2.1, rfl⟩
/-! the reference's codes -/
/-- digit k of the code c -/
def wr_D (c k : Nat) : Nat := c / 7 ^ k % 7
def wr_rr (s c : Nat) : Nat → List Nat
  | 0 => [s]
  | k + 1 => if wr_D c k < 6 then (wr_D c k) :: wr_rr s c k else wr_rr s c k
def wr_en (c : Nat) : Nat → Bool
  | 0 => false
  | k + 1 => wr_en c k || decide (wr_D c k = 6)
def wr_kk (G : Nat → Nat) (s t c : Nat) : Nat → Bool
  | 0 => true
  | k + 1 => if wr_D c k < 6 then wr_kk G s t c k && !wr_en c k && (wr_D c k != t && !(wr_rr s c k).contains (wr_D c k)) && decide (0 < G ((wr_rr s c k).headD 0 * 6 + wr_D c k)) else wr_kk G s t c k
def wr_cd (G : Nat → Nat) (s t c : Nat) : Bool := wr_kk G s t c 4 && decide (0 < G ((wr_rr s c 4).headD 0 * 6 + t))
def wr_Y (G : Nat → Nat) (s t n : Nat) : List (List Nat) := ((List.range n).filter (wr_cd G s t)).map (fun c => wr_rr s c 4)
theorem wr_rr_ne (s c : Nat) : ∀ k, ∃ u r, wr_rr s c k = u :: r
  | 0 => ⟨s, [], rfl⟩
  | k + 1 => by
    obtain ⟨u, r, e⟩ := wr_rr_ne s c k
    unfold wr_rr
    by_cases h : wr_D c k < 6
    · rw [if_pos h]; exact ⟨_, _, rfl⟩
    · rw [if_neg h]; exact ⟨u, r, e⟩
theorem wr_kk_ok {G : Nat → Nat} {s t c : Nat} : ∀ k, wr_kk G s t c k = true → wr_ok G s t (wr_rr s c k) = true
  | 0, _ => wr_ok_1.2 rfl
  | k + 1, h => by
    obtain ⟨u, r, e⟩ := wr_rr_ne s c k
    have ih := wr_kk_ok (G := G) (s := s) (t := t) (c := c) k
    unfold wr_kk at h
    unfold wr_rr
    by_cases z : wr_D c k < 6
    · rw [if_pos z] at h ⊢
      rw [e] at ih h ⊢
      simp only [Bool.and_eq_true, decide_eq_true_eq, bne_iff_ne, Bool.not_eq_true', ne_eq, List.contains_eq_mem, decide_eq_false_iff_not] at h
      exact wr_ok_c.2 ⟨z, h.1.2.1, h.1.2.2, h.2, ih h.1.1.1⟩
    · rw [if_neg z] at h ⊢
      exact ih h
/-- the code of a list -/
def wr_e : List Nat → Nat
  | [_] => 2400
  | [a, _] => 2394 + a
  | [b, a, _] => 2352 + 7 * b + a
  | [c, b, a, _] => 2058 + 49 * c + 7 * b + a
  | [d, c, b, a, _] => 343 * d + 49 * c + 7 * b + a
  | _ => 0
theorem wr_D_c {c : Nat} (hc : c < 2401) : c = 343 * wr_D c 3 + 49 * wr_D c 2 + 7 * wr_D c 1 + wr_D c 0 ∧ wr_D c 0 < 7 ∧ wr_D c 1 < 7 ∧ wr_D c 2 < 7 ∧ wr_D c 3 < 7 := by
  unfold wr_D
  simp only [Nat.reducePow]
  omega
theorem wr_D_a {a b c d : Nat} (ha : a < 7) (hb : b < 7) (hc : c < 7) (hd : d < 7) : wr_D (343 * d + 49 * c + 7 * b + a) 0 = a ∧ wr_D (343 * d + 49 * c + 7 * b + a) 1 = b ∧ wr_D (343 * d + 49 * c + 7 * b + a) 2 = c ∧ wr_D (343 * d + 49 * c + 7 * b + a) 3 = d := by
  unfold wr_D
  simp only [Nat.reducePow]
  omega
theorem wr_e_c {G : Nat → Nat} {s t c : Nat} (hc : c < 2401) (h : wr_kk G s t c 4 = true) : wr_e (wr_rr s c 4) = c := by
  obtain ⟨hq, q0, q1, q2, q3⟩ := wr_D_c hc
  simp only [wr_kk, wr_en] at h
  simp only [wr_rr] at h ⊢
  by_cases z0 : wr_D c 0 < 6 <;> by_cases z1 : wr_D c 1 < 6 <;> by_cases z2 : wr_D c 2 < 6 <;> by_cases z3 : wr_D c 3 < 6 <;>
    simp only [z0, z1, z2, z3, if_true, if_false, ite_true, ite_false, reduceIte] at h ⊢ <;>
    first
    | (show wr_e _ = _; simp only [wr_e]; omega)
    | (exfalso
       simp only [Bool.and_eq_true, Bool.not_eq_true', Bool.or_eq_false_iff, decide_eq_false_iff_not] at h
       omega)
theorem wr_e_r' {G : Nat → Nat} {s t : Nat} : ∀ (r : List Nat), wr_ok G s t r = true → r.length ≤ 5 → wr_e r < 2401 ∧ wr_rr s (wr_e r) 4 = r ∧ wr_kk G s t (wr_e r) 4 = true
  | [], h, _ => (Bool.false_ne_true h).elim
  | [u], h, _ => by
    have e := wr_ok_1.1 h
    subst e
    obtain ⟨w0, w1, w2, w3⟩ := wr_D_a (a := 6) (b := 6) (c := 6) (d := 6) (by omega) (by omega) (by omega) (by omega)
    have ee : wr_e [u] = 343 * 6 + 49 * 6 + 7 * 6 + 6 := by
      simp only [wr_e]
      try omega
    rw [ee]
    generalize hcc : 343 * 6 + 49 * 6 + 7 * 6 + 6 = cc at *
    refine ⟨by omega, ?_, ?_⟩
    · simp [wr_rr, w0, w1, w2, w3]
    · simp [wr_kk, wr_en, wr_rr, w0, w1, w2, w3]
  | [a, u], h, _ => by
    obtain ⟨a1, a2, a3, a4, ka⟩ := wr_ok_c.1 h
    have e := wr_ok_1.1 ka
    subst e
    have a5 : a ≠ 6 := by omega
    obtain ⟨w0, w1, w2, w3⟩ := wr_D_a (a := a) (b := 6) (c := 6) (d := 6) (by omega) (by omega) (by omega) (by omega)
    have ee : wr_e [a, u] = 343 * 6 + 49 * 6 + 7 * 6 + a := by
      simp only [wr_e]
      try omega
    rw [ee]
    generalize hcc : 343 * 6 + 49 * 6 + 7 * 6 + a = cc at *
    refine ⟨by omega, ?_, ?_⟩
    · simp [wr_rr, w0, w1, w2, w3, a1]
    · simp [wr_kk, wr_en, wr_rr, w0, w1, w2, w3, a1, a2, a3, a4, a5]
  | [b, a, u], h, _ => by
    obtain ⟨b1, b2, b3, b4, kb⟩ := wr_ok_c.1 h
    obtain ⟨a1, a2, a3, a4, ka⟩ := wr_ok_c.1 kb
    have e := wr_ok_1.1 ka
    subst e
    have a5 : a ≠ 6 := by omega
    have b5 : b ≠ 6 := by omega
    obtain ⟨w0, w1, w2, w3⟩ := wr_D_a (a := a) (b := b) (c := 6) (d := 6) (by omega) (by omega) (by omega) (by omega)
    have ee : wr_e [b, a, u] = 343 * 6 + 49 * 6 + 7 * b + a := by
      simp only [wr_e]
      try omega
    rw [ee]
    generalize hcc : 343 * 6 + 49 * 6 + 7 * b + a = cc at *
    refine ⟨by omega, ?_, ?_⟩
    · simp [wr_rr, w0, w1, w2, w3, a1, b1]
    · simp [wr_kk, wr_en, wr_rr, w0, w1, w2, w3, a1, a2, a3, a4, a5, b1, b2, b3, b4, b5]
  | [c, b, a, u], h, _ => by
    obtain ⟨c1, c2, c3, c4, kc⟩ := wr_ok_c.1 h
    obtain ⟨b1, b2, b3, b4, kb⟩ := wr_ok_c.1 kc
    obtain ⟨a1, a2, a3, a4, ka⟩ := wr_ok_c.1 kb
    have e := wr_ok_1.1 ka
    subst e
    have a5 : a ≠ 6 := by omega
    have b5 : b ≠ 6 := by omega
    have c5 : c ≠ 6 := by omega
    obtain ⟨w0, w1, w2, w3⟩ := wr_D_a (a := a) (b := b) (c := c) (d := 6) (by omega) (by omega) (by omega) (by omega)
    have ee : wr_e [c, b, a, u] = 343 * 6 + 49 * c + 7 * b + a := by
      simp only [wr_e]
      try omega
    rw [ee]
    generalize hcc : 343 * 6 + 49 * c + 7 * b + a = cc at *
    refine ⟨by omega, ?_, ?_⟩
    · simp [wr_rr, w0, w1, w2, w3, a1, b1, c1]
    · simp [wr_kk, wr_en, wr_rr, w0, w1, w2, w3, a1, a2, a3, a4, a5, b1, b2, b3, b4, b5, c1, c2, c3, c4, c5]
  | [d, c, b, a, u], h, _ => by
    obtain ⟨d1, d2, d3, d4, kd⟩ := wr_ok_c.1 h
    obtain ⟨c1, c2, c3, c4, kc⟩ := wr_ok_c.1 kd
    obtain ⟨b1, b2, b3, b4, kb⟩ := wr_ok_c.1 kc
    obtain ⟨a1, a2, a3, a4, ka⟩ := wr_ok_c.1 kb
    have e := wr_ok_1.1 ka
    subst e
    have a5 : a ≠ 6 := by omega
    have b5 : b ≠ 6 := by omega
    have c5 : c ≠ 6 := by omega
    have d5 : d ≠ 6 := by omega
    obtain ⟨w0, w1, w2, w3⟩ := wr_D_a (a := a) (b := b) (c := c) (d := d) (by omega) (by omega) (by omega) (by omega)
    have ee : wr_e [d, c, b, a, u] = 343 * d + 49 * c + 7 * b + a := by
      simp only [wr_e]
      try omega
    rw [ee]
    generalize hcc : 343 * d + 49 * c + 7 * b + a = cc at *
    refine ⟨by omega, ?_, ?_⟩
    · simp [wr_rr, w0, w1, w2, w3, a1, b1, c1, d1]
    · simp [wr_kk, wr_en, wr_rr, w0, w1, w2, w3, a1, a2, a3, a4, a5, b1, b2, b3, b4, b5, c1, c2, c3, c4, c5, d1, d2, d3, d4, d5]
  | _ :: _ :: _ :: _ :: _ :: _ :: _, _, hl => by simp only [List.length_cons] at hl; omega
theorem wr_e_r {G : Nat → Nat} {s t : Nat} (hs : s < 6) (ht : t < 6) (hst : s ≠ t) {r : List Nat} (h : wr_ok G s t r = true) : wr_e r < 2401 ∧ wr_rr s (wr_e r) 4 = r ∧ wr_kk G s t (wr_e r) 4 = true :=
  wr_e_r' r h (wr_ok_len hs ht hst h).2
theorem wr_Y_nd (G : Nat → Nat) (s t : Nat) {n : Nat} (hn : n ≤ 2401) : (wr_Y G s t n).Nodup := by
  unfold wr_Y
  refine List.pairwise_map.2 ?_
  refine List.Pairwise.imp_of_mem ?_ (List.Pairwise.filter _ (List.nodup_range (n := n)))
  intro a b ha hb hab e
  rw [List.mem_filter, List.mem_range] at ha hb
  have ea := wr_e_c (by omega) (Bool.and_eq_true_iff.1 ha.2).1
  have eb := wr_e_c (by omega) (Bool.and_eq_true_iff.1 hb.2).1
  exact hab (by rw [← ea, ← eb, e])
theorem wr_Y_w {G : Nat → Nat} {s t n : Nat} : ∀ r, r ∈ wr_Y G s t n → wr_w G s t r = true := by
  intro r hr
  unfold wr_Y at hr
  obtain ⟨c, hc, e⟩ := List.mem_map.1 hr
  rw [List.mem_filter, List.mem_range] at hc
  obtain ⟨h1, h2⟩ := Bool.and_eq_true_iff.1 hc.2
  unfold wr_w
  rw [← e, wr_kk_ok 4 h1, h2]; rfl
theorem wr_Y_all {G : Nat → Nat} {s t : Nat} (hs : s < 6) (ht : t < 6) (hst : s ≠ t) : ∀ r, r ∈ wr_Y G s t 2401 ↔ wr_w G s t r = true := by
  intro r
  constructor
  · exact wr_Y_w r
  · intro h
    obtain ⟨h1, h2⟩ := Bool.and_eq_true_iff.1 h
    obtain ⟨e1, e2, e3⟩ := wr_e_r hs ht hst h1
    refine List.mem_map.2 ⟨wr_e r, List.mem_filter.2 ⟨List.mem_range.2 e1, ?_⟩, e2⟩
    unfold wr_cd
    rw [e2, e3, h2]; rfl
theorem wr_Y_65 {G : Nat → Nat} {s t n : Nat} (hs : s < 6) (ht : t < 6) (hst : s ≠ t) (hn : n ≤ 2401) : (wr_Y G s t n).length ≤ 65 :=
  wr_65 hs ht hst (wr_Y_nd G s t hn) (fun r hr => (Bool.and_eq_true_iff.1 (wr_Y_w r hr)).1)
theorem wr_Y_y {G : Nat → Nat} {s t n : Nat} (h : wr_cd G s t n = true) : wr_Y G s t (n + 1) = wr_Y G s t n ++ [wr_rr s n 4] := by
  unfold wr_Y
  rw [List.range_succ, List.filter_append, List.map_append, List.filter_cons_of_pos h]
  rfl
theorem wr_Y_n {G : Nat → Nat} {s t n : Nat} (h : ¬ wr_cd G s t n = true) : wr_Y G s t (n + 1) = wr_Y G s t n := by
  unfold wr_Y
  rw [List.range_succ, List.filter_append, List.map_append, List.filter_cons_of_neg h]
  simp
/-! a road taken away -/
def wr_tk (a b : Nat) : List Nat → Bool
  | v :: u :: r => (u == a && v == b) || wr_tk a b (u :: r)
  | _ => false
def wr_cut (G : Nat → Nat) (i : Nat) : Nat → Nat := fun j => if j = i then 0 else G j
theorem wr_cut_ok {G : Nat → Nat} {s t a b : Nat} (hs : s < 6) (hb : b < 6) : ∀ r, wr_ok (wr_cut G (a * 6 + b)) s t r = true ↔ wr_ok G s t r = true ∧ wr_tk a b r = false
  | [] => by simp [wr_ok]
  | [v] => by simp [wr_ok, wr_tk]
  | v :: u :: r => by
    rw [wr_ok_c, wr_ok_c, wr_cut_ok hs hb (u :: r)]
    have ht : wr_tk a b (v :: u :: r) = ((u == a && v == b) || wr_tk a b (u :: r)) := rfl
    have hg : ∀ hv : v < 6, (0 < wr_cut G (a * 6 + b) (u * 6 + v) ↔ 0 < G (u * 6 + v) ∧ ¬ (u = a ∧ v = b)) := by
      intro hv
      unfold wr_cut
      by_cases e : u * 6 + v = a * 6 + b
      · rw [if_pos e]
        have : u = a ∧ v = b := by omega
        simp [this]
      · rw [if_neg e]
        have : ¬ (u = a ∧ v = b) := fun z => e (by rw [z.1, z.2])
        simp [this]
    rw [ht, Bool.or_eq_false_iff]
    constructor
    · rintro ⟨h1, h2, h3, h4, h5, h6⟩
      have g := (hg h1).1 h4
      exact ⟨⟨h1, h2, h3, g.1, h5⟩, by simpa using g.2, h6⟩
    · rintro ⟨⟨h1, h2, h3, h4, h5⟩, h6, h7⟩
      exact ⟨h1, h2, h3, (hg h1).2 ⟨h4, by simpa using h6⟩, h5, h7⟩
theorem wr_cut_s {G : Nat → Nat} {a b : Nat} (hb : b < 6) : ∀ r, (∀ x, x ∈ r → x < 6) → wr_tk a b r = false → wr_s (wr_cut G (a * 6 + b)) r = wr_s G r
  | [], _, _ => rfl
  | [_], _, _ => rfl
  | v :: u :: r, h, z => by
    have ht : wr_tk a b (v :: u :: r) = ((u == a && v == b) || wr_tk a b (u :: r)) := rfl
    rw [ht, Bool.or_eq_false_iff] at z
    have ih := wr_cut_s (G := G) hb (u :: r) (fun x hx => h x (List.mem_cons_of_mem _ hx)) z.2
    have hv := h v List.mem_cons_self
    have : wr_cut G (a * 6 + b) (u * 6 + v) = G (u * 6 + v) := by
      unfold wr_cut
      rw [if_neg]
      intro e
      have : u = a ∧ v = b := by omega
      simp [this] at z
    show wr_s _ (u :: r) + _ = wr_s G (u :: r) + _
    rw [ih, this]
end
section
/-! Insertion into the sorted list; ranks on both sides; a road cut, on the sorted list. -/
/-- f holds R -/
def wr_H (f : Nat → Int32) (R : List Nat) : Prop := ∀ (j : Nat) (h : j < R.length), f j = nI R[j]
theorem wr_ins {R : List Nat} {x i : Nat} (hs : R.Pairwise (· ≤ ·)) (h1 : ∀ y, y ∈ R.drop i → x ≤ y) (h2 : ∀ y, y ∈ R.take i → y ≤ x) : (R.take i ++ x :: R.drop i).Pairwise (· ≤ ·) ∧ (R.take i ++ x :: R.drop i).Perm (x :: R) := by
  constructor
  · have ht : (R.take i ++ R.drop i).Pairwise (· ≤ ·) := by rw [List.take_append_drop]; exact hs
    rw [List.pairwise_append] at ht ⊢
    refine ⟨ht.1, List.pairwise_cons.2 ⟨h1, ht.2.1⟩, ?_⟩
    intro a ha b hb
    rcases List.mem_cons.1 hb with e | e
    · rw [e]; exact h2 a ha
    · exact ht.2.2 a ha b e
  · have := List.perm_middle (a := x) (l₁ := R.take i) (l₂ := R.drop i)
    rw [List.take_append_drop] at this
    exact this
/-- the facts that the order of two ways rests on -/
theorem wr_K_ne {G : Nat → Nat} {s t : Nat} (hs : s < 6) (ht : t < 6) (hst : s ≠ t) {a b : List Nat} (ha : wr_ok G s t a = true) (hb : wr_ok G s t b = true) (ne : a ≠ b) :
    ∃ i, i ≤ a.length ∧ i ≤ b.length ∧ i < 6 ∧ (∀ j, j < i → wr_p (t :: a) j = wr_p (t :: b) j) ∧ wr_p (t :: a) i ≠ wr_p (t :: b) i ∧
      (wr_K G (t :: a) < wr_K G (t :: b) ↔ (wr_s G (t :: a) < wr_s G (t :: b) ∨ (wr_s G (t :: a) = wr_s G (t :: b) ∧ wr_p (t :: a) i < wr_p (t :: b) i))) ∧ wr_K G (t :: a) ≠ wr_K G (t :: b) := by
  obtain ⟨i, h1, h2, h3, h4⟩ := wr_lex (wr_ok_t hst a ha) (wr_ok_t hst b hb) ne
  have la := (wr_ok_len hs ht hst ha).2
  have i6 : i < 6 := by omega
  have pa : ∀ i, wr_p (t :: a) i < 8 := wr_p_lt (fun x hx => by
    rcases List.mem_cons.1 hx with e | e
    · omega
    · exact wr_ok_lt hs a ha x e)
  have pb : ∀ i, wr_p (t :: b) i < 8 := wr_p_lt (fun x hx => by
    rcases List.mem_cons.1 hx with e | e
    · omega
    · exact wr_ok_lt hs b hb x e)
  have ka := wr_k_b pa
  have kb := wr_k_b pb
  have k1 : wr_p (t :: a) i < wr_p (t :: b) i → wr_k (t :: a) < wr_k (t :: b) := wr_k_lt pa pb i6 h3
  have k2 : wr_p (t :: b) i < wr_p (t :: a) i → wr_k (t :: b) < wr_k (t :: a) := wr_k_lt pb pa i6 (fun j hj => (h3 j hj).symm)
  refine ⟨i, h1, h2, i6, h3, h4, ?_, ?_⟩
  · unfold wr_K
    generalize wr_s G (t :: a) = x at *
    generalize wr_s G (t :: b) = y at *
    generalize wr_k (t :: a) = z at *
    generalize wr_k (t :: b) = w at *
    generalize wr_p (t :: a) i = m at *
    generalize wr_p (t :: b) i = n at *
    rcases Nat.lt_trichotomy m n with l | l | l
    · have := k1 l; omega
    · exact absurd l h4
    · have := k2 l; omega
  · unfold wr_K
    generalize wr_s G (t :: a) = x at *
    generalize wr_s G (t :: b) = y at *
    generalize wr_k (t :: a) = z at *
    generalize wr_k (t :: b) = w at *
    rcases Nat.lt_trichotomy (wr_p (t :: a) i) (wr_p (t :: b) i) with l | l | l
    · have := k1 l; omega
    · exact absurd l h4
    · have := k2 l; omega
theorem wr_map_nd {G : Nat → Nat} {s t : Nat} (hs : s < 6) (ht : t < 6) (hst : s ≠ t) {W : List (List Nat)} (hn : W.Nodup) (h : ∀ r, r ∈ W → wr_ok G s t r = true) : (W.map (fun r => wr_K G (t :: r))).Nodup := by
  refine List.pairwise_map.2 (List.Pairwise.imp_of_mem ?_ hn)
  intro a b ha hb hab
  obtain ⟨_, _, _, _, _, _, _, z⟩ := wr_K_ne hs ht hst (h a ha) (h b hb) hab
  exact z
/-- R is the sorted list of the keys of the ways W -/
def wr_R (G : Nat → Nat) (t : Nat) (W : List (List Nat)) (R : List Nat) : Prop := R.Pairwise (· < ·) ∧ R.Perm (W.map (fun r => wr_K G (t :: r)))
/-- the reference's rank -/
def wr_rk (G : Nat → Nat) (t : Nat) (W : List (List Nat)) (r : List Nat) : Nat := W.countP (fun x => decide (wr_K G (t :: x) < wr_K G (t :: r)))
theorem wr_rk_k {G : Nat → Nat} {t : Nat} {W : List (List Nat)} {R : List Nat} (h : wr_R G t W R) {r : List Nat} {k : Nat} (hk : k < R.length) (e : R[k] = wr_K G (t :: r)) : wr_rk G t W r = k := by
  have h1 := wr_cnt R h.1 k hk
  rw [h.2.countP_eq, List.countP_map, e] at h1
  exact h1
theorem wr_rk_of {G : Nat → Nat} {t : Nat} {W : List (List Nat)} {R : List Nat} (h : wr_R G t W R) {r : List Nat} (hr : r ∈ W) : ∃ hk : wr_rk G t W r < R.length, R[wr_rk G t W r] = wr_K G (t :: r) := by
  have hm : wr_K G (t :: r) ∈ R := h.2.mem_iff.2 (List.mem_map.2 ⟨r, hr, rfl⟩)
  obtain ⟨k, hk, e⟩ := List.mem_iff_getElem.1 hm
  have z := wr_rk_k h hk e
  subst z
  exact ⟨hk, e⟩
/-- every rank has its way -/
theorem wr_rk_ex {G : Nat → Nat} {t : Nat} {W : List (List Nat)} {R : List Nat} (h : wr_R G t W R) {k : Nat} (hk : k < R.length) : ∃ w, ∃ hw : w < W.length, R[k] = wr_K G (t :: W[w]) ∧ wr_rk G t W W[w] = k := by
  have hm : R[k] ∈ W.map (fun r => wr_K G (t :: r)) := h.2.mem_iff.1 (List.getElem_mem hk)
  obtain ⟨r, hr, e⟩ := List.mem_map.1 hm
  obtain ⟨w, hw, ew⟩ := List.mem_iff_getElem.1 hr
  refine ⟨w, hw, ?_, ?_⟩
  · rw [ew]; exact e.symm
  · rw [ew]; exact wr_rk_k h hk e.symm
theorem wr_R_len {G : Nat → Nat} {t : Nat} {W : List (List Nat)} {R : List Nat} (h : wr_R G t W R) : R.length = W.length := by
  rw [h.2.length_eq, List.length_map]
end
section
/-! numbers and bits: the class's ints (wr_K), the reference's ints (wr_z) -/
theorem wr_bt (n i : Nat) (hi : i < 32) : bt (nI n) i = n.testBit i := by
  show (BitVec.ofNat 32 n).getLsbD i = _
  rw [BitVec.getLsbD_ofNat, decide_eq_true hi, Bool.true_and]
theorem wr_or (a b : Nat) : nI a ||| nI b = nI (a ||| b) := by
  apply b_ext
  intro i hi
  rw [b_or, wr_bt _ _ hi, wr_bt _ _ hi, wr_bt _ _ hi, Nat.testBit_or]
theorem wr_orA {k a : Nat} (b : Nat) (ha : a < 2 ^ k) : nI a ||| nI (b * 2 ^ k) = nI (a + b * 2 ^ k) := by
  have h := Nat.two_pow_add_eq_or_of_lt ha b
  rw [wr_or, Nat.or_comm, Nat.mul_comm b, ← h, Nat.add_comm]
theorem wr_put0 {A B v sh : Nat} (hsh : sh < 32) (hv : v < 8) (hB : B < 2 ^ sh) : (nI (2 ^ sh * (8 * A + 7) + B) &&& ((nI 7 <<< (nI sh &&& 31)) ^^^ (-1))) ||| (nI v <<< (nI sh &&& 31)) = nI (2 ^ sh * (8 * A + v) + B) := by
  apply b_ext
  intro i hi
  rw [b_or, b_and, b_xor, b_m1 i hi, b_shl sh hsh _ hi, b_shl sh hsh _ hi, wr_bt _ _ hi, wr_bt _ _ hi, wr_bt 7 (i - sh) (by omega), wr_bt v (i - sh) (by omega),
    Nat.testBit_two_pow_mul_add _ hB, Nat.testBit_two_pow_mul_add _ hB]
  by_cases h : i < sh
  · rw [if_pos h, if_pos h, decide_eq_false (by omega)]
    cases B.testBit i <;> rfl
  · rw [if_neg h, if_neg h, decide_eq_true (by omega)]
    generalize i - sh = j
    have e7 : (8 * A + 7).testBit j = if j < 3 then (7 : Nat).testBit j else A.testBit (j - 3) := Nat.testBit_two_pow_mul_add A (b := 7) (i := 3) (by decide) j
    have ev : (8 * A + v).testBit j = if j < 3 then v.testBit j else A.testBit (j - 3) := Nat.testBit_two_pow_mul_add A (b := v) (i := 3) hv j
    rw [e7, ev]
    by_cases l : j < 3
    · rw [if_pos l, if_pos l]
      have z : (7 : Nat).testBit j = true := (by decide : ∀ j, j < 3 → (7 : Nat).testBit j = true) j l
      rw [z]
      cases v.testBit j <;> rfl
    · rw [if_neg l, if_neg l]
      have p8 : 2 ^ 3 ≤ 2 ^ j := Nat.pow_le_pow_right (by decide) (by omega)
      have z7 : (7 : Nat).testBit j = false := Nat.testBit_lt_two_pow (by omega)
      have zv : v.testBit j = false := Nat.testBit_lt_two_pow (by omega)
      rw [z7, zv]
      cases A.testBit (j - 3) <;> rfl
theorem wr_put {n v sh : Nat} (hsh : sh < 32) (hv : v < 8) (h : n / 2 ^ sh % 8 = 7) : (nI n &&& ((nI 7 <<< (nI sh &&& 31)) ^^^ (-1))) ||| (nI v <<< (nI sh &&& 31)) = nI (n - 7 * 2 ^ sh + v * 2 ^ sh) := by
  have hB : n % 2 ^ sh < 2 ^ sh := Nat.mod_lt _ (Nat.two_pow_pos sh)
  have e1 : n = 2 ^ sh * (8 * (n / 2 ^ sh / 8) + 7) + n % 2 ^ sh := by
    have a := (Nat.div_add_mod n (2 ^ sh)).symm
    have b : 8 * (n / 2 ^ sh / 8) + 7 = n / 2 ^ sh := by omega
    rw [b]; exact a
  have e2 := wr_put0 (A := n / 2 ^ sh / 8) hsh hv hB
  rw [← e1] at e2
  rw [e2]
  refine congrArg nI ?_
  generalize n / 2 ^ sh / 8 = A at e1
  generalize n % 2 ^ sh = B at e1
  generalize 2 ^ sh = p at e1
  rw [Nat.mul_add] at e1 ⊢
  rw [Nat.mul_comm v p, Nat.mul_comm 7 p]
  omega
/-! the class's digits -/
def wr_d (n i : Nat) : Nat := n / 8 ^ (5 - i) % 8
theorem wr_sh : ∀ i, i < 6 → ((((15 : Int32) - 3 * nI i) &&& 31).toBitVec.smod 32).toNat = 3 * (5 - i) := by decide +kernel
theorem wr_shN : ∀ i, i < 6 → (15 : Int32) - 3 * nI i = nI (3 * (5 - i)) := by decide +kernel
theorem wr_8 (i : Nat) : 2 ^ (3 * i) = 8 ^ i := by rw [Nat.pow_mul]
theorem wr_pl {n i : Nat} (hn : n < 2 ^ 31) (hi : i < 6) : (nI n >>> (((15 : Int32) - 3 * nI i) &&& 31)) &&& 7 = nI (wr_d n i) := by
  rw [pk_shrN hn _ _ (wr_sh i hi), pk_andN (Nat.lt_of_le_of_lt (Nat.div_le_self _ _) (by omega)) 3 (by decide), wr_8]
  rfl
theorem wr_d_lt (n i : Nat) : wr_d n i < 8 := Nat.mod_lt _ (by omega)
theorem wr_d_K {G : Nat → Nat} {a : List Nat} (h : ∀ i, wr_p a i < 8) : ∀ i, i < 6 → wr_d (wr_K G a) i = wr_p a i := by
  have a0 := h 0; have a1 := h 1; have a2 := h 2; have a3 := h 3; have a4 := h 4; have a5 := h 5
  intro i hi
  unfold wr_d wr_K wr_k
  generalize wr_s G a = S
  have hc : i = 0 ∨ i = 1 ∨ i = 2 ∨ i = 3 ∨ i = 4 ∨ i = 5 := by omega
  rcases hc with e | e | e | e | e | e <;> subst e <;> simp only [Nat.reduceSub, Nat.reducePow] <;> omega
theorem wr_s_K {G : Nat → Nat} {a : List Nat} (h : ∀ i, wr_p a i < 8) : wr_K G a / 262144 = wr_s G a := by
  have := wr_k_b h
  unfold wr_K
  omega
theorem wr_K_lt {G : Nat → Nat} (hG : ∀ i, G i ≤ 20) {a : List Nat} (h : ∀ i, wr_p a i < 8) (hl : a.length ≤ 6) : wr_K G a < 2 ^ 25 := by
  have h1 := wr_k_b h
  have h2 := wr_s_b hG a
  unfold wr_K
  omega
theorem wr_k_c {v : Nat} {r : List Nat} (hl : r.length ≤ 5) : wr_k (v :: r) + 7 * 8 ^ (5 - r.length) = wr_k r + v * 8 ^ (5 - r.length) := by
  have g : wr_p r r.length = 7 := wr_p_ge r r.length (Nat.le_refl _)
  have e : ∀ i, wr_p (v :: r) i = if i = r.length then v else wr_p r i := fun i => rfl
  unfold wr_k
  rw [e 0, e 1, e 2, e 3, e 4, e 5]
  generalize r.length = L at *
  have hc : L = 0 ∨ L = 1 ∨ L = 2 ∨ L = 3 ∨ L = 4 ∨ L = 5 := by omega
  rcases hc with e | e | e | e | e | e <;> subst e <;> simp only [g, Nat.reduceSub, Nat.reducePow, Nat.reduceEqDiff, if_true, if_false, reduceIte, Nat.one_ne_zero, Nat.zero_ne_one] <;> omega
/-- one step on -/
theorem wr_K_c {G : Nat → Nat} {v u : Nat} {r : List Nat} (hp : ∀ i, wr_p (u :: r) i < 8) (hl : (u :: r).length ≤ 5) : wr_K G (v :: u :: r) = (wr_K G (u :: r) - 7 * 8 ^ (5 - (u :: r).length) + v * 8 ^ (5 - (u :: r).length)) + G (u * 6 + v) * 262144 := by
  have h := wr_k_c (v := v) hl
  have hd := wr_d_K (G := G) hp (u :: r).length (by omega)
  rw [wr_p_ge (u :: r) _ (Nat.le_refl _)] at hd
  unfold wr_d at hd
  have hs : wr_s G (v :: u :: r) = wr_s G (u :: r) + G (u * 6 + v) := rfl
  have hm : 7 * 8 ^ (5 - (u :: r).length) ≤ wr_K G (u :: r) := by
    have h1 := Nat.div_mul_le_self (wr_K G (u :: r)) (8 ^ (5 - (u :: r).length))
    have h2 : 7 ≤ wr_K G (u :: r) / 8 ^ (5 - (u :: r).length) := by
      clear h1
      generalize wr_K G (u :: r) / 8 ^ (5 - (u :: r).length) = m at hd
      omega
    exact Nat.le_trans (Nat.mul_le_mul_right _ h2) h1
  unfold wr_K at hm ⊢
  rw [hs]
  generalize 8 ^ (5 - (u :: r).length) = q at *
  generalize v * q = y at *
  generalize 7 * q = z at *
  omega
theorem wr_K_1 (G : Nat → Nat) {s : Nat} : wr_K G [s] = 262143 - 7 * 2 ^ 15 + s * 2 ^ 15 := by
  unfold wr_K wr_k
  have e0 : wr_p [s] 0 = s := rfl
  have e1 : wr_p [s] 1 = 7 := rfl
  have e2 : wr_p [s] 2 = 7 := rfl
  have e3 : wr_p [s] 3 = 7 := rfl
  have e4 : wr_p [s] 4 = 7 := rfl
  have e5 : wr_p [s] 5 = 7 := rfl
  have es : wr_s G [s] = 0 := rfl
  rw [e0, e1, e2, e3, e4, e5, es]
  omega
/-- the number of places of the int n -/
def wr_sz (n : Nat) : Nat → Nat
  | 0 => 0
  | i + 1 => if wr_d n i = 7 then wr_sz n i else wr_sz n i + 1
theorem wr_sz_a {n L : Nat} (h1 : ∀ i, i < L → wr_d n i ≠ 7) (h2 : ∀ i, L ≤ i → i < 6 → wr_d n i = 7) : ∀ i, i ≤ 6 → wr_sz n i = if i < L then i else L
  | 0, _ => by
    show 0 = _
    by_cases z : 0 < L
    · rw [if_pos z]
    · rw [if_neg z]; omega
  | i + 1, hi => by
    have ih := wr_sz_a h1 h2 i (by omega)
    show (if wr_d n i = 7 then wr_sz n i else wr_sz n i + 1) = _
    by_cases z : i < L
    · rw [if_neg (h1 i z), ih, if_pos z]
      by_cases y : i + 1 < L
      · rw [if_pos y]
      · rw [if_neg y]; omega
    · rw [if_pos (h2 i (by omega) (by omega)), ih, if_neg z, if_neg (by omega)]
theorem wr_sz_K {G : Nat → Nat} {a : List Nat} (h : ∀ x, x ∈ a → x < 6) (hl : a.length ≤ 6) : wr_sz (wr_K G a) 6 = a.length := by
  have hp := wr_p_lt h
  rw [wr_sz_a (L := a.length) (fun i hi => ?_) (fun i h1 h2 => ?_) 6 (Nat.le_refl _)]
  · by_cases z : 6 < a.length
    · omega
    · rw [if_neg z]
  · rw [wr_d_K hp i (by omega)]
    have := h _ (wr_p_mem a i hi)
    omega
  · rw [wr_d_K hp i h2, wr_p_ge a i h1]
/-- does the int come through v, take the road from a to b -/
theorem wr_th_K {G : Nat → Nat} {a : List Nat} (h : ∀ x, x ∈ a → x < 6) (hl : a.length ≤ 6) {v : Nat} (hv : v < 6) : (∃ i, i < 6 ∧ wr_d (wr_K G a) i = v) ↔ v ∈ a := by
  have hp := wr_p_lt h
  constructor
  · rintro ⟨i, hi, e⟩
    rw [wr_d_K hp i hi] at e
    rcases Nat.lt_or_ge i a.length with l | l
    · rw [← e]; exact wr_p_mem a i l
    · rw [wr_p_ge a i l] at e; omega
  · intro m
    obtain ⟨i, hi, e⟩ := wr_p_of_mem a v m
    exact ⟨i, by omega, by rw [wr_d_K hp i (by omega), e]⟩
theorem wr_tk_p : ∀ (l : List Nat) (a b : Nat), a < 6 → b < 6 → (wr_tk a b l = true ↔ ∃ i, i + 1 < l.length ∧ wr_p l i = a ∧ wr_p l (i + 1) = b)
  | [], a, b, _, _ => by
    constructor
    · intro h; exact (Bool.false_ne_true h).elim
    · rintro ⟨i, h, _⟩; exact absurd h (Nat.not_lt_zero _)
  | [v], a, b, _, _ => by
    constructor
    · intro h; exact (Bool.false_ne_true h).elim
    · rintro ⟨i, h, _⟩
      simp only [List.length_cons, List.length_nil] at h
      omega
  | v :: u :: r, a, b, ha, hb => by
    have ih := wr_tk_p (u :: r) a b ha hb
    have ht : wr_tk a b (v :: u :: r) = ((u == a && v == b) || wr_tk a b (u :: r)) := rfl
    rw [ht, Bool.or_eq_true, ih]
    have hu : wr_p (v :: u :: r) r.length = u := by rw [wr_p_tl v (u :: r) (by simp only [List.length_cons]; omega), wr_p_hd]
    have hv : wr_p (v :: u :: r) (r.length + 1) = v := wr_p_hd v (u :: r)
    constructor
    · rintro (h | ⟨i, h1, h2, h3⟩)
      · simp only [Bool.and_eq_true, beq_iff_eq] at h
        exact ⟨r.length, by simp only [List.length_cons]; omega, by rw [hu]; exact h.1, by rw [hv]; exact h.2⟩
      · have hl : (u :: r).length = r.length + 1 := rfl
        refine ⟨i, by simp only [List.length_cons] at h1 ⊢; omega, ?_, ?_⟩
        · rw [wr_p_tl v (u :: r) (by omega)]; exact h2
        · rw [wr_p_tl v (u :: r) (by omega)]; exact h3
    · rintro ⟨i, h1, h2, h3⟩
      have hl : (u :: r).length = r.length + 1 := rfl
      simp only [List.length_cons] at h1
      by_cases z : i = r.length
      · left
        rw [z, hu] at h2
        rw [z, hv] at h3
        simp only [Bool.and_eq_true, beq_iff_eq]
        exact ⟨h2, h3⟩
      · right
        rw [wr_p_tl v (u :: r) (by omega)] at h2
        rw [wr_p_tl v (u :: r) (by omega)] at h3
        exact ⟨i, by omega, h2, h3⟩
theorem wr_tk_K {G : Nat → Nat} {l : List Nat} (h : ∀ x, x ∈ l → x < 6) (hl : l.length ≤ 6) {a b : Nat} (ha : a < 6) (hb : b < 6) : (∃ i, i < 5 ∧ wr_d (wr_K G l) i = a ∧ wr_d (wr_K G l) (i + 1) = b) ↔ wr_tk a b l = true := by
  have hp := wr_p_lt h
  rw [wr_tk_p l a b ha hb]
  constructor
  · rintro ⟨i, hi, e1, e2⟩
    rw [wr_d_K hp i (by omega)] at e1
    rw [wr_d_K hp (i + 1) (by omega)] at e2
    refine ⟨i, ?_, e1, e2⟩
    rcases Nat.lt_or_ge (i + 1) l.length with z | z
    · exact z
    · rw [wr_p_ge l (i + 1) z] at e2; omega
  · rintro ⟨i, h1, h2, h3⟩
    exact ⟨i, by omega, by rw [wr_d_K hp i (by omega), h2], by rw [wr_d_K hp (i + 1) (by omega), h3]⟩
/-! the reference's ints -/
def wr_y : List Nat → Nat
  | [] => 0
  | v :: r => wr_y r + v * 16 ^ r.length
theorem wr_y_lt : ∀ (r : List Nat), (∀ x, x ∈ r → x < 6) → wr_y r < 16 ^ r.length
  | [], _ => by show 0 < 16 ^ 0; decide
  | v :: r, h => by
    have ih := wr_y_lt r (fun x hx => h x (List.mem_cons_of_mem _ hx))
    have hv := h v List.mem_cons_self
    show wr_y r + v * 16 ^ r.length < 16 ^ (r.length + 1)
    rw [Nat.pow_succ]
    generalize 16 ^ r.length = p at *
    have : v * p ≤ 5 * p := Nat.mul_le_mul_right _ (by omega)
    omega
theorem wr_y_d : ∀ (r : List Nat) (q i : Nat), (∀ x, x ∈ r → x < 6) → i < r.length → (wr_y r + q * 16 ^ r.length) / 16 ^ i % 16 = wr_p r i
  | [], _, i, _, h => absurd h (Nat.not_lt_zero i)
  | v :: r, q, i, h, hi => by
    have hr := fun x hx => h x (List.mem_cons_of_mem v hx)
    have hv := h v List.mem_cons_self
    have e : wr_y (v :: r) + q * 16 ^ (v :: r).length = wr_y r + (v + 16 * q) * 16 ^ r.length := by
      show wr_y r + v * 16 ^ r.length + q * 16 ^ (r.length + 1) = _
      rw [Nat.pow_succ, Nat.add_mul, Nat.add_assoc]
      congr 2
      rw [Nat.mul_comm 16 q, Nat.mul_assoc, Nat.mul_comm 16]
    rw [e]
    by_cases z : i = r.length
    · rw [z, wr_p_hd, Nat.add_mul_div_right _ _ (Nat.pow_pos (by decide)), Nat.div_eq_of_lt (wr_y_lt r hr)]
      omega
    · have hi' : i < r.length + 1 := hi
      rw [wr_p_tl v r z]
      exact wr_y_d r _ i hr (by omega)
def wr_z (t : Nat) (r : List Nat) : Nat := if r.length < 5 then wr_y (t :: r) + 15 * 16 ^ (t :: r).length else wr_y (t :: r)
theorem wr_z_d {t : Nat} {r : List Nat} (h : ∀ x, x ∈ t :: r → x < 6) {i : Nat} (hi : i < (t :: r).length) : wr_z t r / 16 ^ i % 16 = wr_p (t :: r) i := by
  unfold wr_z
  by_cases z : r.length < 5
  · rw [if_pos z]; exact wr_y_d (t :: r) 15 i h hi
  · rw [if_neg z]
    have := wr_y_d (t :: r) 0 i h hi
    rw [Nat.zero_mul, Nat.add_zero] at this
    exact this
theorem wr_z_lt {t : Nat} {r : List Nat} (h : ∀ x, x ∈ t :: r → x < 6) (hl : r.length ≤ 5) : wr_z t r < 2 ^ 24 := by
  have h1 := wr_y_lt (t :: r) h
  have e : (t :: r).length = r.length + 1 := rfl
  rw [e] at h1
  unfold wr_z
  rw [e]
  generalize r.length = L at *
  have hc : L = 0 ∨ L = 1 ∨ L = 2 ∨ L = 3 ∨ L = 4 ∨ L = 5 := by omega
  rcases hc with e | e | e | e | e | e <;> subst e <;> simp only [Nat.reduceAdd, Nat.reducePow, Nat.reduceLT, if_true, if_false, reduceIte] at h1 ⊢ <;> omega
theorem wr_s4 : ∀ i, i < 6 → (((4 : Int32) * nI i &&& 31).toBitVec.smod 32).toNat = 4 * i := by decide +kernel
theorem wr_s44 : ∀ i, i < 5 → (((4 : Int32) * nI i + 4 &&& 31).toBitVec.smod 32).toNat = 4 * (i + 1) := by decide +kernel
theorem wr_16 (i : Nat) : 2 ^ (4 * i) = 16 ^ i := by rw [Nat.pow_mul]
theorem wr_dg {n i : Nat} (hn : n < 2 ^ 31) (hi : i < 6) : (nI n >>> ((4 : Int32) * nI i &&& 31)) &&& 15 = nI (n / 16 ^ i % 16) := by
  rw [pk_shrN hn _ _ (wr_s4 i hi), pk_andN (Nat.lt_of_le_of_lt (Nat.div_le_self _ _) (by omega)) 4 (by decide), wr_16]
theorem wr_yc {v : Nat} {r : List Nat} (hv : v < 6) (h : ∀ x, x ∈ r → x < 6) (hl : r.length < 6) : nI (wr_y r) ||| (nI v <<< ((4 : Int32) * nI r.length &&& 31)) = nI (wr_y (v :: r)) := by
  have hb := wr_y_lt r h
  have hp : 16 ^ r.length ≤ 16 ^ 5 := Nat.pow_le_pow_right (by decide) (by omega)
  have hm : v * 16 ^ r.length ≤ 6 * 16 ^ 5 := Nat.mul_le_mul (by omega) hp
  rw [pk_shlN _ _ (wr_s4 _ hl) (by rw [wr_16]; omega), wr_orA v (by rw [wr_16]; exact hb), wr_16]
  rfl
theorem wr_ye {t : Nat} {r : List Nat} (h : ∀ x, x ∈ t :: r → x < 6) (hl : r.length < 5) : nI (wr_y (t :: r)) ||| ((15 : Int32) <<< ((4 : Int32) * nI r.length + 4 &&& 31)) = nI (wr_z t r) := by
  have hb := wr_y_lt (t :: r) h
  have e : (t :: r).length = r.length + 1 := rfl
  have hp : 16 ^ (r.length + 1) ≤ 16 ^ 5 := Nat.pow_le_pow_right (by decide) (by omega)
  have h15 : (15 : Int32) = nI 15 := by decide +kernel
  rw [h15, pk_shlN _ _ (wr_s44 _ hl) (by rw [wr_16]; omega), wr_orA 15 (by rw [wr_16]; exact hb), wr_16]
  unfold wr_z
  rw [if_pos hl]
  rfl
/-- the set of the places that are used -/
def wr_U (t : Nat) (r : List Nat) (U : Nat) : Prop := U < 64 ∧ ∀ j, j < 6 → U.testBit j = (decide (j = t) || r.contains j)
theorem wr_U_1 {s t : Nat} (hs : s < 6) (ht : t < 6) : wr_U t [s] (2 ^ s ||| 2 ^ t) := by
  refine ⟨Nat.or_lt_two_pow (n := 6) (Nat.pow_lt_pow_right (by decide) hs) (Nat.pow_lt_pow_right (by decide) ht), fun j hj => ?_⟩
  rw [Nat.testBit_or, Nat.testBit_two_pow, Nat.testBit_two_pow, Bool.or_comm]
  have e1 : decide (t = j) = decide (j = t) := decide_eq_decide.2 eq_comm
  have e2 : decide (s = j) = List.contains [s] j := by
    rw [List.contains_eq_mem]
    exact decide_eq_decide.2 (by rw [List.mem_singleton]; exact eq_comm)
  rw [e1, e2]
theorem wr_U_c {v t : Nat} {r : List Nat} {U : Nat} (hv : v < 6) (h : wr_U t r U) : wr_U t (v :: r) (U ||| 2 ^ v) := by
  refine ⟨Nat.or_lt_two_pow (n := 6) h.1 (Nat.pow_lt_pow_right (by decide) hv), fun j hj => ?_⟩
  rw [Nat.testBit_or, Nat.testBit_two_pow, h.2 j hj, Bool.or_assoc]
  congr 1
  rw [List.contains_eq_mem, List.contains_eq_mem]
  by_cases e : v = j
  · subst e; simp
  · have : ¬ j = v := fun z => e z.symm
    simp [e, this]
theorem wr_1l : ∀ v, v < 6 → (1 : Int32) <<< (nI v &&& 31) = nI (2 ^ v) := by decide +kernel
theorem wr_ub {U v : Nat} (hU : U < 64) (hv : v < 6) : (nI U >>> (nI v &&& 31)) &&& 1 = nI (U / 2 ^ v % 2) := by
  rw [pk_shrN (by omega) _ _ (s_l v (by omega)), pk_andN (Nat.lt_of_le_of_lt (Nat.div_le_self _ _) (by omega)) 1 (by decide)]
theorem wr_ut {U v : Nat} : U / 2 ^ v % 2 = 0 ↔ U.testBit v = false := by
  rw [Nat.testBit_eq_decide_div_mod_eq, decide_eq_false_iff_not]
  generalize U / 2 ^ v = z
  omega
end
section
/-! arrays that hold lists; the class's ranked list; answers as functions of the two lists -/
def wr_A {α : Type} (e : α → Int32) (f : Nat → Int32) (L : List α) : Prop := ∀ (j : Nat) (h : j < L.length), f j = e L[j]
theorem wr_A_nil {α : Type} (e : α → Int32) (f : Nat → Int32) : wr_A e f [] := fun j h => absurd h (Nat.not_lt_zero j)
theorem wr_A_push {α : Type} {e : α → Int32} {f : Nat → Int32} {L : List α} (h : wr_A e f L) (x : α) : wr_A e (upd f L.length (e x)) (L ++ [x]) := by
  intro j hj
  by_cases z : j < L.length
  · rw [pk_un (by omega), List.getElem_append_left z]; exact h j z
  · have hl : (L ++ [x]).length = L.length + 1 := by simp
    have hj' : j = L.length := by omega
    subst hj'
    rw [pk_us, List.getElem_concat_length rfl]
theorem wr_A_ins {f : Nat → Int32} {R : List Nat} {i x : Nat} (hi : i ≤ R.length) (h1 : ∀ (j : Nat) (hj : j < R.length), j < i → f j = nI R[j]) (h2 : ∀ (j : Nat) (hj : j < R.length), i ≤ j → f (j + 1) = nI R[j]) : wr_A nI (upd f i (nI x)) (R.take i ++ x :: R.drop i) := by
  intro j hj
  have hl : (R.take i).length = i := by rw [List.length_take]; omega
  have hlen : (R.take i ++ x :: R.drop i).length = R.length + 1 := by
    rw [List.length_append, hl, List.length_cons, List.length_drop]; omega
  rcases Nat.lt_trichotomy j i with l | l | l
  · rw [pk_un (by omega), List.getElem_append_left (by omega), List.getElem_take]
    exact h1 j (by omega) l
  · subst l
    have key : (R.take j ++ x :: R.drop j)[j]? = some x := by
      rw [List.getElem?_append_right (by omega), hl, Nat.sub_self]; rfl
    rw [List.getElem?_eq_getElem hj] at key
    rw [pk_us, Option.some.inj key]
  · obtain ⟨m, rfl⟩ : ∃ m, j = m + 1 := ⟨j - 1, by omega⟩
    have key : (R.take i ++ x :: R.drop i)[m + 1]? = R[m]? := by
      rw [List.getElem?_append_right (by omega), hl, show m + 1 - i = (m - i) + 1 from by omega, List.getElem?_cons_succ, List.getElem?_drop]
      congr 1; omega
    rw [List.getElem?_eq_getElem hj, List.getElem?_eq_getElem (by omega)] at key
    rw [pk_un (by omega), Option.some.inj key]
    exact h2 m (by omega) (by omega)
theorem wr_ct {α : Type} {L : List α} (p : α → Bool) {i : Nat} (h : i < L.length) : (L.take (i + 1)).countP p = (L.take i).countP p + if p L[i] = true then 1 else 0 := by
  rw [List.take_succ_eq_append_getElem h, List.countP_append, List.countP_singleton]
theorem wr_ct_le {α : Type} (L : List α) (p : α → Bool) (i : Nat) : (L.take i).countP p ≤ L.length := by
  refine Nat.le_trans List.countP_le_length ?_
  rw [List.length_take]; omega
/-- a way's trail -/
def wr_g (t : Nat) (r : List Nat) : Prop := (∀ x, x ∈ t :: r → x < 6) ∧ t ∉ r ∧ 1 ≤ r.length ∧ r.length ≤ 5
theorem wr_ok_g {G : Nat → Nat} {s t : Nat} (hs : s < 6) (ht : t < 6) (hst : s ≠ t) {r : List Nat} (h : wr_ok G s t r = true) : wr_g t r := by
  refine ⟨fun x hx => ?_, wr_ok_t hst r h, (wr_ok_len hs ht hst h).1, (wr_ok_len hs ht hst h).2⟩
  rcases List.mem_cons.1 hx with e | e
  · omega
  · exact wr_ok_lt hs r h x e
theorem wr_g_p {t : Nat} {r : List Nat} (h : wr_g t r) : ∀ i, wr_p (t :: r) i < 8 := wr_p_lt h.1
theorem wr_g_l {t : Nat} {r : List Nat} (h : wr_g t r) : (t :: r).length ≤ 6 := by
  have := h.2.2.2
  simp only [List.length_cons]; omega
theorem wr_g_K {G : Nat → Nat} (hG : ∀ i, G i ≤ 20) {t : Nat} {r : List Nat} (h : wr_g t r) : wr_K G (t :: r) < 2 ^ 25 := wr_K_lt hG (wr_g_p h) (wr_g_l h)
/-! the class: V the ways that have been found, each by its trail -/
def wr_v (G : Nat → Nat) (t : Nat) (r : List Nat) (i : Nat) : List (List Nat) := if t < i ∧ 0 < G (r.headD 0 * 6 + t) then [r] else []
/-- the sorted list of the keys of V, equal keys allowed -/
def wr_S (G : Nat → Nat) (t : Nat) (V : List (List Nat)) (R : List Nat) : Prop := R.Pairwise (· ≤ ·) ∧ R.Perm (V.map (fun r => wr_K G (t :: r)))
theorem wr_S_0 (G : Nat → Nat) (t : Nat) : wr_S G t [] [] := ⟨List.Pairwise.nil, List.Perm.refl _⟩
theorem wr_S_len {G : Nat → Nat} {t : Nat} {V : List (List Nat)} {R : List Nat} (h : wr_S G t V R) : R.length = V.length := by
  rw [h.2.length_eq, List.length_map]
theorem wr_S_i {G : Nat → Nat} {t : Nat} {V : List (List Nat)} {R : List Nat} (h : wr_S G t V R) {r : List Nat} {i : Nat} (h1 : ∀ y, y ∈ R.drop i → wr_K G (t :: r) ≤ y) (h2 : ∀ y, y ∈ R.take i → y ≤ wr_K G (t :: r)) : wr_S G t (V ++ [r]) (R.take i ++ wr_K G (t :: r) :: R.drop i) := by
  obtain ⟨a, b⟩ := wr_ins h.1 h1 h2
  refine ⟨a, b.trans ?_⟩
  rw [List.map_append]
  refine (List.Perm.cons _ h.2).trans ?_
  exact (List.perm_append_singleton _ _).symm
theorem wr_R_S {G : Nat → Nat} {t : Nat} {V W : List (List Nat)} {R : List Nat} (h : wr_S G t V R) (hn : (V.map (fun r => wr_K G (t :: r))).Nodup) (hp : V.Perm W) : wr_R G t W R := by
  have hnR : R.Nodup := h.2.nodup_iff.2 hn
  refine ⟨?_, h.2.trans (hp.map _)⟩
  exact (List.Pairwise.and h.1 hnR).imp (fun {a b} z => Nat.lt_of_le_of_ne z.1 z.2)
theorem wr_T_A {G : Nat → Nat} {s t : Nat} {T : List (List Nat)} {i : Nat} (h : wr_T G s t (T.take i) T) (hi : i < T.length) : T[i] ∉ T.take i := by
  have h1 : (T.take (i + 1)).Nodup := List.Nodup.sublist (List.take_sublist (i + 1) T) h.1
  rw [List.take_succ_eq_append_getElem hi, List.nodup_append] at h1
  intro m
  exact h1.2.2 _ m _ (List.mem_singleton.2 rfl) rfl
theorem wr_T_n {G : Nat → Nat} {s t : Nat} {T : List (List Nat)} {i : Nat} (h : wr_T G s t (T.take i) T) (hi : i < T.length) : wr_T G s t ((T ++ wr_x G t T[i] 6).take (i + 1)) (T ++ wr_x G t T[i] 6) := by
  have e : (T ++ wr_x G t T[i] 6).take (i + 1) = T.take i ++ [T[i]] := by
    rw [List.take_append_of_le_length (by omega), List.take_succ_eq_append_getElem hi]
  rw [e]
  exact wr_T_s h (List.getElem_mem hi) (wr_T_A h hi)
/-- the ways of the processed trails -/
def wr_f (G : Nat → Nat) (t : Nat) (A : List (List Nat)) : List (List Nat) := A.filter (fun r => decide (0 < G (r.headD 0 * 6 + t)))
theorem wr_f_s {G : Nat → Nat} {t : Nat} (ht : t < 6) (A : List (List Nat)) (r : List Nat) : wr_f G t (A ++ [r]) = wr_f G t A ++ wr_v G t r 6 := by
  unfold wr_f wr_v
  rw [List.filter_append]
  by_cases z : 0 < G (r.headD 0 * 6 + t)
  · rw [if_pos ⟨ht, z⟩, List.filter_cons_of_pos (by simpa using z)]; rfl
  · rw [if_neg (fun y => z y.2), List.filter_cons_of_neg (by simpa using z)]; rfl
theorem wr_f_Y {G : Nat → Nat} {s t : Nat} (hs : s < 6) (ht : t < 6) (hst : s ≠ t) {T : List (List Nat)} (h : wr_T G s t T T) : (wr_f G t T).Perm (wr_Y G s t 2401) := by
  refine (List.perm_ext_iff_of_nodup (List.Pairwise.filter _ h.1) (wr_Y_nd G s t (Nat.le_refl _))).2 (fun r => ?_)
  rw [wr_Y_all hs ht hst]
  unfold wr_w
  rw [List.mem_filter, Bool.and_eq_true]
  exact ⟨fun z => ⟨h.2.1 r z.1, z.2⟩, fun z => ⟨wr_T_all h r z.1, z.2⟩⟩
theorem wr_f_R {G : Nat → Nat} {s t : Nat} (hs : s < 6) (ht : t < 6) (hst : s ≠ t) {T : List (List Nat)} (h : wr_T G s t T T) {R : List Nat} (hS : wr_S G t (wr_f G t T) R) : wr_R G t (wr_Y G s t 2401) R := by
  refine wr_R_S hS (wr_map_nd hs ht hst (List.Pairwise.filter _ h.1) (fun r hr => h.2.1 r ?_)) (wr_f_Y hs ht hst h)
  exact (List.mem_filter.1 hr).1
/-! the ways of a call: s, t as given -/
def wr_V (G : Nat → Nat) (s t : Int32) (tn : Nat) (W : List (List Nat)) : Prop := (∃ i, i < 6 ∧ tn < 6 ∧ i ≠ tn ∧ s = nI i ∧ t = nI tn ∧ W = wr_Y G i tn 2401) ∨ ((∀ i j, i < 6 → j < 6 → s = nI i → t = nI j → i = j) ∧ W = [])
theorem wr_V_ex (G : Nat → Nat) (s t : Int32) : ∃ tn W, wr_V G s t tn W := by
  by_cases h : ∃ i j, i < 6 ∧ j < 6 ∧ i ≠ j ∧ s = nI i ∧ t = nI j
  · obtain ⟨i, j, h1, h2, h3, h4, h5⟩ := h
    exact ⟨j, _, Or.inl ⟨i, h1, h2, h3, h4, h5, rfl⟩⟩
  · refine ⟨0, [], Or.inr ⟨fun i j h1 h2 h4 h5 => ?_, rfl⟩⟩
    exact Classical.byContradiction (fun z => h ⟨i, j, h1, h2, z, h4, h5⟩)
theorem wr_V_g {G : Nat → Nat} {s t : Int32} {tn : Nat} {W : List (List Nat)} (h : wr_V G s t tn W) : ∀ r, r ∈ W → wr_g tn r := by
  rcases h with ⟨i, h1, h2, h3, _, _, e⟩ | ⟨_, e⟩
  · intro r hr
    rw [e] at hr
    exact wr_ok_g h1 h2 h3 (Bool.and_eq_true_iff.1 (wr_Y_w r hr)).1
  · intro r hr
    rw [e] at hr
    exact absurd hr List.not_mem_nil
theorem wr_V_65 {G : Nat → Nat} {s t : Int32} {tn : Nat} {W : List (List Nat)} (h : wr_V G s t tn W) : W.length ≤ 65 := by
  rcases h with ⟨i, h1, h2, h3, _, _, e⟩ | ⟨_, e⟩
  · rw [e]; exact wr_Y_65 h1 h2 h3 (Nat.le_refl _)
  · rw [e]; exact Nat.zero_le _
theorem wr_V_nd {G : Nat → Nat} {s t : Int32} {tn : Nat} {W : List (List Nat)} (h : wr_V G s t tn W) : W.Nodup := by
  rcases h with ⟨i, h1, h2, h3, _, _, e⟩ | ⟨_, e⟩
  · rw [e]; exact wr_Y_nd G i tn (Nat.le_refl _)
  · rw [e]; exact List.Pairwise.nil
/-- two ways of one call -/
theorem wr_V_lt {G : Nat → Nat} {s t : Int32} {tn : Nat} {W : List (List Nat)} (h : wr_V G s t tn W) {a b : List Nat} (ha : a ∈ W) (hb : b ∈ W) (ne : a ≠ b) :
    ∃ i, i ≤ a.length ∧ i ≤ b.length ∧ i < 6 ∧ (∀ j, j < i → wr_p (tn :: a) j = wr_p (tn :: b) j) ∧ wr_p (tn :: a) i ≠ wr_p (tn :: b) i ∧
      (wr_K G (tn :: a) < wr_K G (tn :: b) ↔ (wr_s G (tn :: a) < wr_s G (tn :: b) ∨ (wr_s G (tn :: a) = wr_s G (tn :: b) ∧ wr_p (tn :: a) i < wr_p (tn :: b) i))) ∧ wr_K G (tn :: a) ≠ wr_K G (tn :: b) := by
  rcases h with ⟨i, h1, h2, h3, _, _, e⟩ | ⟨_, e⟩
  · rw [e] at ha hb
    exact wr_K_ne h1 h2 h3 (Bool.and_eq_true_iff.1 (wr_Y_w a ha)).1 (Bool.and_eq_true_iff.1 (wr_Y_w b hb)).1 ne
  · rw [e] at ha
    exact absurd ha List.not_mem_nil
theorem wr_R_mem {G : Nat → Nat} {t : Nat} {W : List (List Nat)} {R : List Nat} (h : wr_R G t W R) {n : Nat} : n ∈ R ↔ ∃ r, r ∈ W ∧ wr_K G (t :: r) = n := by
  rw [h.2.mem_iff, List.mem_map]
theorem wr_R_cnt {G : Nat → Nat} {t : Nat} {W : List (List Nat)} {R : List Nat} (h : wr_R G t W R) (hg : ∀ r, r ∈ W → wr_g t r) (p : Nat → Bool) : R.countP (fun n => p (n / 262144)) = W.countP (fun r => p (wr_s G (t :: r))) := by
  rw [h.2.countP_eq, List.countP_map]
  refine List.countP_congr (fun r hr => ?_)
  show p (wr_K G (t :: r) / 262144) = true ↔ _
  rw [wr_s_K (wr_g_p (hg r hr))]
/-! a road cut -/
def wr_q (a b n : Nat) : Bool := (List.range 5).any (fun i => wr_d n i == a && wr_d n (i + 1) == b)
theorem wr_q_i {a b n : Nat} : wr_q a b n = true ↔ ∃ i, i < 5 ∧ wr_d n i = a ∧ wr_d n (i + 1) = b := by
  unfold wr_q
  rw [List.any_eq_true]
  constructor
  · rintro ⟨i, h1, h2⟩
    simp only [Bool.and_eq_true, beq_iff_eq] at h2
    exact ⟨i, List.mem_range.1 h1, h2.1, h2.2⟩
  · rintro ⟨i, h1, h2, h3⟩
    refine ⟨i, List.mem_range.2 h1, ?_⟩
    simp only [Bool.and_eq_true, beq_iff_eq]
    exact ⟨h2, h3⟩
theorem wr_q_K {G : Nat → Nat} {t : Nat} {r : List Nat} (h : wr_g t r) {a b : Nat} (ha : a < 6) (hb : b < 6) : wr_q a b (wr_K G (t :: r)) = wr_tk a b (t :: r) := by
  rw [Bool.eq_iff_iff, wr_q_i]
  exact wr_tk_K h.1 (wr_g_l h) ha hb
theorem wr_cut_w {G : Nat → Nat} {s t a b : Nat} (hs : s < 6) (ht : t < 6) (hb : b < 6) (r : List Nat) : wr_w (wr_cut G (a * 6 + b)) s t r = true ↔ wr_w G s t r = true ∧ wr_tk a b (t :: r) = false := by
  unfold wr_w
  rw [Bool.and_eq_true, Bool.and_eq_true, wr_cut_ok hs hb r, decide_eq_true_eq, decide_eq_true_eq]
  cases r with
  | nil =>
    constructor
    · rintro ⟨⟨z, _⟩, _⟩; exact (Bool.false_ne_true z).elim
    · rintro ⟨⟨z, _⟩, _⟩; exact (Bool.false_ne_true z).elim
  | cons u r =>
    have hk : wr_tk a b (t :: u :: r) = ((u == a && t == b) || wr_tk a b (u :: r)) := rfl
    have hg : 0 < wr_cut G (a * 6 + b) (u * 6 + t) ↔ 0 < G (u * 6 + t) ∧ ¬ (u = a ∧ t = b) := by
      unfold wr_cut
      by_cases e : u * 6 + t = a * 6 + b
      · rw [if_pos e]
        have : u = a ∧ t = b := by omega
        simp [this]
      · rw [if_neg e]
        have : ¬ (u = a ∧ t = b) := fun z => e (by rw [z.1, z.2])
        simp [this]
    show (_ ∧ 0 < wr_cut G (a * 6 + b) (u * 6 + t)) ↔ (_ ∧ 0 < G (u * 6 + t)) ∧ _
    rw [hk, Bool.or_eq_false_iff, hg]
    constructor
    · rintro ⟨⟨h1, h2⟩, h3, h4⟩
      exact ⟨⟨h1, h3⟩, by simpa using h4, h2⟩
    · rintro ⟨⟨h1, h2⟩, h3, h4⟩
      exact ⟨⟨h1, h4⟩, h2, by simpa using h3⟩
theorem wr_R_cut {G : Nat → Nat} {s t a b : Nat} (hs : s < 6) (ht : t < 6) (hst : s ≠ t) (ha : a < 6) (hb : b < 6) {R : List Nat} (h : wr_R G t (wr_Y G s t 2401) R) : wr_R (wr_cut G (a * 6 + b)) t (wr_Y (wr_cut G (a * 6 + b)) s t 2401) (R.filter (fun n => !wr_q a b n)) := by
  refine ⟨List.Pairwise.filter _ h.1, ?_⟩
  refine (List.Perm.filter _ h.2).trans ?_
  rw [List.filter_map]
  have hg : ∀ r, r ∈ wr_Y G s t 2401 → wr_g t r := fun r hr => wr_ok_g hs ht hst (Bool.and_eq_true_iff.1 (wr_Y_w r hr)).1
  have e1 : ((wr_Y G s t 2401).filter ((fun n => !wr_q a b n) ∘ fun r => wr_K G (t :: r))).Perm (wr_Y (wr_cut G (a * 6 + b)) s t 2401) := by
    refine (List.perm_ext_iff_of_nodup (List.Pairwise.filter _ (wr_Y_nd G s t (Nat.le_refl _))) (wr_Y_nd _ s t (Nat.le_refl _))).2 (fun r => ?_)
    rw [List.mem_filter, wr_Y_all (G := wr_cut G (a * 6 + b)) hs ht hst, wr_cut_w hs ht hb r]
    constructor
    · rintro ⟨h1, h2⟩
      refine ⟨(wr_Y_all hs ht hst r).1 h1, ?_⟩
      have h2' : (!wr_q a b (wr_K G (t :: r))) = true := h2
      rw [wr_q_K (hg r h1) ha hb] at h2'
      simpa using h2'
    · rintro ⟨h1, h2⟩
      have h1' := (wr_Y_all hs ht hst r).2 h1
      refine ⟨h1', ?_⟩
      show (!wr_q a b (wr_K G (t :: r))) = true
      rw [wr_q_K (hg r h1') ha hb, h2]; rfl
  have e2 : ((wr_Y G s t 2401).filter ((fun n => !wr_q a b n) ∘ fun r => wr_K G (t :: r))).map (fun r => wr_K G (t :: r)) = ((wr_Y G s t 2401).filter ((fun n => !wr_q a b n) ∘ fun r => wr_K G (t :: r))).map (fun r => wr_K (wr_cut G (a * 6 + b)) (t :: r)) := by
    refine List.map_congr_left (fun r hr => ?_)
    have hm := e1.mem_iff.1 hr
    have hw := ((wr_cut_w hs ht hb r).1 ((wr_Y_all hs ht hst r).1 hm)).2
    have hr' := (List.mem_filter.1 hr).1
    unfold wr_K
    rw [wr_cut_s hb (t :: r) (hg r hr').1 hw]
  rw [e2]
  exact e1.map _
theorem wr_flt0 {R : List Nat} {p : Nat → Bool} {k : Nat} (hk : k < R.length) (h : p R[k] = true) (h0 : ∀ (j : Nat) (hj : j < k), p (R[j]'(by omega)) = false) : (R.filter p)[0]? = some R[k] := by
  rw [← List.head?_eq_getElem?, List.head?_filter, List.find?_eq_some_iff_getElem]
  refine ⟨h, k, hk, rfl, fun j hj => ?_⟩
  rw [h0 j hj]; rfl
end
section
/-! the reference's codes, step by step -/
theorem wr_rr_y {s c k : Nat} (h : wr_D c k < 6) : wr_rr s c (k + 1) = wr_D c k :: wr_rr s c k := by
  show (if wr_D c k < 6 then (wr_D c k) :: wr_rr s c k else wr_rr s c k) = _
  rw [if_pos h]
theorem wr_rr_n {s c k : Nat} (h : ¬ wr_D c k < 6) : wr_rr s c (k + 1) = wr_rr s c k := by
  show (if wr_D c k < 6 then (wr_D c k) :: wr_rr s c k else wr_rr s c k) = _
  rw [if_neg h]
theorem wr_rr_lt {s c : Nat} (hs : s < 6) : ∀ k, ∀ x, x ∈ wr_rr s c k → x < 6
  | 0, x, h => by
    rw [List.mem_singleton.1 h]; exact hs
  | k + 1, x, h => by
    by_cases z : wr_D c k < 6
    · rw [wr_rr_y z] at h
      rcases List.mem_cons.1 h with e | e
      · omega
      · exact wr_rr_lt hs k x e
    · rw [wr_rr_n z] at h
      exact wr_rr_lt hs k x h
theorem wr_rr_len (s c : Nat) : ∀ k, 1 ≤ (wr_rr s c k).length ∧ (wr_rr s c k).length ≤ k + 1
  | 0 => ⟨Nat.le_refl _, Nat.le_refl _⟩
  | k + 1 => by
    have ih := wr_rr_len s c k
    by_cases z : wr_D c k < 6
    · rw [wr_rr_y z, List.length_cons]; omega
    · rw [wr_rr_n z]; omega
theorem wr_rr_hd {s c : Nat} (hs : s < 6) (k : Nat) : (wr_rr s c k).headD 0 < 6 := by
  obtain ⟨u, r, e⟩ := wr_rr_ne s c k
  have h := wr_rr_lt (c := c) hs k u (by rw [e]; exact List.mem_cons_self)
  rw [e]; exact h
theorem wr_s_c (G : Nat → Nat) (v : Nat) {r : List Nat} (h : 1 ≤ r.length) : wr_s G (v :: r) = wr_s G r + G (r.headD 0 * 6 + v) := by
  cases r with
  | nil => exact absurd h (by decide)
  | cons u r => rfl
theorem wr_dv (c k : Nat) : c / 7 ^ k / 7 = c / 7 ^ (k + 1) := by rw [Nat.div_div_eq_div_mul, Nat.pow_succ]
theorem wr_D_7 (c k : Nat) : wr_D c k < 7 := Nat.mod_lt _ (by omega)
/-- true and false as the machine has them -/
def wr_b (x : Bool) : Int32 := if x = true then 1 else 0
theorem wr_b_t {x : Bool} (h : x = true) : wr_b x = 1 := if_pos h
theorem wr_b_f {x : Bool} (h : ¬ x = true) : wr_b x = 0 := if_neg h
theorem wr_b_0 {x : Bool} : wr_b x = 0 ↔ ¬ x = true := by
  cases x
  · exact ⟨fun _ => by decide, fun _ => rfl⟩
  · exact ⟨fun z => absurd z (by decide), fun z => absurd rfl z⟩
theorem wr_kk_s {G : Nat → Nat} {s t c k : Nat} (h : wr_D c k < 6) : wr_kk G s t c (k + 1) = (wr_kk G s t c k && !wr_en c k && (wr_D c k != t && !(wr_rr s c k).contains (wr_D c k)) && decide (0 < G ((wr_rr s c k).headD 0 * 6 + wr_D c k))) := by
  show (if wr_D c k < 6 then _ else _) = _
  rw [if_pos h]
theorem wr_kk_n {G : Nat → Nat} {s t c k : Nat} (h : ¬ wr_D c k < 6) : wr_kk G s t c (k + 1) = wr_kk G s t c k := by
  show (if wr_D c k < 6 then _ else _) = _
  rw [if_neg h]
theorem wr_kk_i {G : Nat → Nat} {s t c k U : Nat} (h : wr_D c k < 6) (hU : wr_U t (wr_rr s c k) U) : wr_kk G s t c (k + 1) = true ↔ (wr_kk G s t c k = true ∧ ¬ wr_en c k = true ∧ U / 2 ^ wr_D c k % 2 = 0 ∧ 0 < G ((wr_rr s c k).headD 0 * 6 + wr_D c k)) := by
  rw [wr_kk_s h, wr_ut, hU.2 _ h]
  simp only [Bool.and_eq_true, decide_eq_true_eq, bne_iff_ne, Bool.not_eq_true', ne_eq, Bool.or_eq_false_iff, decide_eq_false_iff_not, Bool.not_eq_true]
  constructor
  · rintro ⟨⟨⟨a, b⟩, c, d⟩, e⟩; exact ⟨a, b, ⟨c, d⟩, e⟩
  · rintro ⟨a, b, ⟨c, d⟩, e⟩; exact ⟨⟨⟨a, b⟩, c, d⟩, e⟩
theorem wr_en_i {c k : Nat} : wr_en c (k + 1) = true ↔ (wr_en c k = true ∨ wr_D c k = 6) := by
  show (wr_en c k || decide (wr_D c k = 6)) = true ↔ _
  rw [Bool.or_eq_true, decide_eq_true_eq]
end
section
/-! the class's small methods -/
theorem wr_nm1 {g : Nat} (hg : g < 2 ^ 31) : ¬ nI g = -1 := by
  intro h
  have := nI_pos hg
  rw [h] at this
  exact this (by decide)
theorem wr_X_place {post : Int32 → Prop} {a : Int32} (h1 : ∀ i, i < 6 → a = nI i → post 1) (h0 : (∀ i, i < 6 → a ≠ nI i) → post 0) : wpX_isPlace post a := by
  by_cases z : a < 0
  · refine br_t z (h0 (fun i hi e => ?_))
    rw [e] at z
    exact nI_pos (by omega) z
  · obtain ⟨j, hj, e⟩ := nI_of z
    refine br_f z ?_
    refine pk_le 6 j (fun l => h0 (fun i hi e' => ?_)) (fun l => h1 j l e) rfl e (by omega) hj
    rw [e, nI_eq hj (by omega)] at e'
    omega
theorem wr_X_pair {post : Int32 → Prop} {a b : Int32} (h1 : ∀ i j, i < 6 → j < 6 → i ≠ j → a = nI i → b = nI j → post 1) (h0 : (∀ i j, i < 6 → j < 6 → a = nI i → b = nI j → i = j) → post 0) : wpX_isPair post a b := by
  refine wr_X_place (fun i hi ei => ?_) (fun no => ?_)
  · refine br_f (by decide) ?_
    refine wr_X_place (fun j hj ej => ?_) (fun no => ?_)
    · refine br_f (by decide) ?_
      refine pk_eq i j (fun e => h0 (fun i' j' h1 h2 h3 h4 => ?_)) (fun e => h1 i j hi hj e ei ej) ei ej
      rw [ei, nI_eq (by omega) (by omega)] at h3
      rw [ej, nI_eq (by omega) (by omega)] at h4
      omega
    · exact br_t rfl (h0 (fun i' j' _ h2 _ h4 => absurd h4 (no j' h2)))
  · exact br_t rfl (h0 (fun i' j' h1 _ h3 _ => absurd h3 (no i' h1)))
theorem wr_ixN {a b : Nat} : nI a * 6 + nI b = nI (a * 6 + b) := by
  show nI a * nI 6 + nI b = _
  rw [pk_mul, nI_add]
theorem wr_X_road {post : Int32 → Prop} {G : Nat → Nat} {tc rc : Int32} {tr rk : Nat → Int32} (hG : ∀ i, G i ≤ 20) {a b : Nat} (ha : a < 6) (hb : b < 6)
    (h0 : (a = b ∨ G (a * 6 + b) = 0) → post (-1)) (h1 : a ≠ b → 0 < G (a * 6 + b) → post (nI (G (a * 6 + b)))) : wpX_road post (tc, rc, (fun i => nI (G i)), tr, rk) (nI a) (nI b) := by
  unfold wpX_road
  dsimp only
  refine wr_X_pair (fun i j hi hj hij ei ej => ?_) (fun no => ?_)
  · rw [nI_eq (by omega) (by omega)] at ei ej
    subst ei ej
    refine br_f (by decide) ⟨?_, ?_⟩
    · rw [wr_ixN]; exact vp_in_nI (by omega) (by omega)
    · refine nm_r (e' := nI (G (a * 6 + b))) ?_ ?_
      · rw [wr_ixN, nI_clamp (by omega)]
      · have hg := hG (a * 6 + b)
        exact pk_eq (G (a * 6 + b)) 0 (fun e => h0 (Or.inr e)) (fun e => h1 hij (by omega)) rfl rfl (by omega) (by omega)
  · exact br_t rfl (h0 (Or.inl (no a b ha hb rfl rfl)))
theorem wr_X_roadN {post : Int32 → Prop} {u : SX} {a b : Int32} (no : ∀ i j, i < 6 → j < 6 → a = nI i → b = nI j → i = j) (h : post (-1)) : wpX_road post u a b := by
  obtain ⟨tc, rc, rl, tr, rk⟩ := u
  unfold wpX_road
  dsimp only
  refine wr_X_pair (fun i j hi hj hij ei ej => absurd (no i j hi hj ei ej) hij) (fun _ => ?_)
  exact br_t rfl h
theorem wr_X_pl {post : Int32 → Prop} {n i : Nat} {x y : Int32} (hn : n < 2 ^ 31) (hi : i < 6) (hx : x = nI i) (h : post (nI (wr_d n i))) (hy : y = nI n := by rfl) : wpX_placeAt post y x := by
  subst hx hy
  unfold wpX_placeAt
  rw [wr_pl hn hi]
  exact h
theorem wr_X_sz {post : Int32 → Prop} {n : Nat} {x : Int32} (hx : x = nI n) (hn : n < 2 ^ 31) (h : post (nI (wr_sz n 6))) : wpX_sizeOf post x := by
  subst hx
  refine loop_0 (fun m i s => wX_sizeOf_4 post (nI n) m s (nI i)) (fun i s => s = nI (wr_sz n i)) 6 (nI 0) rfl ?_ ?_
  · intro m s hs
    subst hs
    exact br_t (by decide) h
  · intro m i s hi hs k
    subst hs
    refine br_f (nI_ge (b := 6) hi (by decide)) (wr_X_pl hn hi rfl ?_)
    have hd := wr_d_lt n i
    refine pk_eq (wr_d n i) 7 (fun e => ?_) (fun e => ?_) rfl rfl (by omega) (by omega)
    · refine nm_r (nI_1 i) (k _ ?_)
      show _ = nI (if wr_d n i = 7 then wr_sz n i else wr_sz n i + 1)
      rw [if_pos e]
    · refine nm_r (nI_1 _) (nm_r (nI_1 i) (k _ ?_))
      show _ = nI (if wr_d n i = 7 then wr_sz n i else wr_sz n i + 1)
      rw [if_neg e]
theorem wr_X_ct {post : Int32 → Prop} {n v : Nat} {x : Int32} (hx : x = nI n) (hn : n < 2 ^ 31) (hv : v < 6) (h1 : (∃ i, i < 6 ∧ wr_d n i = v) → post 1) (h0 : (¬ ∃ i, i < 6 ∧ wr_d n i = v) → post 0) : wpX_comesThrough post x (nI v) := by
  subst hx
  refine loop_0 (fun m i (_ : Unit) => wX_comesThrough_2 post (nI n) (nI v) m (nI i)) (fun i _ => ∀ j, j < i → wr_d n j ≠ v) 6 () lt_0 ?_ ?_
  · intro m s hs
    exact br_t (by decide) (h0 (fun ⟨i, hi, e⟩ => hs i hi e))
  · intro m i s hi hs k
    refine br_f (nI_ge (b := 6) hi (by decide)) (wr_X_pl hn hi rfl ?_)
    have hd := wr_d_lt n i
    refine pk_eq (wr_d n i) v (fun e => h1 ⟨i, hi, e⟩) (fun e => ?_) rfl rfl (by omega) (by omega)
    exact nm_r (nI_1 i) (k () (lt_s hs e))
theorem wr_X_tk {post : Int32 → Prop} {n a b : Nat} {x : Int32} (hx : x = nI n) (hn : n < 2 ^ 31) (ha : a < 6) (hb : b < 6) (h1 : wr_q a b n = true → post 1) (h0 : wr_q a b n = false → post 0) : wpX_takesRoad post x (nI a) (nI b) := by
  subst hx
  refine loop_0 (fun m i (_ : Unit) => wX_takesRoad_2 post (nI n) (nI a) (nI b) m (nI i)) (fun i _ => ∀ j, j < i → ¬ (wr_d n j = a ∧ wr_d n (j + 1) = b)) 5 () lt_0 ?_ ?_
  · intro m s hs
    refine br_t (by decide) (h0 ?_)
    rw [← Bool.not_eq_true]
    intro z
    obtain ⟨i, hi, e⟩ := wr_q_i.1 z
    exact hs i hi e
  · intro m i s hi hs k
    have hd := wr_d_lt n i
    have hd' := wr_d_lt n (i + 1)
    refine br_f (nI_ge (b := 5) hi (by decide)) (wr_X_pl hn (by omega) rfl ?_)
    refine pk_eq (wr_d n i) a (fun e => ?_) (fun e => ?_) rfl rfl (by omega) (by omega)
    · refine wr_X_pl hn (i := i + 1) (by omega) (nI_1 i) ?_
      refine pk_eq (wr_d n (i + 1)) b (fun e' => h1 (wr_q_i.2 ⟨i, hi, e, e'⟩)) (fun e' => ?_) rfl rfl (by omega) (by omega)
      exact nm_r (nI_1 i) (k () (lt_s hs (fun z => e' z.2)))
    · exact nm_r (nI_1 i) (k () (lt_s hs (fun z => e z.1)))
theorem wr_X_wp {post : Int32 → Prop} {n L v : Nat} (hL : L < 6) (hv : v < 8) (hd : wr_d n L = 7) (h : post (nI (n - 7 * 8 ^ (5 - L) + v * 8 ^ (5 - L)))) : wpX_withPlace post (nI n) (nI L) (nI v) := by
  refine nm_r (wr_shN L hL) ?_
  have e := wr_put (n := n) (v := v) (sh := 3 * (5 - L)) (by omega) hv (by rw [wr_8]; exact hd)
  rw [wr_8] at e
  exact (congrArg post e).mpr h
theorem wr_X_at {post : SX → Prop} {L : Nat} {rc : Int32} {rl tr rk : Nat → Int32} {p0 : Int32} (hL : L < 65) (h : post (nI (L + 1), rc, rl, upd tr L p0, rk)) : wpX_addTrail post (nI L, rc, rl, tr, rk) p0 := by
  refine br_f (nI_ge (b := 65) hL (by decide)) ⟨vp_in_nI hL (by decide), ?_⟩
  refine nm_r (e' := upd tr L p0) (by rw [nI_clamp (by omega)]) ?_
  exact nm_r (nI_1 L) h
theorem wr_X_51 {post : SX → Prop} {tc : Int32} {rl tr f : Nat → Int32} {R : List Nat} {x i : Nat} (hl : R.length < 65) (hi : i ≤ R.length) (h : post (tc, nI (R.length + 1), rl, tr, upd f i (nI x))) : wX_addRanked_51 post (nI x) (nI i) tc (nI R.length) rl tr f := by
  refine ⟨vp_in_nI (by omega) (by decide), ?_⟩
  refine nm_r (e' := upd f i (nI x)) (by rw [nI_clamp (by omega)]) ?_
  exact nm_r (nI_1 R.length) h
theorem wr_X_ar {post : SX → Prop} {tc : Int32} {rl tr rk : Nat → Int32} {R : List Nat} {x : Nat} (hl : R.length < 65) (hA : wr_A nI rk R) (hb : ∀ y, y ∈ R → y < 2 ^ 31) (hx : x < 2 ^ 31) (hs : R.Pairwise (· ≤ ·))
    (h : ∀ i rk', (∀ y, y ∈ R.drop i → x ≤ y) → (∀ y, y ∈ R.take i → y ≤ x) → wr_A nI rk' (R.take i ++ x :: R.drop i) → post (tc, nI (R.length + 1), rl, tr, rk')) : wpX_addRanked post (tc, nI R.length, rl, tr, rk) (nI x) := by
  have hsg := List.pairwise_iff_getElem.1 hs
  refine br_t (nI_lt (b := 65) hl (by decide)) ⟨R.length + 1, ?_⟩
  refine pk_loopD (fun m i f => wX_addRanked_15 post (nI x) tc (nI R.length) m (nI i) rl tr f)
    (fun i f => i ≤ R.length ∧ (∀ (j : Nat) (hj : j < R.length), j < i → f j = nI R[j]) ∧ (∀ (j : Nat) (hj : j < R.length), i ≤ j → f (j + 1) = nI R[j]) ∧ (∀ (j : Nat) (hj : j < R.length), i ≤ j → x ≤ R[j])) ?_ ?_ R.length rk ⟨Nat.le_refl _, fun j hj _ => hA j hj, fun j hj l => by omega, fun j hj l => by omega⟩
  · rintro n f ⟨h1, h2, h3, h4⟩
    refine br_t (by decide) (wr_X_51 hl h1 (h 0 _ (fun y hy => ?_) (fun y hy => ?_) (wr_A_ins h1 h2 h3)))
    · obtain ⟨j, hj, e⟩ := List.mem_iff_getElem.1 hy
      rw [List.drop_zero] at hj
      rw [← e]
      exact h4 j hj (by omega)
    · rw [List.take_zero] at hy
      exact absurd hy List.not_mem_nil
  · rintro n i f ⟨h1, h2, h3, h4⟩ k
    have hi : i < R.length := h1
    have e1 : nI (i + 1) - 1 = nI i := nI_pred i
    have hc : (nI (i + 1) - 1).toNatClampNeg = i := by rw [e1, nI_clamp (by omega)]
    have hv : vp_in (nI (i + 1) - 1) 65 := by rw [e1]; exact vp_in_nI (by omega) (by decide)
    have hf : f (nI (i + 1) - 1).toNatClampNeg = nI R[i] := by rw [hc]; exact h2 i hi (by omega)
    refine br_f (nI_nle (by omega) (by omega)) ⟨hv, ?_⟩
    refine pk_le R[i] x (fun l => ?_) (fun l => ?_) hf rfl (hb _ (List.getElem_mem hi)) hx
    · refine wr_X_51 hl h1 (h (i + 1) _ (fun y hy => ?_) (fun y hy => ?_) (wr_A_ins h1 h2 h3))
      · obtain ⟨j, hj, e⟩ := List.mem_iff_getElem.1 hy
        rw [List.length_drop] at hj
        rw [← e, List.getElem_drop]
        exact h4 _ (by omega) (by omega)
      · obtain ⟨j, hj, e⟩ := List.mem_iff_getElem.1 hy
        rw [List.length_take] at hj
        rw [← e, List.getElem_take]
        rcases Nat.lt_or_ge j i with z | z
        · exact Nat.le_trans (hsg j i (by omega) hi z) l
        · have : j = i := by omega
          subst this
          exact l
    · refine ⟨hv, vp_in_nI (by omega) (by decide), ?_⟩
      refine nm_r (e' := upd f (i + 1) (nI R[i])) (by rw [hf, nI_clamp (by omega)]) ?_
      refine nm_r (pk_m1 i) (k _ ⟨by omega, fun j hj l' => ?_, fun j hj l' => ?_, fun j hj l' => ?_⟩)
      · rw [pk_un (by omega)]; exact h2 j hj (by omega)
      · rcases Nat.lt_or_ge i j with z | z
        · rw [pk_un (by omega)]; exact h3 j hj (by omega)
        · have : j = i := by omega
          subst this
          rw [pk_us]
      · rcases Nat.lt_or_ge i j with z | z
        · exact h4 j hj (by omega)
        · have : j = i := by omega
          subst this
          omega
theorem wr_X_lo {post : Int32 → Prop} {n : Nat} {x : Int32} (hx : x = nI n) (hn : n < 2 ^ 31) (h : post (nI (n / 262144))) : wpX_lengthOf post x := by
  subst hx
  unfold wpX_lengthOf
  rw [pk_shrN hn _ 18 (by decide)]
  exact h
end
section
/-! the class's walk -/
def wr_XS (G : Nat → Nat) (t : Nat) (T V : List (List Nat)) (tc rc : Int32) (tr rk : Nat → Int32) : Prop :=
  tc = nI T.length ∧ wr_A (fun r => nI (wr_K G r)) tr T ∧ ∃ R, wr_S G t V R ∧ rc = nI R.length ∧ wr_A nI rk R
theorem wr_S_b {G : Nat → Nat} (hG : ∀ i, G i ≤ 20) {t : Nat} {V : List (List Nat)} {R : List Nat} (h : wr_S G t V R) (hg : ∀ r, r ∈ V → wr_g t r) : ∀ y, y ∈ R → y < 2 ^ 31 := by
  intro y hy
  obtain ⟨r, hr, e⟩ := List.mem_map.1 (h.2.mem_iff.1 hy)
  have := wr_g_K hG (hg r hr)
  rw [← e]
  show wr_K G (t :: r) < 2 ^ 31
  omega
theorem wr_v_n {G : Nat → Nat} {t : Nat} {r : List Nat} {i : Nat} (h : ¬ (i = t ∧ 0 < G (r.headD 0 * 6 + t))) : wr_v G t r (i + 1) = wr_v G t r i := by
  unfold wr_v
  by_cases z : t < i ∧ 0 < G (r.headD 0 * 6 + t)
  · rw [if_pos z, if_pos ⟨by omega, z.2⟩]
  · rw [if_neg z, if_neg]
    rintro ⟨a, b⟩
    by_cases e : i = t
    · exact h ⟨e, b⟩
    · exact z ⟨by omega, b⟩
theorem wr_v_y {G : Nat → Nat} {t : Nat} {r : List Nat} (h : 0 < G (r.headD 0 * 6 + t)) : wr_v G t r t = [] ∧ wr_v G t r (t + 1) = [r] := by
  unfold wr_v
  exact ⟨if_neg (fun z => by omega), if_pos ⟨by omega, h⟩⟩
theorem wr_X_ext {post : SX → Prop} {G : Nat → Nat} (hG : ∀ i, G i ≤ 20) {s t : Nat} (hs : s < 6) (ht : t < 6) (hst : s ≠ t) {A T V : List (List Nat)} (hT : wr_T G s t A T) {r : List Nat} (hr : r ∈ T) (hA : r ∉ A)
    (hV : V.length < 65) (hg : ∀ r, r ∈ V → wr_g t r) {tc rc : Int32} {tr rk : Nat → Int32} (h0 : wr_XS G t T V tc rc tr rk)
    (h : ∀ tc' rc' tr' rk', wr_XS G t (T ++ wr_x G t r 6) (V ++ wr_v G t r 6) tc' rc' tr' rk' → post (tc', rc', (fun i => nI (G i)), tr', rk')) :
    wpX_extendTrail post (tc, rc, (fun i => nI (G i)), tr, rk) (nI (wr_K G r)) (nI t) := by
  have hok := hT.2.1 r hr
  have hgr := wr_ok_g hs ht hst hok
  have hlt : ∀ x, x ∈ r → x < 6 := fun x hx => hgr.1 x (List.mem_cons_of_mem _ hx)
  have hp := wr_p_lt hlt
  have hlen := hgr.2.2
  have hK : wr_K G r < 2 ^ 31 := Nat.lt_trans (wr_K_lt hG hp (by omega)) (by decide)
  cases hr0 : r with
  | nil => rw [hr0] at hlen; exact absurd hlen.1 (by decide)
  | cons u r' =>
  rw [← hr0]
  have hL : r.length = r'.length + 1 := by rw [hr0]; rfl
  have hhd : r.headD 0 = u := by rw [hr0]; rfl
  have hu : u < 6 := hlt u (by rw [hr0]; exact List.mem_cons_self)
  have hu' : u ∈ r := by rw [hr0]; exact List.mem_cons_self
  unfold wpX_extendTrail
  dsimp only
  refine wr_X_sz rfl hK ?_
  rw [wr_sz_K hlt (by omega)]
  refine wr_X_pl hK (i := r'.length) (by omega) (by rw [hL]; exact nI_pred r'.length) ?_
  rw [wr_d_K hp r'.length (by omega), show wr_p r r'.length = u from by rw [hr0]; exact wr_p_hd u r']
  refine loop_0 (fun m i (q : Int32 × Int32 × (Nat → Int32) × (Nat → Int32)) => wX_extendTrail_17 post (nI (wr_K G r)) (nI t) (nI r.length) (nI u) m (nI i) q.1 q.2.1 (fun i => nI (G i)) q.2.2.1 q.2.2.2)
    (fun i q => wr_XS G t (T ++ wr_x G t r i) (V ++ wr_v G t r i) q.1 q.2.1 q.2.2.1 q.2.2.2) 6 (tc, rc, tr, rk) ?_ ?_ ?_
  · have e : wr_v G t r 0 = [] := if_neg (fun z => Nat.not_lt_zero _ z.1)
    rw [e, wr_x_0, List.append_nil, List.append_nil]
    exact h0
  · rintro m ⟨tc', rc', tr', rk'⟩ hq
    exact br_t (by decide) (h tc' rc' tr' rk' hq)
  · rintro m i ⟨tc', rc', tr', rk'⟩ hi hq k
    refine br_f (nI_ge (b := 6) hi (by decide)) ?_
    have skip : (¬ (0 < G (r.headD 0 * 6 + i) ∧ i ∉ r)) → wX_extendTrail_17 post (nI (wr_K G r)) (nI t) (nI r.length) (nI u) m (nI (i + 1)) tc' rc' (fun i => nI (G i)) tr' rk' := by
      intro no
      refine k (tc', rc', tr', rk') ?_
      rw [wr_x_n (fun z => no ⟨z.1, z.2.1⟩), wr_v_n]
      · exact hq
      · rintro ⟨e, z⟩
        rw [← e] at z
        refine no ⟨z, ?_⟩
        rw [e]
        exact hgr.2.1
    refine wr_X_road hG hu hi (fun no => ?_) (fun hne hpos => ?_)
    · refine br_t rfl (nm_r (nI_1 i) (skip ?_))
      rintro ⟨z1, z2⟩
      rw [hhd] at z1
      rcases no with e | e
      · rw [← e] at z2; exact z2 hu'
      · omega
    · have hg20 := hG (u * 6 + i)
      refine br_f (wr_nm1 (by omega)) ?_
      refine wr_X_ct rfl hK hi (fun c1 => ?_) (fun c0 => ?_)
      · refine br_f (by decide) (nm_r (nI_1 i) (skip ?_))
        rintro ⟨z1, z2⟩
        exact z2 ((wr_th_K hlt (by omega) hi).1 c1)
      · have hni : i ∉ r := fun z => c0 ((wr_th_K hlt (by omega) hi).2 z)
        have hd7 : wr_d (wr_K G r) r.length = 7 := by rw [wr_d_K hp r.length (by omega), wr_p_ge r _ (Nat.le_refl _)]
        refine br_t rfl (wr_X_wp (by omega) (by omega) hd7 ?_)
        refine nm_r (e' := nI (wr_K G (i :: r))) ?_ ?_
        · have e18 : nI (G (u * 6 + i)) <<< ((18 : Int32) &&& 31) = nI (G (u * 6 + i) * 2 ^ 18) := pk_shlN _ 18 (by decide) (by omega)
          rw [e18, nI_add]
          have ec : wr_K G (i :: r) = (wr_K G r - 7 * 8 ^ (5 - r.length) + i * 8 ^ (5 - r.length)) + G (u * 6 + i) * 262144 := by
            rw [hr0] at hp hlen ⊢
            exact wr_K_c hp hlen.2
          rw [ec]
        · have hpos' : 0 < G (r.headD 0 * 6 + i) := by rw [hhd]; exact hpos
          obtain ⟨q1, q2, R, qS, q3, q4⟩ := hq
          refine pk_eq i t (fun e => ?_) (fun e => ?_) rfl rfl (by omega) (by omega)
          · subst e
            obtain ⟨v1, v2⟩ := wr_v_y hpos'
            rw [v1, List.append_nil] at qS
            have hRl := wr_S_len qS
            have q3' : rc' = nI R.length := q3
            subst q3'
            refine wr_X_ar (by omega) q4 (wr_S_b hG qS hg) (Nat.lt_trans (wr_g_K hG hgr) (by decide)) qS.1 (fun j rk'' a1 a2 a3 => ?_)
            refine nm_r (nI_1 i) (k (tc', nI (R.length + 1), tr', rk'') ?_)
            rw [wr_x_n (fun z => z.2.2 rfl), v2]
            refine ⟨q1, q2, _, wr_S_i qS a1 a2, ?_, a3⟩
            rw [List.length_append, List.length_cons, List.length_take, List.length_drop]
            refine congrArg nI ?_
            omega
          · have hx := wr_x_y hpos' hni e
            have hTi := wr_T_i hT hr hA (i := i + 1) (by omega)
            have h65 := wr_65 hs ht hst hTi.1 hTi.2
            rw [hx, ← List.append_assoc, List.length_append] at h65
            have h65' : (T ++ wr_x G t r i).length < 65 := h65
            have q1' : tc' = nI (T ++ wr_x G t r i).length := q1
            subst q1'
            refine wr_X_at h65' ?_
            refine nm_r (nI_1 i) (k (nI ((T ++ wr_x G t r i).length + 1), rc', upd tr' (T ++ wr_x G t r i).length (nI (wr_K G (i :: r))), rk') ?_)
            rw [wr_v_n (fun z => e z.1), hx, ← List.append_assoc]
            refine ⟨?_, wr_A_push q2 (i :: r), R, qS, q3, q4⟩
            rw [List.length_append (as := T ++ wr_x G t r i)]
            rfl
/-- the state behind rankWays -/
def wr_XR (G : Nat → Nat) (tn : Nat) (W : List (List Nat)) (R : List Nat) (rc : Int32) (rk : Nat → Int32) : Prop := wr_R G tn W R ∧ rc = nI R.length ∧ wr_A nI rk R
theorem wr_X_rw {post : SX → Prop} {G : Nat → Nat} (hG : ∀ i, G i ≤ 20) {s t : Int32} {tn : Nat} {W : List (List Nat)} (hV : wr_V G s t tn W) {tc rc : Int32} {tr rk : Nat → Int32}
    (h : ∀ tc' rc' tr' rk' R, wr_XR G tn W R rc' rk' → post (tc', rc', (fun i => nI (G i)), tr', rk')) :
    wpX_rankWays post (tc, rc, (fun i => nI (G i)), tr, rk) s t := by
  rcases hV with ⟨si, hs, ht, hst, es, et, eW⟩ | ⟨no, eW⟩
  · unfold wpX_rankWays
    dsimp only
    refine wr_X_pair (fun i j hi hj hij ei ej => ?_) (fun no => absurd (no si tn hs ht es et) hst)
    refine br_f (by decide) ?_
    subst es et eW
    refine wr_X_wp (n := 262143) (L := 0) (by decide) (by omega) (by decide) ?_
    refine wr_X_at (L := 0) (by decide) ?_
    have e1 : nI (262143 - 7 * 8 ^ (5 - 0) + si * 8 ^ (5 - 0)) = nI (wr_K G [si]) := by rw [wr_K_1]
    rw [e1]
    refine pk_loop (fun m i (q : Int32 × Int32 × (Nat → Int32) × (Nat → Int32)) => wX_rankWays_35 post (nI tn) m (nI i) q.1 q.2.1 (fun i => nI (G i)) q.2.2.1 q.2.2.2)
      (fun i q => ∃ T, i ≤ T.length ∧ wr_T G si tn (T.take i) T ∧ wr_XS G tn T (wr_f G tn (T.take i)) q.1 q.2.1 q.2.2.1 q.2.2.2) 65 0 (nI 1, nI 0, upd tr 0 (nI (wr_K G [si])), rk) (by decide) ?_ ?_ ?_
    · refine ⟨[[si]], Nat.zero_le _, wr_T_0 G si tn, rfl, wr_A_push (wr_A_nil _ tr) [si], [], wr_S_0 G tn, rfl, wr_A_nil _ _⟩
    · rintro m ⟨tc', rc', tr', rk'⟩ ⟨T, hiT, hT, q1, q2, R, qS, q3, q4⟩
      have h65 := wr_65 hs ht hst hT.1 hT.2.1
      have eT : T.take 65 = T := List.take_of_length_le h65
      rw [eT] at hT qS
      exact br_t (by decide) (h tc' rc' tr' rk' R ⟨wr_f_R hs ht hst hT qS, q3, q4⟩)
    · rintro m i ⟨tc', rc', tr', rk'⟩ hi ⟨T, hiT, hT, hq⟩ k
      have h65 := wr_65 hs ht hst hT.1 hT.2.1
      refine br_f (nI_ge (b := 65) hi (by decide)) ?_
      refine pk_le T.length i (fun l => ?_) (fun l => ?_) hq.1 rfl (by omega) (by omega)
      · have eT : T.take i = T := List.take_of_length_le l
        rw [eT] at hT hq
        obtain ⟨q1, q2, R, qS, q3, q4⟩ := hq
        exact h tc' rc' tr' rk' R ⟨wr_f_R hs ht hst hT qS, q3, q4⟩
      · refine ⟨vp_in_nI hi (by decide), ?_⟩
        have ea : tr' (nI i).toNatClampNeg = nI (wr_K G T[i]) := by
          rw [nI_clamp (by omega)]
          exact hq.2.1 i l
        have hlen : (wr_f G tn (T.take i)).length < 65 := by
          have h1 : (wr_f G tn (T.take i)).length ≤ (T.take i).length := List.length_filter_le _ _
          rw [List.length_take] at h1
          omega
        have hgg : ∀ r, r ∈ wr_f G tn (T.take i) → wr_g tn r := fun r hr => wr_ok_g hs ht hst (hT.2.1 r (List.mem_of_mem_take (List.mem_filter.1 hr).1))
        have key := wr_X_ext (post := fun u => match u with | (a, b, c, d, e) => ∀ x : Int32, x = nI i + 1 → wX_rankWays_35 post (nI tn) m x a b c d e) hG hs ht hst hT (List.getElem_mem l) (wr_T_A hT l) hlen hgg hq (fun a b d e hS => nm_r (nI_1 i) (k (a, b, d, e) ?_))
        · show wpX_extendTrail _ (tc', rc', (fun i => nI (G i)), tr', rk') (tr' (nI i).toNatClampNeg) (nI tn)
          rw [ea]
          exact key
        · refine ⟨T ++ wr_x G tn T[i] 6, ?_, wr_T_n hT l, ?_⟩
          · rw [List.length_append]; omega
          · have e : (T ++ wr_x G tn T[i] 6).take (i + 1) = T.take i ++ [T[i]] := by
              rw [List.take_append_of_le_length (by omega), List.take_succ_eq_append_getElem l]
            rw [e, wr_f_s ht]
            exact hS
  · unfold wpX_rankWays
    dsimp only
    refine wr_X_pair (fun i j hi hj hij ei ej => absurd (no i j hi hj ei ej) hij) (fun _ => ?_)
    refine br_t rfl (h _ _ _ _ [] ⟨⟨List.Pairwise.nil, ?_⟩, rfl, wr_A_nil _ _⟩)
    rw [eW]
    exact List.Perm.refl _
end
section
/-! the class's answers, in terms of the list of ways -/
def wr_RX (G : Nat → Nat) (u : SX) : Prop := u.2.2.1 = fun i => nI (G i)
theorem wr_RX_o {G : Nat → Nat} {u : SX} (h : wr_RX G u) : ∃ tc rc tr rk, u = (tc, rc, (fun i => nI (G i)), tr, rk) := by
  obtain ⟨tc, rc, rl, tr, rk⟩ := u
  have h' : rl = fun i => nI (G i) := h
  exact ⟨tc, rc, tr, rk, by rw [h']⟩
/-- r is the way of rank k -/
def wr_at (G : Nat → Nat) (tn : Nat) (W : List (List Nat)) (k : Int32) (r : List Nat) : Prop := r ∈ W ∧ k = nI (wr_rk G tn W r) ∧ ∀ r', r' ∈ W → k = nI (wr_rk G tn W r') → r' = r
theorem wr_XR_l {G : Nat → Nat} {s t : Int32} {tn : Nat} {W : List (List Nat)} (hV : wr_V G s t tn W) {R : List Nat} (h : wr_R G tn W R) : R.length ≤ 65 := by
  rw [wr_R_len h]; exact wr_V_65 hV
theorem wr_XR_b {G : Nat → Nat} (hG : ∀ i, G i ≤ 20) {s t : Int32} {tn : Nat} {W : List (List Nat)} (hV : wr_V G s t tn W) {R : List Nat} (h : wr_R G tn W R) : ∀ y, y ∈ R → y < 2 ^ 31 := by
  intro y hy
  obtain ⟨r, hr, e⟩ := (wr_R_mem h).1 hy
  have := wr_g_K hG (wr_V_g hV r hr)
  omega
theorem wr_at_k {G : Nat → Nat} {s t : Int32} {tn : Nat} {W : List (List Nat)} (hV : wr_V G s t tn W) {R : List Nat} (h : wr_R G tn W R) {j : Nat} (hj : j < R.length) : ∃ r, wr_at G tn W (nI j) r ∧ R[j] = wr_K G (tn :: r) := by
  have hl := wr_XR_l hV h
  obtain ⟨w, hw, e1, e2⟩ := wr_rk_ex h hj
  refine ⟨W[w], ⟨List.getElem_mem hw, by rw [e2], fun r' hr' e => ?_⟩, e1⟩
  obtain ⟨hk, ek⟩ := wr_rk_of h hr'
  rw [nI_eq (by omega) (by omega)] at e
  apply Classical.byContradiction
  intro ne
  obtain ⟨_, _, _, _, _, _, _, z⟩ := wr_V_lt hV hr' (List.getElem_mem hw) ne
  apply z
  rw [← ek, ← e1]
  congr 1
  exact e.symm
theorem wr_at_n {G : Nat → Nat} {tn : Nat} {W : List (List Nat)} {R : List Nat} (h : wr_R G tn W R) {k : Int32} (no : ∀ j, j < R.length → k ≠ nI j) : ∀ r, r ∈ W → k ≠ nI (wr_rk G tn W r) := by
  intro r hr
  obtain ⟨hk, _⟩ := wr_rk_of h hr
  exact no _ hk
theorem wr_X_hr {post : Int32 → Prop} {L : Nat} {tc : Int32} {rl tr rk : Nat → Int32} {k : Int32} (hL : L ≤ 65) (h1 : ∀ j, j < L → k = nI j → post 1) (h0 : (∀ j, j < L → k ≠ nI j) → post 0) : wpX_hasRank post (tc, nI L, rl, tr, rk) k := by
  by_cases z : k < 0
  · refine br_t z (h0 (fun i hi e => ?_))
    rw [e] at z
    exact nI_pos (by omega) z
  · obtain ⟨j, hj, e⟩ := nI_of z
    refine br_f z ?_
    refine pk_le L j (fun l => h0 (fun i hi e' => ?_)) (fun l => h1 j l e) rfl e (by omega) hj
    rw [e, nI_eq hj (by omega)] at e'
    omega
theorem wr_X_cu {post : Int32 → Prop} {tc : Int32} {rl tr rk : Nat → Int32} {R : List Nat} (hA : wr_A nI rk R) (hl : R.length ≤ 65) (hb : ∀ y, y ∈ R → y < 2 ^ 31) {x : Int32} (h : post (nI (R.countP (fun n => decide (nI (n / 262144) ≤ x))))) : wpX_countUpTo post (tc, nI R.length, rl, tr, rk) x := by
  refine loop_0 (fun m i s => wX_countUpTo_4 post x tc (nI R.length) rl tr rk m s (nI i)) (fun i s => s = nI ((R.take i).countP (fun n => decide (nI (n / 262144) ≤ x)))) R.length (nI 0) rfl ?_ ?_
  · intro m s hs
    rw [List.take_length] at hs
    subst hs
    exact br_t (nI_le (Nat.le_refl _) (by omega)) h
  · intro m i s hi hs k
    subst hs
    have e : rk (nI i).toNatClampNeg = nI R[i] := by rw [nI_clamp (by omega)]; exact hA i hi
    have hc := wr_ct (fun n => decide (nI (n / 262144) ≤ x)) hi
    refine br_f (nI_ge hi (by omega)) ⟨vp_in_nI (by omega) (by decide), wr_X_lo e (hb _ (List.getElem_mem hi)) (br_c (fun c => ?_) (fun c => ?_))⟩
    · refine nm_r (nI_1 i) (k _ ?_)
      rw [hc, if_neg]
      · rfl
      · intro z
        exact Int32.not_lt.mpr (of_decide_eq_true z) c
    · refine nm_r (nI_1 _) (nm_r (nI_1 i) (k _ ?_))
      rw [hc, if_pos]
      exact decide_eq_true (Int32.not_lt.mp c)
theorem wr_X_fw {post : Int32 → Prop} {tc : Int32} {rl tr rk : Nat → Int32} {R : List Nat} (hA : wr_A nI rk R) (hl : R.length ≤ 65) (hb : ∀ y, y ∈ R → y < 2 ^ 31) {v : Nat} (hv : v < 6)
    (h1 : ∀ (k : Nat) (hk : k < R.length), (¬ ∃ i, i < 6 ∧ wr_d R[k] i = v) → (∀ (j : Nat) (hj : j < R.length), j < k → ∃ i, i < 6 ∧ wr_d R[j] i = v) → post (nI k)) (h0 : (∀ (j : Nat) (hj : j < R.length), ∃ i, i < 6 ∧ wr_d R[j] i = v) → post (-1)) : wpX_firstWithout post (tc, nI R.length, rl, tr, rk) (nI v) := by
  refine loop_0 (fun m i (_ : Unit) => wX_firstWithout_2 post (nI v) tc (nI R.length) rl tr rk m (nI i)) (fun i _ => ∀ (j : Nat) (hj : j < R.length), j < i → ∃ i, i < 6 ∧ wr_d R[j] i = v) R.length () (fun j hj l => absurd l (Nat.not_lt_zero _)) ?_ ?_
  · intro m s hs
    exact br_t (nI_le (Nat.le_refl _) (by omega)) (h0 (fun j hj => hs j hj hj))
  · intro m i s hi hs k
    have e : rk (nI i).toNatClampNeg = nI R[i] := by rw [nI_clamp (by omega)]; exact hA i hi
    refine br_f (nI_ge hi (by omega)) ⟨vp_in_nI (by omega) (by decide), wr_X_ct e (hb _ (List.getElem_mem hi)) hv (fun c => ?_) (fun c => ?_)⟩
    · refine br_f (by decide) (nm_r (nI_1 i) (k () (fun j hj l => ?_)))
      rcases Nat.lt_or_ge j i with z | z
      · exact hs j hj z
      · have : j = i := by omega
        subst this
        exact c
    · exact br_t rfl (h1 i hi c hs)
theorem wr_X_fn {post : Int32 → Prop} {tc : Int32} {rl tr rk : Nat → Int32} {R : List Nat} (hA : wr_A nI rk R) (hl : R.length ≤ 65) (hb : ∀ y, y ∈ R → y < 2 ^ 31) {a b : Nat} (ha : a < 6) (hb6 : b < 6)
    (h1 : ∀ (k : Nat) (hk : k < R.length), wr_q a b R[k] = false → (∀ (j : Nat) (hj : j < R.length), j < k → wr_q a b R[j] = true) → post (nI k)) (h0 : (∀ (j : Nat) (hj : j < R.length), wr_q a b R[j] = true) → post (-1)) : wpX_firstNotTaking post (tc, nI R.length, rl, tr, rk) (nI a) (nI b) := by
  refine loop_0 (fun m i (_ : Unit) => wX_firstNotTaking_2 post (nI a) (nI b) tc (nI R.length) rl tr rk m (nI i)) (fun i _ => ∀ (j : Nat) (hj : j < R.length), j < i → wr_q a b R[j] = true) R.length () (fun j hj l => absurd l (Nat.not_lt_zero _)) ?_ ?_
  · intro m s hs
    exact br_t (nI_le (Nat.le_refl _) (by omega)) (h0 (fun j hj => hs j hj hj))
  · intro m i s hi hs k
    have e : rk (nI i).toNatClampNeg = nI R[i] := by rw [nI_clamp (by omega)]; exact hA i hi
    refine br_f (nI_ge hi (by omega)) ⟨vp_in_nI (by omega) (by decide), wr_X_tk e (hb _ (List.getElem_mem hi)) ha hb6 (fun c => ?_) (fun c => ?_)⟩
    · refine br_f (by decide) (nm_r (nI_1 i) (k () (fun j hj l => ?_)))
      rcases Nat.lt_or_ge j i with z | z
      · exact hs j hj z
      · have : j = i := by omega
        subst this
        exact c
    · exact br_t rfl (h1 i hi c hs)
end
section
/-! the class's methods, in terms of the list of ways -/
theorem wr_X_ways {post : Int32 → SX → Prop} {G : Nat → Nat} (hG : ∀ i, G i ≤ 20) {s t : Int32} {tn : Nat} {W : List (List Nat)} (hV : wr_V G s t tn W) {u : SX} (hu : wr_RX G u) (h : ∀ u', wr_RX G u' → post (nI W.length) u') : wpX_ways post u s t := by
  obtain ⟨tc, rc, tr, rk, rfl⟩ := wr_RX_o hu
  unfold wpX_ways
  dsimp only
  refine wr_X_rw hG hV (fun tc' rc' tr' rk' R hR => ?_)
  obtain ⟨hR, e, hA⟩ := hR
  subst e
  dsimp only
  rw [wr_R_len hR]
  exact h _ rfl
theorem wr_X_length {post : Int32 → SX → Prop} {G : Nat → Nat} (hG : ∀ i, G i ≤ 20) {s t : Int32} {tn : Nat} {W : List (List Nat)} (hV : wr_V G s t tn W) {u : SX} (hu : wr_RX G u) {k : Int32}
    (h1 : ∀ u' r, wr_RX G u' → wr_at G tn W k r → post (nI (wr_s G (tn :: r))) u') (h0 : ∀ u', wr_RX G u' → (∀ r, r ∈ W → k ≠ nI (wr_rk G tn W r)) → post (-1) u') : wpX_length post u s t k := by
  obtain ⟨tc, rc, tr, rk, rfl⟩ := wr_RX_o hu
  unfold wpX_length
  dsimp only
  refine wr_X_rw hG hV (fun tc' rc' tr' rk' R hR => ?_)
  obtain ⟨hR, e, hA⟩ := hR
  subst e
  dsimp only
  have hl := wr_XR_l hV hR
  refine wr_X_hr hl (fun j hj e => ?_) (fun no => ?_)
  · subst e
    obtain ⟨r, hat, eK⟩ := wr_at_k hV hR hj
    refine br_f (by decide) ⟨vp_in_nI (by omega) (by decide), wr_X_lo (n := R[j]) (by rw [nI_clamp (by omega)]; exact hA j hj) (wr_XR_b hG hV hR _ (List.getElem_mem hj)) ?_⟩
    rw [eK, wr_s_K (wr_g_p (wr_V_g hV r hat.1))]
    exact h1 _ r rfl hat
  · exact br_t rfl (h0 _ rfl (wr_at_n hR no))
theorem wr_X_size {post : Int32 → SX → Prop} {G : Nat → Nat} (hG : ∀ i, G i ≤ 20) {s t : Int32} {tn : Nat} {W : List (List Nat)} (hV : wr_V G s t tn W) {u : SX} (hu : wr_RX G u) {k : Int32}
    (h1 : ∀ u' r, wr_RX G u' → wr_at G tn W k r → post (nI (tn :: r).length) u') (h0 : ∀ u', wr_RX G u' → (∀ r, r ∈ W → k ≠ nI (wr_rk G tn W r)) → post (-1) u') : wpX_size post u s t k := by
  obtain ⟨tc, rc, tr, rk, rfl⟩ := wr_RX_o hu
  unfold wpX_size
  dsimp only
  refine wr_X_rw hG hV (fun tc' rc' tr' rk' R hR => ?_)
  obtain ⟨hR, e, hA⟩ := hR
  subst e
  dsimp only
  have hl := wr_XR_l hV hR
  refine wr_X_hr hl (fun j hj e => ?_) (fun no => ?_)
  · subst e
    obtain ⟨r, hat, eK⟩ := wr_at_k hV hR hj
    refine br_f (by decide) ⟨vp_in_nI (by omega) (by decide), wr_X_sz (n := R[j]) (by rw [nI_clamp (by omega)]; exact hA j hj) (wr_XR_b hG hV hR _ (List.getElem_mem hj)) ?_⟩
    have hg := wr_V_g hV r hat.1
    rw [eK, wr_sz_K hg.1 (wr_g_l hg)]
    exact h1 _ r rfl hat
  · exact br_t rfl (h0 _ rfl (wr_at_n hR no))
theorem wr_X_placeM {post : Int32 → SX → Prop} {G : Nat → Nat} (hG : ∀ i, G i ≤ 20) {s t : Int32} {tn : Nat} {W : List (List Nat)} (hV : wr_V G s t tn W) {u : SX} (hu : wr_RX G u) {k i : Int32}
    (h1 : ∀ u' r j, wr_RX G u' → wr_at G tn W k r → i = nI j → j < (tn :: r).length → post (nI (wr_p (tn :: r) j)) u') (h2 : ∀ u' r, wr_RX G u' → wr_at G tn W k r → (∀ j, j < (tn :: r).length → i ≠ nI j) → post (-1) u')
    (h0 : ∀ u', wr_RX G u' → (∀ r, r ∈ W → k ≠ nI (wr_rk G tn W r)) → post (-1) u') : wpX_place post u s t k i := by
  obtain ⟨tc, rc, tr, rk, rfl⟩ := wr_RX_o hu
  unfold wpX_place
  dsimp only
  refine wr_X_rw hG hV (fun tc' rc' tr' rk' R hR => ?_)
  obtain ⟨hR, e, hA⟩ := hR
  subst e
  dsimp only
  have hl := wr_XR_l hV hR
  refine wr_X_hr hl (fun j hj e => ?_) (fun no => ?_)
  · subst e
    obtain ⟨r, hat, eK⟩ := wr_at_k hV hR hj
    have hg := wr_V_g hV r hat.1
    have hgl := wr_g_l hg
    have ea : rk' (nI j).toNatClampNeg = nI R[j] := by rw [nI_clamp (by omega)]; exact hA j hj
    have hb := wr_XR_b hG hV hR _ (List.getElem_mem hj)
    refine br_f (by decide) ?_
    by_cases z : i < 0
    · refine br_t z (h2 _ r rfl hat (fun j' hj' e => ?_))
      rw [e] at z
      exact nI_pos (by omega) z
    · obtain ⟨i', hi', ei⟩ := nI_of z
      refine br_f z ⟨vp_in_nI (by omega) (by decide), wr_X_sz (n := R[j]) ea hb ?_⟩
      rw [eK, wr_sz_K hg.1 hgl]
      refine pk_lt i' (tn :: r).length (fun l => ?_) (fun l => ?_) ei rfl hi' (by omega)
      · refine ⟨vp_in_nI (by omega) (by decide), wr_X_pl (n := R[j]) hb (i := i') (by omega) ei ?_ ea⟩
        rw [eK, wr_d_K (wr_g_p hg) i' (by omega)]
        exact h1 _ r i' rfl hat ei l
      · refine h2 _ r rfl hat (fun j' hj' e => ?_)
        rw [ei, nI_eq hi' (by omega)] at e
        omega
  · exact br_t rfl (h0 _ rfl (wr_at_n hR no))
/-- how many ways are no longer than x -/
def wr_wi (G : Nat → Nat) (tn : Nat) (W : List (List Nat)) (x : Int32) : Nat := W.countP (fun r => decide (nI (wr_s G (tn :: r)) ≤ x))
theorem wr_X_within {post : Int32 → SX → Prop} {G : Nat → Nat} (hG : ∀ i, G i ≤ 20) {s t : Int32} {tn : Nat} {W : List (List Nat)} (hV : wr_V G s t tn W) {u : SX} (hu : wr_RX G u) {x : Int32} (h : ∀ u', wr_RX G u' → post (nI (wr_wi G tn W x)) u') : wpX_within post u s t x := by
  obtain ⟨tc, rc, tr, rk, rfl⟩ := wr_RX_o hu
  unfold wpX_within
  dsimp only
  refine wr_X_rw hG hV (fun tc' rc' tr' rk' R hR => ?_)
  obtain ⟨hR, e, hA⟩ := hR
  subst e
  dsimp only
  refine wr_X_cu hA (wr_XR_l hV hR) (wr_XR_b hG hV hR) ?_
  rw [wr_R_cnt hR (wr_V_g hV) (fun m => decide (nI m ≤ x))]
  exact h _ rfl
theorem wr_R_0 {G : Nat → Nat} {tn : Nat} {W : List (List Nat)} {R : List Nat} (h : wr_R G tn W R) (e : R.length = 0) : W = [] := by
  rw [wr_R_len h] at e
  exact List.length_eq_zero_iff.1 e
theorem wr_X_shortest {post : Int32 → SX → Prop} {G : Nat → Nat} (hG : ∀ i, G i ≤ 20) {s t : Int32} {tn : Nat} {W : List (List Nat)} (hV : wr_V G s t tn W) {u : SX} (hu : wr_RX G u)
    (h1 : ∀ u' r, wr_RX G u' → wr_at G tn W 0 r → post (nI (wr_wi G tn W (nI (wr_s G (tn :: r))))) u') (h0 : ∀ u', wr_RX G u' → W = [] → post 0 u') : wpX_shortest post u s t := by
  obtain ⟨tc, rc, tr, rk, rfl⟩ := wr_RX_o hu
  unfold wpX_shortest
  dsimp only
  refine wr_X_rw hG hV (fun tc' rc' tr' rk' R hR => ?_)
  obtain ⟨hR, e, hA⟩ := hR
  subst e
  dsimp only
  have hl := wr_XR_l hV hR
  refine pk_eq R.length 0 (fun e => h0 _ rfl (wr_R_0 hR e)) (fun e => ?_) rfl rfl (by omega) (by omega)
  have hj : 0 < R.length := by omega
  obtain ⟨r, hat, eK⟩ := wr_at_k hV hR hj
  refine wr_X_lo (n := R[0]) (hA 0 hj) (wr_XR_b hG hV hR _ (List.getElem_mem hj)) ?_
  refine wr_X_cu hA hl (wr_XR_b hG hV hR) ?_
  rw [eK, wr_s_K (wr_g_p (wr_V_g hV r hat.1)), wr_R_cnt hR (wr_V_g hV) (fun m => decide (nI m ≤ nI (wr_s G (tn :: r))))]
  exact h1 _ r rfl hat
/-- the places that every way comes through -/
def wr_al (tn : Nat) (W : List (List Nat)) (v : Nat) : Bool := W.all (fun r => (tn :: r).contains v)
theorem wr_al_i {tn : Nat} {W : List (List Nat)} {v : Nat} : wr_al tn W v = true ↔ ∀ r, r ∈ W → v ∈ tn :: r := by
  unfold wr_al
  rw [List.all_eq_true]
  constructor
  · intro h r hr
    have := h r hr
    rw [List.contains_eq_mem] at this
    exact of_decide_eq_true this
  · intro h r hr
    rw [List.contains_eq_mem]
    exact decide_eq_true (h r hr)
def wr_mu (s t : Int32) (tn : Nat) (W : List (List Nat)) : Nat → Int32
  | 0 => 0
  | v + 1 => if ¬ nI v = s ∧ ¬ nI v = t ∧ wr_al tn W v = true then wr_mu s t tn W v ||| ((1 : Int32) <<< (nI v &&& 31)) else wr_mu s t tn W v
theorem wr_mu_y {s t : Int32} {tn : Nat} {W : List (List Nat)} {v : Nat} (h1 : ¬ nI v = s) (h2 : ¬ nI v = t) (h3 : wr_al tn W v = true) : wr_mu s t tn W (v + 1) = wr_mu s t tn W v ||| ((1 : Int32) <<< (nI v &&& 31)) := by
  show (if _ then _ else _) = _
  rw [if_pos ⟨h1, h2, h3⟩]
theorem wr_mu_n {s t : Int32} {tn : Nat} {W : List (List Nat)} {v : Nat} (h : ¬ (¬ nI v = s ∧ ¬ nI v = t ∧ wr_al tn W v = true)) : wr_mu s t tn W (v + 1) = wr_mu s t tn W v := by
  show (if _ then _ else _) = _
  rw [if_neg h]
theorem wr_thr {G : Nat → Nat} {s t : Int32} {tn : Nat} {W : List (List Nat)} (hV : wr_V G s t tn W) {r : List Nat} (hr : r ∈ W) {v : Nat} (hv : v < 6) : (∃ i, i < 6 ∧ wr_d (wr_K G (tn :: r)) i = v) ↔ v ∈ tn :: r :=
  wr_th_K (wr_V_g hV r hr).1 (wr_g_l (wr_V_g hV r hr)) hv
theorem wr_thr_all {G : Nat → Nat} {s t : Int32} {tn : Nat} {W : List (List Nat)} (hV : wr_V G s t tn W) {R : List Nat} (hR : wr_R G tn W R) {v : Nat} (hv : v < 6) (h : ∀ (j : Nat) (hj : j < R.length), ∃ i, i < 6 ∧ wr_d R[j] i = v) : ∀ r, r ∈ W → v ∈ tn :: r := by
  intro r hr
  obtain ⟨hk, ek⟩ := wr_rk_of hR hr
  have := h _ hk
  rw [ek] at this
  exact (wr_thr hV hr hv).1 this
theorem wr_X_musts {post : Int32 → SX → Prop} {G : Nat → Nat} (hG : ∀ i, G i ≤ 20) {s t : Int32} {tn : Nat} {W : List (List Nat)} (hV : wr_V G s t tn W) {u : SX} (hu : wr_RX G u)
    (h1 : ∀ u', wr_RX G u' → W ≠ [] → post (wr_mu s t tn W 6) u') (h0 : ∀ u', wr_RX G u' → W = [] → post 0 u') : wpX_musts post u s t := by
  obtain ⟨tc, rc, tr, rk, rfl⟩ := wr_RX_o hu
  unfold wpX_musts
  dsimp only
  refine wr_X_rw hG hV (fun tc' rc' tr' rk' R hR => ?_)
  obtain ⟨hR, e, hA⟩ := hR
  subst e
  dsimp only
  have hl := wr_XR_l hV hR
  refine pk_eq R.length 0 (fun e => h0 _ rfl (wr_R_0 hR e)) (fun e => ?_) rfl rfl (by omega) (by omega)
  have hne : W ≠ [] := by
    intro z
    rw [wr_R_len hR, z] at e
    exact e rfl
  refine loop_0 (fun m i x => wX_musts_20 post s t tc' (nI R.length) (fun i => nI (G i)) tr' rk' m x (nI i)) (fun i x => x = wr_mu s t tn W i) 6 0 rfl ?_ ?_
  · intro m x hx
    subst hx
    exact br_t (by decide) (h1 _ rfl hne)
  · intro m i x hi hx k
    subst hx
    refine br_f (nI_ge (b := 6) hi (by decide)) (br_c (fun c => ?_) (fun c1 => br_c (fun c => ?_) (fun c2 => ?_)))
    · exact nm_r (nI_1 i) (k _ (wr_mu_n (fun z => z.1 c)).symm)
    · exact nm_r (nI_1 i) (k _ (wr_mu_n (fun z => z.2.1 c)).symm)
    · refine wr_X_fw hA hl (wr_XR_b hG hV hR) hi (fun j hj no _ => ?_) (fun all => ?_)
      · refine br_f (wr_nm1 (by omega)) (nm_r (nI_1 i) (k _ (wr_mu_n (fun z => ?_)).symm))
        obtain ⟨r, hr, er⟩ := (wr_R_mem hR).1 (List.getElem_mem hj)
        apply no
        rw [← er]
        exact (wr_thr hV hr hi).2 (wr_al_i.1 z.2.2 r hr)
      · refine br_t rfl (nm_e (nm_r (nI_1 i) (k _ ?_)))
        exact (wr_mu_y c1 c2 (wr_al_i.2 (wr_thr_all hV hR hi all))).symm
theorem wr_X_fa {post : Int32 → SX → Prop} {G : Nat → Nat} (hG : ∀ i, G i ≤ 20) {s t : Int32} {tn : Nat} {W : List (List Nat)} (hV : wr_V G s t tn W) {u : SX} (hu : wr_RX G u) {v : Nat} (hv : v < 6) (ns : ¬ nI v = s) (nt : ¬ nI v = t)
    (h1 : ∀ u' r, wr_RX G u' → r ∈ W → v ∉ tn :: r → (∀ r', r' ∈ W → v ∉ tn :: r' → wr_rk G tn W r ≤ wr_rk G tn W r') → post (nI (wr_rk G tn W r)) u') (h0 : ∀ u', wr_RX G u' → (∀ r, r ∈ W → v ∈ tn :: r) → post (-1) u') : wpX_firstAvoiding post u s t (nI v) := by
  obtain ⟨tc, rc, tr, rk, rfl⟩ := wr_RX_o hu
  unfold wpX_firstAvoiding
  dsimp only
  refine wr_X_place (fun _ _ _ => ?_) (fun no => absurd rfl (no v hv))
  refine br_f (by decide) (br_f ns (br_f nt ?_))
  refine wr_X_rw hG hV (fun tc' rc' tr' rk' R hR => ?_)
  obtain ⟨hR, e, hA⟩ := hR
  subst e
  dsimp only
  have hl := wr_XR_l hV hR
  refine wr_X_fw hA hl (wr_XR_b hG hV hR) hv (fun j hj no lo => ?_) (fun all => ?_)
  · obtain ⟨w, hw, e1, e2⟩ := wr_rk_ex hR hj
    rw [← e2]
    refine h1 _ W[w] rfl (List.getElem_mem hw) (fun z => ?_) (fun r' hr' no' => ?_)
    · apply no
      rw [e1]
      exact (wr_thr hV (List.getElem_mem hw) hv).2 z
    · rw [e2]
      obtain ⟨hk, ek⟩ := wr_rk_of hR hr'
      apply Classical.byContradiction
      intro l
      have := lo _ hk (by omega)
      rw [ek] at this
      exact no' ((wr_thr hV hr' hv).1 this)
  · exact h0 _ rfl (wr_thr_all hV hR hv all)
theorem wr_V_cut {G : Nat → Nat} {s t : Int32} {tn : Nat} {W : List (List Nat)} (hV : wr_V G s t tn W) {R : List Nat} (hR : wr_R G tn W R) {a b : Nat} (ha : a < 6) (hb : b < 6) : ∃ W', wr_V (wr_cut G (a * 6 + b)) s t tn W' ∧ wr_R (wr_cut G (a * 6 + b)) tn W' (R.filter (fun n => !wr_q a b n)) := by
  rcases hV with ⟨i, h1, h2, h3, h4, h5, e⟩ | ⟨no, e⟩
  · refine ⟨_, Or.inl ⟨i, h1, h2, h3, h4, h5, rfl⟩, ?_⟩
    rw [e] at hR
    exact wr_R_cut h1 h2 h3 ha hb hR
  · refine ⟨[], Or.inr ⟨no, rfl⟩, ?_⟩
    rw [e] at hR
    have h0 : R = [] := List.length_eq_zero_iff.1 (wr_R_len hR)
    rw [h0]
    exact ⟨List.Pairwise.nil, List.Perm.refl _⟩
theorem wr_V_u {G : Nat → Nat} {s t : Int32} {tn : Nat} {W W' : List (List Nat)} (h : wr_V G s t tn W) (h' : wr_V G s t tn W') : W = W' := by
  rcases h with ⟨i, h1, h2, h3, h4, h5, e⟩ | ⟨no, e⟩
  · rcases h' with ⟨i', h1', _, _, h4', _, e'⟩ | ⟨no, _⟩
    · rw [h4, nI_eq (by omega) (by omega)] at h4'
      subst h4'
      rw [e, e']
    · exact absurd (no i tn h1 h2 h4 h5) h3
  · rcases h' with ⟨i', h1', h2', h3', h4', h5', _⟩ | ⟨_, e'⟩
    · exact absurd (no i' tn h1' h2' h4' h5') h3'
    · rw [e, e']
theorem wr_cut_G {G : Nat → Nat} (hG : ∀ i, G i ≤ 20) (j : Nat) : ∀ i, wr_cut G j i ≤ 20 := by
  intro i
  unfold wr_cut
  by_cases e : i = j
  · rw [if_pos e]; omega
  · rw [if_neg e]; exact hG i
theorem wr_X_detour {post : Int32 → SX → Prop} {G : Nat → Nat} (hG : ∀ i, G i ≤ 20) {s t : Int32} {tn : Nat} {W : List (List Nat)} (hV : wr_V G s t tn W) {u : SX} (hu : wr_RX G u) {a b : Nat} (ha : a < 6) (hb : b < 6) (hab : a ≠ b) (hg : 0 < G (a * 6 + b))
    {W' : List (List Nat)} (hV' : wr_V (wr_cut G (a * 6 + b)) s t tn W')
    (h1 : ∀ u' r r', wr_RX G u' → wr_at G tn W 0 r → wr_at (wr_cut G (a * 6 + b)) tn W' 0 r' → post (nI (wr_s (wr_cut G (a * 6 + b)) (tn :: r')) - nI (wr_s G (tn :: r))) u')
    (h2 : ∀ u' r, wr_RX G u' → wr_at G tn W 0 r → W' = [] → post (-1) u') (h0 : ∀ u', wr_RX G u' → W = [] → post 0 u') : wpX_detour post u s t (nI a) (nI b) := by
  obtain ⟨tc, rc, tr, rk, rfl⟩ := wr_RX_o hu
  unfold wpX_detour
  dsimp only
  have hg20 := hG (a * 6 + b)
  refine wr_X_road hG ha hb (fun no => ?_) (fun _ _ => ?_)
  · rcases no with e | e
    · exact absurd e hab
    · omega
  refine br_f (wr_nm1 (by omega)) ?_
  refine wr_X_rw hG hV (fun tc' rc' tr' rk' R hR => ?_)
  obtain ⟨hR, e, hA⟩ := hR
  subst e
  dsimp only
  have hl := wr_XR_l hV hR
  have hbb := wr_XR_b hG hV hR
  obtain ⟨W'', hV'', hR'⟩ := wr_V_cut hV hR ha hb
  have eW := wr_V_u hV'' hV'
  subst eW
  refine pk_eq R.length 0 (fun e => h0 _ rfl (wr_R_0 hR e)) (fun e => ?_) rfl rfl (by omega) (by omega)
  have hj : 0 < R.length := by omega
  obtain ⟨r, hat, eK⟩ := wr_at_k hV hR hj
  refine wr_X_fn hA hl hbb ha hb (fun k hk no lo => ?_) (fun all => ?_)
  · refine br_f (wr_nm1 (by omega)) ⟨vp_in_nI (by omega) (by decide), ?_⟩
    have e0 : (R.filter (fun n => !wr_q a b n))[0]? = some R[k] := by
      refine wr_flt0 hk ?_ (fun j hj' => ?_)
      · show (!wr_q a b R[k]) = true
        rw [no]; rfl
      · show (!wr_q a b (R[j]'(by omega))) = false
        rw [lo j (by omega) hj']; rfl
    have hj' : 0 < (R.filter (fun n => !wr_q a b n)).length := by
      apply Nat.pos_of_ne_zero
      intro z
      rw [List.length_eq_zero_iff.1 z] at e0
      exact absurd e0 (by simp)
    obtain ⟨r', hat', eK'⟩ := wr_at_k hV' hR' hj'
    rw [List.getElem?_eq_getElem hj'] at e0
    have e1 := Option.some.inj e0
    refine wr_X_lo (n := R[k]) (by rw [nI_clamp (by omega)]; exact hA k hk) (hbb _ (List.getElem_mem hk)) ?_
    refine wr_X_lo (n := R[0]) (hA 0 hj) (hbb _ (List.getElem_mem hj)) ?_
    rw [eK, ← e1, eK', wr_s_K (wr_g_p (wr_V_g hV r hat.1)), wr_s_K (wr_g_p (wr_V_g hV' r' hat'.1))]
    exact h1 _ r r' rfl hat hat'
  · refine br_t rfl (h2 _ r rfl hat (wr_R_0 hR' ?_))
    rw [List.length_eq_zero_iff, List.filter_eq_nil_iff]
    intro n hn
    obtain ⟨j, hj1, e⟩ := List.mem_iff_getElem.1 hn
    rw [← e, all j hj1]
    decide
end
section
/-! the reference's list -/
def wr_YS (G : Nat → Nat) (t : Nat) (W : List (List Nat)) (cnt : Int32) (ways sums : Nat → Int32) : Prop := cnt = nI W.length ∧ wr_A (fun r => nI (wr_z t r)) ways W ∧ wr_A (fun r => nI (wr_s G (t :: r))) sums W
theorem wr_ixM {a b : Nat} : (6 : Int32) * nI a + nI b = nI (a * 6 + b) := by
  show nI 6 * nI a + nI b = _
  rw [pk_mul, nI_add, Nat.mul_comm]
theorem wr_Y_pair {post : Int32 → Prop} {u : SY} {a b : Int32} (h1 : ∀ i j, i < 6 → j < 6 → i ≠ j → a = nI i → b = nI j → post 1) (h0 : (∀ i j, i < 6 → j < 6 → a = nI i → b = nI j → i = j) → post 0) : wpY_pair post u a b := by
  obtain ⟨cnt, len, ways, sums⟩ := u
  refine br_c (fun c => h0 (fun i j hi hj ei ej => ?_)) (fun c => ?_)
  · rw [ei, ej, nI_eq (by omega) (by omega)] at c
    exact c
  by_cases za : a < 0
  · refine br_t za (h0 (fun i j hi hj ei ej => ?_))
    rw [ei] at za
    exact absurd za (nI_pos (by omega))
  refine br_f za ?_
  obtain ⟨i, hi, ei⟩ := nI_of za
  refine pk_lt 5 i (fun l => h0 (fun i' j' hi' hj' ei' ej' => ?_)) (fun l => ?_) rfl ei (by omega) hi
  · rw [ei, nI_eq hi (by omega)] at ei'
    omega
  by_cases zb : b < 0
  · refine br_t zb (h0 (fun i j hi hj ei ej => ?_))
    rw [ej] at zb
    exact absurd zb (nI_pos (by omega))
  refine br_f zb ?_
  obtain ⟨j, hj, ej⟩ := nI_of zb
  refine pk_lt 5 j (fun l => h0 (fun i' j' hi' hj' ei' ej' => ?_)) (fun l' => ?_) rfl ej (by omega) hj
  · rw [ej, nI_eq hj (by omega)] at ej'
    omega
  refine h1 i j (by omega) (by omega) (fun e => c ?_) ei ej
  rw [ei, ej, e]
theorem wr_Y_149 {post : SY → Prop} {J : Int32 → Int32 → Int32 → Int32 → Int32 → Int32 → Int32 → Int32 → Int32 → Prop} {x2 x4 x5 x6 x7 x8 x9 x10 : Int32} {c k : Nat} {cnt : Int32} {len ways sums : Nat → Int32}
    (h : J x4 x5 x6 x7 x8 x9 x10 (wr_b (wr_en c (k + 1))) (nI (k + 1))) : wY_look_149 post J x2 x4 x5 x6 x7 x8 x9 x10 (wr_b (wr_en c k)) (nI k) (nI (wr_D c k)) cnt len ways sums := by
  have hD := wr_D_7 c k
  refine br_c (fun z => ?_) (fun z => ?_)
  · rw [wr_b_0] at z
    refine pk_eq (wr_D c k) 6 (fun e => ?_) (fun e => ?_) rfl rfl (by omega) (by omega)
    · rw [wr_b_t (wr_en_i.2 (Or.inr e))] at h
      exact nm_r (nI_1 k) h
    · rw [wr_b_f (fun y => (wr_en_i.1 y).elim z e)] at h
      exact nm_r (nI_1 k) h
  · have z' : wr_en c k = true := Classical.byContradiction (fun y => z (wr_b_0.2 y))
    rw [wr_b_t (wr_en_i.2 (Or.inl z'))] at h
    exact nm_r (nI_1 k) h
theorem wr_Y_101 {post : SY → Prop} {J : Int32 → Int32 → Int32 → Int32 → Int32 → Int32 → Int32 → Int32 → Int32 → Prop} {G : Nat → Nat} {x2 x4 z0 : Int32} {s t c k U : Nat} (hs : s < 6) (hk : k < 4) (hD : wr_D c k < 6) {cnt : Int32} {ways sums : Nat → Int32} {n0 : Nat} (ez : z0 = wr_b (wr_kk G s t c (k + 1)))
    (h : J x4 (nI (U ||| 2 ^ wr_D c k)) (nI ((wr_rr s c (k + 1)).headD 0)) (nI (wr_s G (wr_rr s c (k + 1)))) (nI (wr_y (wr_rr s c (k + 1)))) (nI (wr_rr s c (k + 1)).length) (wr_b (wr_kk G s t c (k + 1))) (wr_b (wr_en c (k + 1))) (nI (k + 1))) :
    wY_look_101 post J x2 x4 (nI U) (nI ((wr_rr s c k).headD 0)) (nI (wr_s G (wr_rr s c k))) (nI (wr_y (wr_rr s c k))) (nI (wr_rr s c k).length) (wr_b (wr_en c k)) (nI k) (nI (wr_D c k)) z0 cnt (fun i => nI (G i)) ways sums := by
  have hh := wr_rr_hd (c := c) hs k
  have hlt := wr_rr_lt (c := c) hs k
  have hlen := wr_rr_len s c k
  have e := wr_rr_y (s := s) hD
  subst ez
  refine ⟨?_, ?_⟩
  · rw [wr_ixM]; exact vp_in_nI (by omega) (by decide)
  refine nm_r (e' := nI (wr_s G (wr_rr s c (k + 1)))) ?_ ?_
  · rw [wr_ixM, nI_clamp (by omega), nI_add, e, wr_s_c G _ hlen.1]
  refine nm_r (e' := nI (U ||| 2 ^ wr_D c k)) ?_ ?_
  · rw [wr_1l _ hD, wr_or]
  refine nm_r (e' := nI (wr_y (wr_rr s c (k + 1)))) ?_ ?_
  · rw [wr_yc hD hlt (by omega), e]
  refine nm_r (e' := nI (wr_rr s c (k + 1)).length) ?_ ?_
  · rw [nI_1, e]; rfl
  have eh : (wr_rr s c (k + 1)).headD 0 = wr_D c k := by rw [e]; rfl
  rw [eh] at h
  exact wr_Y_149 h
theorem wr_Y_look {post : SY → Prop} {G : Nat → Nat} (hG : ∀ i, G i ≤ 20) {s t : Nat} (hs : s < 6) (ht : t < 6) (hst : s ≠ t) {c : Nat} (hc : c < 2401) {cnt : Int32} {ways sums : Nat → Int32} (hS : wr_YS G t (wr_Y G s t c) cnt ways sums)
    (h : ∀ cnt' ways' sums', wr_YS G t (wr_Y G s t (c + 1)) cnt' ways' sums' → post (cnt', (fun i => nI (G i)), ways', sums')) : wpY_look post (cnt, (fun i => nI (G i)), ways, sums) (nI s) (nI t) (nI c) := by
  refine nm_r (e' := nI (2 ^ s ||| 2 ^ t)) (by rw [wr_1l s hs, wr_1l t ht, wr_or]) ?_
  have key := loop_0 (fun m k (U : Nat) => wY_look_33 post (nI t) cnt (fun i => nI (G i)) ways sums m (nI (c / 7 ^ k)) (nI U) (nI ((wr_rr s c k).headD 0)) (nI (wr_s G (wr_rr s c k))) (nI (wr_y (wr_rr s c k))) (nI (wr_rr s c k).length) (wr_b (wr_kk G s t c k)) (wr_b (wr_en c k)) (nI k))
    (fun k U => wr_U t (wr_rr s c k) U) 4 (2 ^ s ||| 2 ^ t) (wr_U_1 hs ht) ?_ ?_
  · obtain ⟨n, hn⟩ := key
    have hn' : wY_look_33 post (nI t) cnt (fun i => nI (G i)) ways sums n (nI (c / 7 ^ 0)) (nI (2 ^ s ||| 2 ^ t)) (nI s) (nI 0) (nI (wr_y [s])) (nI 1) 1 0 (nI 0) := hn
    have e1 : c / 7 ^ 0 = c := by rw [Nat.pow_zero, Nat.div_one]
    have e2 : wr_y [s] = s := by
      show 0 + s * 16 ^ 0 = s
      rw [Nat.pow_zero]; omega
    rw [e1, e2] at hn'
    exact ⟨n, hn'⟩
  · intro m U hU
    have hh := wr_rr_hd (c := c) hs 4
    have hlt := wr_rr_lt (c := c) hs 4
    have hlen := wr_rr_len s c 4
    have hlt' : ∀ x, x ∈ t :: wr_rr s c 4 → x < 6 := fun x hx => (List.mem_cons.1 hx).elim (fun e => by omega) (fun e => hlt x e)
    have hstay : ¬ wr_cd G s t c = true → post (cnt, (fun i => nI (G i)), ways, sums) := by
      intro no
      refine h _ _ _ ?_
      rw [wr_Y_n no]
      exact hS
    refine br_t (by decide) (br_c (fun z => ?_) (fun z => ?_))
    · rw [wr_b_0] at z
      refine hstay (fun y => z ?_)
      exact (Bool.and_eq_true_iff.1 y).1
    · have hkk : wr_kk G s t c 4 = true := Classical.byContradiction (fun y => z (wr_b_0.2 y))
      have hix : (6 : Int32) * nI ((wr_rr s c 4).headD 0) + nI t = nI ((wr_rr s c 4).headD 0 * 6 + t) := wr_ixM
      have hin : vp_in ((6 : Int32) * nI ((wr_rr s c 4).headD 0) + nI t) 36 := by rw [hix]; exact vp_in_nI (by omega) (by decide)
      have hcl : ((6 : Int32) * nI ((wr_rr s c 4).headD 0) + nI t).toNatClampNeg = (wr_rr s c 4).headD 0 * 6 + t := by rw [hix, nI_clamp (by omega)]
      have hg20 := hG ((wr_rr s c 4).headD 0 * 6 + t)
      refine ⟨hin, ?_⟩
      refine pk_le (G ((wr_rr s c 4).headD 0 * 6 + t)) 0 (fun l => ?_) (fun l => ?_) (by rw [hcl]) rfl (by omega) (by omega)
      · refine hstay (fun y => ?_)
        have := of_decide_eq_true (Bool.and_eq_true_iff.1 y).2
        omega
      · have hcd : wr_cd G s t c = true := by
          unfold wr_cd
          rw [hkk, decide_eq_true l]; rfl
        have hY := wr_Y_y hcd
        have h65 := wr_Y_65 (G := G) (n := c + 1) hs ht hst (by omega)
        rw [hY, List.length_append] at h65
        have h65' : (wr_Y G s t c).length < 65 := h65
        obtain ⟨q1, q2, q3⟩ := hS
        subst q1
        refine br_f (nI_ge (b := 65) h65' (by decide)) ?_
        refine nm_r (e' := nI (wr_y (t :: wr_rr s c 4))) (wr_yc ht hlt (by omega)) ?_
        have last : wY_look_245 post (nI t) (nI ((wr_rr s c 4).headD 0)) (nI (wr_s G (wr_rr s c 4))) (nI (wr_z t (wr_rr s c 4))) (nI (wr_Y G s t c).length) (nI (wr_Y G s t c).length) (fun i => nI (G i)) ways sums := by
          refine ⟨vp_in_nI h65' (by decide), ?_⟩
          refine nm_r (e' := upd ways (wr_Y G s t c).length (nI (wr_z t (wr_rr s c 4)))) (by rw [nI_clamp (by omega)]) ?_
          refine ⟨hin, vp_in_nI h65' (by decide), ?_⟩
          refine nm_r (e' := upd sums (wr_Y G s t c).length (nI (wr_s G (t :: wr_rr s c 4)))) (by rw [hcl, nI_clamp (by omega), nI_add, wr_s_c G t hlen.1]) ?_
          refine nm_r (nI_1 _) (h _ _ _ ?_)
          rw [hY]
          refine ⟨?_, wr_A_push q2 _, wr_A_push q3 _⟩
          rw [List.length_append]; rfl
        refine pk_le 5 (wr_rr s c 4).length (fun l5 => ?_) (fun l5 => ?_) rfl rfl (by omega) (by omega)
        · have e : wr_z t (wr_rr s c 4) = wr_y (t :: wr_rr s c 4) := if_neg (by omega)
          rw [e] at last
          exact last
        · rw [wr_ye hlt' l5]
          exact last
  · intro m k U hk hU next
    have hD7 := wr_D_7 c k
    have hc7 : c / 7 ^ k < 2 ^ 31 := Nat.lt_of_le_of_lt (Nat.div_le_self _ _) (by omega)
    have hh := wr_rr_hd (c := c) hs k
    refine br_f (nI_ge (b := 4) hk (by decide)) ⟨by decide, ?_⟩
    refine nm_r (e' := nI (wr_D c k)) (pk_rem (d := 7) hc7 (by decide) (by decide)) ?_
    refine ⟨by decide, ?_⟩
    refine nm_r (e' := nI (c / 7 ^ (k + 1))) ((pk_div (d := 7) hc7 (by decide) (by decide)).trans (congrArg nI (wr_dv c k))) ?_
    refine pk_le 6 (wr_D c k) (fun l => ?_) (fun l => ?_) rfl rfl (by omega) (by omega)
    · have n6 : ¬ wr_D c k < 6 := by omega
      refine wr_Y_149 ?_
      have := next U (by rw [wr_rr_n n6]; exact hU)
      rw [wr_rr_n n6, wr_kk_n n6] at this
      exact this
    · have nx := next (U ||| 2 ^ wr_D c k) (by rw [wr_rr_y l]; exact wr_U_c l hU)
      have off : ¬ wr_kk G s t c (k + 1) = true → wY_look_100 post (wY_look_33 post (nI t) cnt (fun i => nI (G i)) ways sums m) (nI t) (nI (c / 7 ^ (k + 1))) (nI U) (nI ((wr_rr s c k).headD 0)) (nI (wr_s G (wr_rr s c k))) (nI (wr_y (wr_rr s c k))) (nI (wr_rr s c k).length) (wr_b (wr_en c k)) (nI k) (nI (wr_D c k)) cnt (fun i => nI (G i)) ways sums := by
        intro no
        exact wr_Y_101 (n0 := 0) hs hk l (wr_b_f no).symm nx
      have hi := wr_kk_i (G := G) l hU
      refine br_c (fun z => off (fun y => wr_b_0.1 z (hi.1 y).1)) (fun z1 => ?_)
      refine br_c (fun z2 => ?_) (fun z2 => off (fun y => z2 (wr_b_0.2 (hi.1 y).2.1)))
      have eb := wr_ub hU.1 l
      have hbit : U / 2 ^ wr_D c k % 2 < 2 := Nat.mod_lt _ (by decide)
      refine pk_eq (U / 2 ^ wr_D c k % 2) 0 (fun z3 => ?_) (fun z3 => off (fun y => z3 (hi.1 y).2.2.1)) eb rfl (by omega) (by omega)
      have hix : (6 : Int32) * nI ((wr_rr s c k).headD 0) + nI (wr_D c k) = nI ((wr_rr s c k).headD 0 * 6 + wr_D c k) := wr_ixM
      have hg20 := hG ((wr_rr s c k).headD 0 * 6 + wr_D c k)
      refine ⟨by rw [hix]; exact vp_in_nI (by omega) (by decide), ?_⟩
      refine pk_le (G ((wr_rr s c k).headD 0 * 6 + wr_D c k)) 0 (fun z4 => off (fun y => ?_)) (fun z4 => ?_) (by rw [hix, nI_clamp (by omega)]) rfl (by omega) (by omega)
      · have := (hi.1 y).2.2.2
        omega
      · have y1 : wr_kk G s t c k = true := Classical.byContradiction (fun y => z1 (wr_b_0.2 y))
        exact wr_Y_101 (n0 := 0) hs hk l (wr_b_t (hi.2 ⟨y1, wr_b_0.1 z2, z3, z4⟩)).symm nx
theorem wr_Y_list {post : SY → Prop} {G : Nat → Nat} (hG : ∀ i, G i ≤ 20) {s t : Int32} {tn : Nat} {W : List (List Nat)} (hV : wr_V G s t tn W) {cnt : Int32} {ways sums : Nat → Int32}
    (h : ∀ cnt' ways' sums', wr_YS G tn W cnt' ways' sums' → post (cnt', (fun i => nI (G i)), ways', sums')) : wpY_list post (cnt, (fun i => nI (G i)), ways, sums) s t := by
  rcases hV with ⟨si, hs, ht, hst, es, et, eW⟩ | ⟨no, eW⟩
  · subst es et eW
    refine loop_0 (fun m c (q : Int32 × (Nat → Int32) × (Nat → Int32)) => wY_list_7 post (nI si) (nI tn) m (nI c) q.1 (fun i => nI (G i)) q.2.1 q.2.2)
      (fun c q => wr_YS G tn (wr_Y G si tn c) q.1 q.2.1 q.2.2) 2401 (nI 0, ways, sums) ⟨rfl, wr_A_nil _ _, wr_A_nil _ _⟩ ?_ ?_
    · rintro m ⟨c', w', s'⟩ hq
      exact br_t (by decide) (h c' w' s' hq)
    · rintro m c ⟨c', w', s'⟩ hc hq k
      refine br_f (nI_ge (b := 2401) hc (by decide)) ?_
      refine wr_Y_pair (fun i j hi hj hij ei ej => ?_) (fun no => absurd (no si tn hs ht rfl rfl) hst)
      refine br_f (by decide) ?_
      refine wr_Y_look hG hs ht hst hc hq (fun a b d hS => ?_)
      exact nm_r (nI_1 c) (k (a, b, d) hS)
  · subst eW
    refine ⟨1, ?_⟩
    refine br_f (by decide) ?_
    refine wr_Y_pair (fun i j hi hj hij ei ej => absurd (no i j hi hj ei ej) hij) (fun _ => ?_)
    exact br_t rfl (h _ _ _ ⟨rfl, wr_A_nil _ _, wr_A_nil _ _⟩)
end
section
/-! the reference's digits, order, ranks -/
theorem wr_Y_dg {post : Int32 → Prop} {G : Nat → Nat} {s t : Int32} {tn : Nat} {W : List (List Nat)} (hV : wr_V G s t tn W) {cnt : Int32} {len ways sums : Nat → Int32} (hS : wr_YS G tn W cnt ways sums) {w i : Nat} (hw : w < W.length) (hi : i < (tn :: W[w]).length) {x : Int32} (hx : x = nI i) (h : post (nI (wr_p (tn :: W[w]) i))) : wpY_digit post (cnt, len, ways, sums) (nI w) x := by
  subst hx
  have h65 := wr_V_65 hV
  have hg := wr_V_g hV W[w] (List.getElem_mem hw)
  have hgl := wr_g_l hg
  refine ⟨vp_in_nI (by omega) (by decide), ?_⟩
  have e : ways (nI w).toNatClampNeg = nI (wr_z tn W[w]) := by rw [nI_clamp (by omega)]; exact hS.2.1 w hw
  rw [e, wr_dg (Nat.lt_trans (wr_z_lt hg.1 hg.2.2.2) (by decide)) (by omega), wr_z_d hg.1 hi]
  exact h
theorem wr_Y_be {post : Int32 → Prop} {G : Nat → Nat} (hG : ∀ i, G i ≤ 20) {s t : Int32} {tn : Nat} {W : List (List Nat)} (hV : wr_V G s t tn W) {cnt : Int32} {len ways sums : Nat → Int32} (hS : wr_YS G tn W cnt ways sums) {a b : Nat} (ha : a < W.length) (hb : b < W.length) (hab : a ≠ b)
    (h1 : wr_K G (tn :: W[a]) < wr_K G (tn :: W[b]) → post 1) (h0 : ¬ wr_K G (tn :: W[a]) < wr_K G (tn :: W[b]) → post 0) : wpY_before post (cnt, len, ways, sums) (nI a) (nI b) := by
  have h65 := wr_V_65 hV
  have ma := List.getElem_mem ha
  have mb := List.getElem_mem hb
  have hga := wr_V_g hV W[a] ma
  have hgb := wr_V_g hV W[b] mb
  have sa := wr_s_b hG (tn :: W[a])
  have sb := wr_s_b hG (tn :: W[b])
  have la := wr_g_l hga
  have lb := wr_g_l hgb
  have ne : W[a] ≠ W[b] := fun e => hab ((List.getElem_inj (wr_V_nd hV)).1 e)
  obtain ⟨i, i1, i2, i6, i3, i4, i5, _⟩ := wr_V_lt hV ma mb ne
  have ea : sums (nI a).toNatClampNeg = nI (wr_s G (tn :: W[a])) := by rw [nI_clamp (by omega)]; exact hS.2.2 a ha
  have eb : sums (nI b).toNatClampNeg = nI (wr_s G (tn :: W[b])) := by rw [nI_clamp (by omega)]; exact hS.2.2 b hb
  have va : vp_in (nI a) 65 := vp_in_nI (by omega) (by decide)
  have vb : vp_in (nI b) 65 := vp_in_nI (by omega) (by decide)
  have pa := wr_g_p hga
  have pb := wr_g_p hgb
  refine ⟨va, vb, ?_⟩
  refine pk_eq (wr_s G (tn :: W[a])) (wr_s G (tn :: W[b])) (fun e => ?_) (fun e => ?_) ea eb (by omega) (by omega)
  · refine loop_0 (fun m j (_ : Unit) => wY_before_38 post (nI a) (nI b) cnt len ways sums m (nI j)) (fun _ _ => True) i () trivial ?_ ?_
    · intro m _ _
      have pai := pa i
      have pbi := pb i
      have hia : i < (tn :: W[a]).length := by simp only [List.length_cons]; omega
      have hib : i < (tn :: W[b]).length := by simp only [List.length_cons]; omega
      refine br_f (nI_ge (b := 6) i6 (by decide)) ?_
      refine wr_Y_dg hV hS ha hia rfl (wr_Y_dg hV hS hb hib rfl ?_)
      refine pk_eq (wr_p (tn :: W[a]) i) (wr_p (tn :: W[b]) i) (fun z => absurd z i4) (fun _ => ?_) rfl rfl (by omega) (by omega)
      refine wr_Y_dg hV hS ha hia rfl (wr_Y_dg hV hS hb hib rfl ?_)
      refine pk_le (wr_p (tn :: W[b]) i) (wr_p (tn :: W[a]) i) (fun l => h0 (fun z => ?_)) (fun l => h1 (i5.2 (Or.inr ⟨e, l⟩))) rfl rfl (by omega) (by omega)
      rcases i5.1 z with y | y
      · omega
      · omega
    · intro m j _ hj _ k
      have paj := pa j
      have pbj := pb j
      have hja : j < (tn :: W[a]).length := by simp only [List.length_cons]; omega
      have hjb : j < (tn :: W[b]).length := by simp only [List.length_cons]; omega
      refine br_f (nI_ge (b := 6) (by omega) (by decide)) ?_
      refine wr_Y_dg hV hS ha hja rfl (wr_Y_dg hV hS hb hjb rfl ?_)
      refine pk_eq (wr_p (tn :: W[a]) j) (wr_p (tn :: W[b]) j) (fun _ => nm_r (nI_1 j) (k () trivial)) (fun z => absurd (i3 j hj) z) rfl rfl (by omega) (by omega)
  · refine ⟨va, vb, ?_⟩
    refine pk_le (wr_s G (tn :: W[b])) (wr_s G (tn :: W[a])) (fun l => h0 (fun z => ?_)) (fun l => h1 (i5.2 (Or.inl l))) eb ea (by omega) (by omega)
    rcases i5.1 z with y | y
    · omega
    · exact e y.1
theorem wr_Y_rk {post : Int32 → Prop} {G : Nat → Nat} (hG : ∀ i, G i ≤ 20) {s t : Int32} {tn : Nat} {W : List (List Nat)} (hV : wr_V G s t tn W) {cnt : Int32} {len ways sums : Nat → Int32} (hS : wr_YS G tn W cnt ways sums) {w : Nat} (hw : w < W.length) (h : post (nI (wr_rk G tn W W[w]))) : wpY_rank post (cnt, len, ways, sums) (nI w) := by
  have h65 := wr_V_65 hV
  obtain ⟨e, q2, q3⟩ := hS
  subst e
  refine loop_0 (fun m i x => wY_rank_4 post (nI w) (nI W.length) len ways sums m x (nI i)) (fun i x => x = nI ((W.take i).countP (fun x => decide (wr_K G (tn :: x) < wr_K G (tn :: W[w]))))) W.length (nI 0) rfl ?_ ?_
  · intro m x hx
    rw [List.take_length] at hx
    subst hx
    exact br_t (nI_le (Nat.le_refl _) (by omega)) h
  · intro m i x hi hx k
    subst hx
    have hc := wr_ct (fun x => decide (wr_K G (tn :: x) < wr_K G (tn :: W[w]))) hi
    refine br_f (nI_ge hi (by omega)) ?_
    refine pk_eq i w (fun e => ?_) (fun e => ?_) rfl rfl (by omega) (by omega)
    · refine nm_r (nI_1 i) (k _ ?_)
      rw [hc, if_neg]
      · rfl
      · subst e
        intro z
        exact Nat.lt_irrefl _ (of_decide_eq_true z)
    · refine wr_Y_be hG hV ⟨rfl, q2, q3⟩ hi hw e (fun l => ?_) (fun l => ?_)
      · refine br_f (by decide) (nm_r (nI_1 _) (nm_r (nI_1 i) (k _ ?_)))
        rw [hc, if_pos (decide_eq_true l)]
      · refine br_t rfl (nm_r (nI_1 i) (k _ ?_))
        rw [hc, if_neg]
        · rfl
        · intro z
          exact l (of_decide_eq_true z)
theorem wr_rk_65 {G : Nat → Nat} {s t : Int32} {tn : Nat} {W : List (List Nat)} (hV : wr_V G s t tn W) (r : List Nat) : wr_rk G tn W r < 2 ^ 31 := by
  have h65 := wr_V_65 hV
  have : wr_rk G tn W r ≤ W.length := List.countP_le_length
  omega
def wr_RY (G : Nat → Nat) (v : SY) : Prop := v.2.1 = fun i => nI (G i)
theorem wr_RY_o {G : Nat → Nat} {v : SY} (h : wr_RY G v) : ∃ cnt ways sums, v = (cnt, (fun i => nI (G i)), ways, sums) := by
  obtain ⟨cnt, len, ways, sums⟩ := v
  have h' : len = fun i => nI (G i) := h
  exact ⟨cnt, ways, sums, by rw [h']⟩
theorem wr_Y_find {post : Int32 → SY → Prop} {G : Nat → Nat} (hG : ∀ i, G i ≤ 20) {s t : Int32} {tn : Nat} {W : List (List Nat)} (hV : wr_V G s t tn W) {v : SY} (hv : wr_RY G v) {k : Int32}
    (h1 : ∀ (w : Nat) (hw : w < W.length) cnt' ways' sums', wr_YS G tn W cnt' ways' sums' → k = nI (wr_rk G tn W W[w]) → post (nI w) (cnt', (fun i => nI (G i)), ways', sums'))
    (h0 : ∀ cnt' ways' sums', wr_YS G tn W cnt' ways' sums' → (∀ r, r ∈ W → k ≠ nI (wr_rk G tn W r)) → post (-1) (cnt', (fun i => nI (G i)), ways', sums')) : wpY_find post v s t k := by
  obtain ⟨cnt, ways, sums, rfl⟩ := wr_RY_o hv
  unfold wpY_find
  dsimp only
  refine wr_Y_list hG hV (fun cnt' ways' sums' hS => ?_)
  dsimp only
  have h65 := wr_V_65 hV
  have ec := hS.1
  subst ec
  refine loop_0 (fun m i (_ : Unit) => wY_find_9 post k (nI W.length) (fun i => nI (G i)) ways' sums' m (nI i)) (fun i _ => ∀ (w : Nat) (hw : w < W.length), w < i → k ≠ nI (wr_rk G tn W W[w])) W.length () (fun w hw l => absurd l (Nat.not_lt_zero _)) ?_ ?_
  · intro m _ hI
    refine br_t (nI_le (Nat.le_refl _) (by omega)) (h0 _ _ _ hS (fun r hr => ?_))
    obtain ⟨w, hw, e⟩ := List.mem_iff_getElem.1 hr
    rw [← e]
    exact hI w hw hw
  · intro m i _ hi hI next
    refine br_f (nI_ge hi (by omega)) (wr_Y_rk hG hV hS hi ?_)
    refine br_c (fun c => h1 i hi _ _ _ hS c.symm) (fun c => nm_r (nI_1 i) (next () (fun w hw l => ?_)))
    rcases Nat.lt_or_ge w i with z | z
    · exact hI w hw z
    · have : w = i := by omega
      subst this
      exact fun e => c e.symm
theorem wr_V_t {G : Nat → Nat} {s t : Int32} {tn : Nat} {W : List (List Nat)} (hV : wr_V G s t tn W) {r : List Nat} (hr : r ∈ W) : t = nI tn := by
  rcases hV with ⟨i, _, _, _, _, e, _⟩ | ⟨_, e⟩
  · exact e
  · rw [e] at hr
    exact absurd hr List.not_mem_nil
theorem wr_Y_sz {post : Int32 → Prop} {G : Nat → Nat} {s t : Int32} {tn : Nat} {W : List (List Nat)} (hV : wr_V G s t tn W) {cnt : Int32} {len ways sums : Nat → Int32} (hS : wr_YS G tn W cnt ways sums) {w : Nat} (hw : w < W.length) (h : post (nI (tn :: W[w]).length)) : wpY_sizeOf post (cnt, len, ways, sums) (nI w) t := by
  have hm := List.getElem_mem hw
  have hg := wr_V_g hV W[w] hm
  have et := wr_V_t hV hm
  have hgl := hg.2.2.2
  have htn := hg.1 tn List.mem_cons_self
  have hl : (tn :: W[w]).length = W[w].length + 1 := rfl
  refine loop_0 (fun m j (_ : Unit) => wY_sizeOf_2 post (nI w) t cnt len ways sums m (nI j)) (fun _ _ => True) W[w].length () trivial ?_ ?_
  · intro m _ _
    refine pk_le 5 W[w].length (fun l => ?_) (fun l => ?_) rfl rfl (by omega) (by omega)
    · rw [nI_1]; exact h
    · refine wr_Y_dg hV hS hw (i := W[w].length) (by omega) rfl ?_
      rw [wr_p_hd]
      refine br_t et.symm ?_
      rw [nI_1]; exact h
  · intro m j _ hj _ k
    refine br_f (nI_ge (b := 5) (by omega) (by decide)) (wr_Y_dg hV hS hw (i := j) (by omega) rfl ?_)
    rw [wr_p_tl tn W[w] (by omega)]
    have hmem := wr_p_mem W[w] j hj
    have hlt := hg.1 _ (List.mem_cons_of_mem tn hmem)
    refine br_f ?_ (nm_r (nI_1 j) (k () trivial))
    intro z
    rw [et, nI_eq (by omega) (by omega)] at z
    apply hg.2.1
    rw [← z]
    exact hmem
theorem wr_Y_th {post : Int32 → Prop} {G : Nat → Nat} {s t : Int32} {tn : Nat} {W : List (List Nat)} (hV : wr_V G s t tn W) {cnt : Int32} {len ways sums : Nat → Int32} (hS : wr_YS G tn W cnt ways sums) {w : Nat} (hw : w < W.length) {v : Nat} (hv : v < 6) (h1 : v ∈ tn :: W[w] → post 1) (h0 : v ∉ tn :: W[w] → post 0) : wpY_through post (cnt, len, ways, sums) (nI w) (nI v) t := by
  have hg := wr_V_g hV W[w] (List.getElem_mem hw)
  have hgl := wr_g_l hg
  unfold wpY_through
  dsimp only
  refine wr_Y_sz hV hS hw ?_
  refine loop_0 (fun m i x => wY_through_14 post (nI w) (nI v) (nI (tn :: W[w]).length) cnt len ways sums m x (nI i)) (fun i x => (x = 1 ∧ v ∈ tn :: W[w]) ∨ (x = 0 ∧ ∀ j, j < i → wr_p (tn :: W[w]) j ≠ v)) (tn :: W[w]).length 0 (Or.inr ⟨rfl, lt_0⟩) ?_ ?_
  · rintro m x (⟨hx, hm⟩ | ⟨hx, hm⟩)
    · subst hx
      exact br_t (nI_le (Nat.le_refl _) (by omega)) ⟨rfl, h1 hm⟩
    · subst hx
      refine br_t (nI_le (Nat.le_refl _) (by omega)) ⟨rfl, h0 (fun z => ?_)⟩
      obtain ⟨j, hj, e⟩ := wr_p_of_mem _ _ z
      exact hm j hj e
  · rintro m i x hi (⟨hx, hm⟩ | ⟨hx, hm⟩) k
    · subst hx
      exact br_f (nI_ge hi (by omega)) (br_f (by decide) (nm_r (nI_1 i) (k _ (Or.inl ⟨rfl, hm⟩))))
    · subst hx
      have hp := wr_g_p hg i
      refine br_f (nI_ge hi (by omega)) (br_t rfl (wr_Y_dg hV hS hw hi rfl ?_))
      refine pk_eq (wr_p (tn :: W[w]) i) v (fun e => ?_) (fun e => ?_) rfl rfl (by omega) (by omega)
      · refine nm_r (nI_1 i) (k _ (Or.inl ⟨rfl, ?_⟩))
        rw [← e]
        exact wr_p_mem _ i hi
      · exact nm_r (nI_1 i) (k _ (Or.inr ⟨rfl, lt_s hm e⟩))
end
section
/-! the reference's methods, in terms of the list of ways -/
theorem wr_RY_i {G : Nat → Nat} {cnt : Int32} {ways sums : Nat → Int32} : wr_RY G (cnt, (fun i => nI (G i)), ways, sums) := rfl
theorem wr_Y_ways {post : Int32 → SY → Prop} {G : Nat → Nat} (hG : ∀ i, G i ≤ 20) {s t : Int32} {tn : Nat} {W : List (List Nat)} (hV : wr_V G s t tn W) {v : SY} (hv : wr_RY G v) (h : ∀ v', wr_RY G v' → post (nI W.length) v') : wpY_ways post v s t := by
  obtain ⟨cnt, ways, sums, rfl⟩ := wr_RY_o hv
  unfold wpY_ways
  dsimp only
  refine wr_Y_list hG hV (fun cnt' ways' sums' hS => ?_)
  dsimp only
  rw [hS.1]
  exact h _ rfl
theorem wr_Y_length {post : Int32 → SY → Prop} {G : Nat → Nat} (hG : ∀ i, G i ≤ 20) {s t : Int32} {tn : Nat} {W : List (List Nat)} (hV : wr_V G s t tn W) {v : SY} (hv : wr_RY G v) {k : Int32}
    (h1 : ∀ v' r, wr_RY G v' → r ∈ W → k = nI (wr_rk G tn W r) → post (nI (wr_s G (tn :: r))) v') (h0 : ∀ v', wr_RY G v' → (∀ r, r ∈ W → k ≠ nI (wr_rk G tn W r)) → post (-1) v') : wpY_length post v s t k := by
  have h65 := wr_V_65 hV
  obtain ⟨cnt, ways, sums, rfl⟩ := wr_RY_o hv
  unfold wpY_length
  dsimp only
  refine wr_Y_find hG hV wr_RY_i (fun w hw cnt' ways' sums' hS e => ?_) (fun cnt' ways' sums' hS no => ?_)
  · dsimp only
    refine br_t (nI_pos' (by omega)) ⟨vp_in_nI (by omega) (by decide), ?_⟩
    have es : sums' (nI w).toNatClampNeg = nI (wr_s G (tn :: W[w])) := by rw [nI_clamp (by omega)]; exact hS.2.2 w hw
    rw [es]
    exact h1 _ _ rfl (List.getElem_mem hw) e
  · dsimp only
    exact br_f (by decide) (h0 _ rfl no)
theorem wr_Y_size {post : Int32 → SY → Prop} {G : Nat → Nat} (hG : ∀ i, G i ≤ 20) {s t : Int32} {tn : Nat} {W : List (List Nat)} (hV : wr_V G s t tn W) {v : SY} (hv : wr_RY G v) {k : Int32}
    (h1 : ∀ v' r, wr_RY G v' → r ∈ W → k = nI (wr_rk G tn W r) → post (nI (tn :: r).length) v') (h0 : ∀ v', wr_RY G v' → (∀ r, r ∈ W → k ≠ nI (wr_rk G tn W r)) → post (-1) v') : wpY_size post v s t k := by
  have h65 := wr_V_65 hV
  obtain ⟨cnt, ways, sums, rfl⟩ := wr_RY_o hv
  unfold wpY_size
  dsimp only
  refine wr_Y_find hG hV wr_RY_i (fun w hw cnt' ways' sums' hS e => ?_) (fun cnt' ways' sums' hS no => ?_)
  · dsimp only
    refine br_t (nI_pos' (by omega)) (wr_Y_sz hV hS hw ?_)
    exact h1 _ _ rfl (List.getElem_mem hw) e
  · dsimp only
    exact br_f (by decide) (h0 _ rfl no)
theorem wr_Y_placeM {post : Int32 → SY → Prop} {G : Nat → Nat} (hG : ∀ i, G i ≤ 20) {s t : Int32} {tn : Nat} {W : List (List Nat)} (hV : wr_V G s t tn W) {v : SY} (hv : wr_RY G v) {k i : Int32}
    (h1 : ∀ v' r j, wr_RY G v' → r ∈ W → k = nI (wr_rk G tn W r) → i = nI j → j < (tn :: r).length → post (nI (wr_p (tn :: r) j)) v') (h2 : ∀ v' r, wr_RY G v' → r ∈ W → k = nI (wr_rk G tn W r) → (∀ j, j < (tn :: r).length → i ≠ nI j) → post (-1) v')
    (h0 : ∀ v', wr_RY G v' → (∀ r, r ∈ W → k ≠ nI (wr_rk G tn W r)) → post (-1) v') : wpY_place post v s t k i := by
  have h65 := wr_V_65 hV
  obtain ⟨cnt, ways, sums, rfl⟩ := wr_RY_o hv
  unfold wpY_place
  dsimp only
  refine wr_Y_find hG hV wr_RY_i (fun w hw cnt' ways' sums' hS e => ?_) (fun cnt' ways' sums' hS no => ?_)
  · dsimp only
    have hm := List.getElem_mem hw
    have hgl := wr_g_l (wr_V_g hV W[w] hm)
    refine br_f (nI_pos (by omega)) ?_
    by_cases z : i < 0
    · refine br_t z (h2 _ _ rfl hm e (fun j' hj' e => ?_))
      rw [e] at z
      exact nI_pos (by omega) z
    · obtain ⟨i', hi', ei⟩ := nI_of z
      refine br_f z (wr_Y_sz hV hS hw ?_)
      refine pk_lt i' (tn :: W[w]).length (fun l => ?_) (fun l => ?_) ei rfl hi' (by omega)
      · refine wr_Y_dg hV hS hw l ei ?_
        exact h1 _ _ i' rfl hm e ei l
      · refine h2 _ _ rfl hm e (fun j' hj' e => ?_)
        rw [ei, nI_eq hi' (by omega)] at e
        omega
  · dsimp only
    exact br_t (by decide) (h0 _ rfl no)
theorem wr_Y_within {post : Int32 → SY → Prop} {G : Nat → Nat} (hG : ∀ i, G i ≤ 20) {s t : Int32} {tn : Nat} {W : List (List Nat)} (hV : wr_V G s t tn W) {v : SY} (hv : wr_RY G v) {x : Int32} (h : ∀ v', wr_RY G v' → post (nI (wr_wi G tn W x)) v') : wpY_within post v s t x := by
  have h65 := wr_V_65 hV
  obtain ⟨cnt, ways, sums, rfl⟩ := wr_RY_o hv
  unfold wpY_within
  dsimp only
  refine wr_Y_list hG hV (fun cnt' ways' sums' hS => ?_)
  obtain ⟨ec, q2, q3⟩ := hS
  subst ec
  dsimp only
  refine loop_0 (fun m i y => wY_within_12 post x (nI W.length) (fun i => nI (G i)) ways' sums' m y (nI i)) (fun i y => y = nI ((W.take i).countP (fun r => decide (nI (wr_s G (tn :: r)) ≤ x)))) W.length (nI 0) rfl ?_ ?_
  · intro m y hy
    rw [List.take_length] at hy
    subst hy
    exact br_t (nI_le (Nat.le_refl _) (by omega)) (h _ rfl)
  · intro m i y hi hy k
    subst hy
    have es : sums' (nI i).toNatClampNeg = nI (wr_s G (tn :: W[i])) := by rw [nI_clamp (by omega)]; exact q3 i hi
    have hc := wr_ct (fun r => decide (nI (wr_s G (tn :: r)) ≤ x)) hi
    refine br_f (nI_ge hi (by omega)) ⟨vp_in_nI (by omega) (by decide), ?_⟩
    rw [es]
    refine br_c (fun c => ?_) (fun c => ?_)
    · refine nm_r (nI_1 i) (k _ ?_)
      rw [hc, if_neg]
      · rfl
      · intro z
        exact Int32.not_lt.mpr (of_decide_eq_true z) c
    · refine nm_r (nI_1 _) (nm_r (nI_1 i) (k _ ?_))
      rw [hc, if_pos]
      exact decide_eq_true (Int32.not_lt.mp c)
theorem wr_Y_shortest {post : Int32 → SY → Prop} {G : Nat → Nat} (hG : ∀ i, G i ≤ 20) {s t : Int32} {tn : Nat} {W : List (List Nat)} (hV : wr_V G s t tn W) {v : SY} (hv : wr_RY G v)
    (h1 : ∀ v' r, wr_RY G v' → r ∈ W → (0 : Int32) = nI (wr_rk G tn W r) → post (nI (wr_wi G tn W (nI (wr_s G (tn :: r))))) v') (h0 : ∀ v', wr_RY G v' → (∀ r, r ∈ W → (0 : Int32) ≠ nI (wr_rk G tn W r)) → post 0 v') : wpY_shortest post v s t := by
  obtain ⟨cnt, ways, sums, rfl⟩ := wr_RY_o hv
  unfold wpY_shortest
  dsimp only
  refine wr_Y_length hG hV wr_RY_i (fun v' r hv' hr e => ?_) (fun v' hv' no => ?_)
  · obtain ⟨cnt', ways', sums', rfl⟩ := wr_RY_o hv'
    dsimp only
    have sb := wr_s_b hG (tn :: r)
    have lb := wr_g_l (wr_V_g hV r hr)
    refine br_t (nI_pos' (by omega)) (wr_Y_within hG hV wr_RY_i (fun v'' hv'' => ?_))
    obtain ⟨cnt'', ways'', sums'', rfl⟩ := wr_RY_o hv''
    exact h1 _ r rfl hr e
  · obtain ⟨cnt', ways', sums', rfl⟩ := wr_RY_o hv'
    dsimp only
    exact br_f (by decide) (h0 _ rfl no)
theorem wr_Y_47 {post : Int32 → SY → Prop} {J : Int32 → Int32 → Prop} {G : Nat → Nat} {s t : Int32} {tn : Nat} {W : List (List Nat)} (hV : wr_V G s t tn W) {len ways sums : Nat → Int32} (hS : wr_YS G tn W (nI W.length) ways sums) {v : Nat} (hv : v < 6) {x5 : Int32} (b : Bool) (eb : x5 = wr_b b) (hb : b = true ↔ (¬ nI v = s ∧ ¬ nI v = t))
    (h : J (wr_mu s t tn W (v + 1)) (nI (v + 1))) : ∃ n, wY_musts_47 post J s t (wr_mu s t tn W v) (nI v) (nI W.length) len ways sums n x5 0 := by
  have h65 := wr_V_65 hV
  subst eb
  refine loop_0 (fun m i x => wY_musts_47 post J s t (wr_mu s t tn W v) (nI v) (nI W.length) len ways sums m x (nI i)) (fun i x => ∃ c : Bool, x = wr_b c ∧ (c = true ↔ (b = true ∧ ∀ (w : Nat) (hw : w < W.length), w < i → v ∈ tn :: W[w]))) W.length (wr_b b) ⟨b, rfl, fun z => ⟨z, fun w hw l => absurd l (Nat.not_lt_zero _)⟩, fun z => z.1⟩ ?_ ?_
  · rintro m x ⟨c, hx, hc⟩
    subst hx
    have hall : wr_al tn W v = true ↔ ∀ (w : Nat) (hw : w < W.length), w < W.length → v ∈ tn :: W[w] := by
      rw [wr_al_i]
      constructor
      · intro z w hw _
        exact z _ (List.getElem_mem hw)
      · intro z r hr
        obtain ⟨w, hw, e⟩ := List.mem_iff_getElem.1 hr
        rw [← e]
        exact z w hw hw
    refine br_t (nI_le (Nat.le_refl _) (by omega)) (br_c (fun z => ?_) (fun z => ?_))
    · rw [wr_b_0] at z
      have e := wr_mu_n (s := s) (t := t) (tn := tn) (W := W) (v := v) (fun y => z (hc.2 ⟨hb.2 ⟨y.1, y.2.1⟩, hall.1 y.2.2⟩))
      rw [e] at h
      exact nm_r (nI_1 v) h
    · have z' : c = true := Classical.byContradiction (fun y => z (wr_b_0.2 y))
      have y := hc.1 z'
      have e := wr_mu_y (hb.1 y.1).1 (hb.1 y.1).2 (hall.2 y.2)
      rw [e] at h
      exact nm_e (nm_r (nI_1 v) h)
  · rintro m i x hi ⟨c, hx, hc⟩ k
    subst hx
    have off : (¬ c = true ∨ v ∉ tn :: W[i]) → wY_musts_47 post J s t (wr_mu s t tn W v) (nI v) (nI W.length) len ways sums m 0 (nI (i + 1)) := by
      intro no
      refine k _ ⟨false, rfl, fun y => absurd y (by decide), fun y => ?_⟩
      rcases no with z | z
      · exact absurd (hc.2 ⟨y.1, fun w hw l => y.2 w hw (by omega)⟩) z
      · exact absurd (y.2 i hi (by omega)) z
    refine br_f (nI_ge hi (by omega)) (br_c (fun z => ?_) (fun z => ?_))
    · exact nm_r (nI_1 i) (off (Or.inl (wr_b_0.1 z)))
    · have z' : c = true := Classical.byContradiction (fun y => z (wr_b_0.2 y))
      refine wr_Y_th hV hS hi hv (fun y => ?_) (fun y => ?_)
      · refine br_f (by decide) (nm_r (nI_1 i) (k _ ⟨true, rfl, fun _ => ⟨(hc.1 z').1, fun w hw l => ?_⟩, fun _ => rfl⟩))
        rcases Nat.lt_or_ge w i with l' | l'
        · exact (hc.1 z').2 w hw l'
        · have : w = i := by omega
          subst this
          exact y
      · exact br_t rfl (nm_r (nI_1 i) (off (Or.inr y)))
theorem wr_Y_musts {post : Int32 → SY → Prop} {G : Nat → Nat} (hG : ∀ i, G i ≤ 20) {s t : Int32} {tn : Nat} {W : List (List Nat)} (hV : wr_V G s t tn W) {v : SY} (hv : wr_RY G v)
    (h1 : ∀ v', wr_RY G v' → W ≠ [] → post (wr_mu s t tn W 6) v') (h0 : ∀ v', wr_RY G v' → W = [] → post 0 v') : wpY_musts post v s t := by
  have h65 := wr_V_65 hV
  obtain ⟨cnt, ways, sums, rfl⟩ := wr_RY_o hv
  unfold wpY_musts
  dsimp only
  refine wr_Y_list hG hV (fun cnt' ways' sums' hS => ?_)
  have ec := hS.1
  subst ec
  dsimp only
  by_cases hW : W = []
  · refine ⟨1, br_f (by decide) (br_t ?_ (h0 _ rfl hW))⟩
    rw [hW]
    decide
  · have hpos : 0 < W.length := List.length_pos_iff.2 hW
    refine loop_0 (fun m i x => wY_musts_11 post s t (nI W.length) (fun i => nI (G i)) ways' sums' m x (nI i)) (fun i x => x = wr_mu s t tn W i) 6 0 rfl ?_ ?_
    · intro m x hx
      subst hx
      exact br_t (by decide) (h1 _ rfl hW)
    · intro m i x hi hx k
      subst hx
      refine br_f (nI_ge (b := 6) hi (by decide)) (br_f (nI_nle hpos (by omega)) ?_)
      have nx := k _ rfl
      refine br_c (fun c => ?_) (fun c1 => br_c (fun c => ?_) (fun c2 => ?_))
      · exact wr_Y_47 hV hS hi false rfl ⟨fun z => absurd z (by decide), fun z => absurd c z.1⟩ nx
      · exact wr_Y_47 hV hS hi false rfl ⟨fun z => absurd z (by decide), fun z => absurd c z.2⟩ nx
      · exact wr_Y_47 hV hS hi true rfl ⟨fun _ => ⟨c1, c2⟩, fun _ => rfl⟩ nx
theorem wr_Y_fa {post : Int32 → SY → Prop} {G : Nat → Nat} (hG : ∀ i, G i ≤ 20) {s t : Int32} {tn : Nat} {W : List (List Nat)} (hV : wr_V G s t tn W) {y : SY} (hy : wr_RY G y) {v : Nat} (hv : v < 6) (ns : ¬ nI v = s) (nt : ¬ nI v = t)
    (h1 : ∀ v' r, wr_RY G v' → r ∈ W → v ∉ tn :: r → (∀ r', r' ∈ W → v ∉ tn :: r' → wr_rk G tn W r ≤ wr_rk G tn W r') → post (nI (wr_rk G tn W r)) v') (h0 : ∀ v', wr_RY G v' → (∀ r, r ∈ W → v ∈ tn :: r) → post (-1) v') : wpY_firstAvoiding post y s t (nI v) := by
  have h65 := wr_V_65 hV
  obtain ⟨cnt, ways, sums, rfl⟩ := wr_RY_o hy
  refine br_f ns (br_f nt (br_f (nI_pos (by omega)) (br_t (nI_le (b := 5) (by omega) (by decide)) ?_)))
  refine wr_Y_list hG hV (fun cnt' ways' sums' hS => ?_)
  have ec := hS.1
  subst ec
  dsimp only
  refine loop_0 (fun m i x => wY_firstAvoiding_33 post t (nI v) (nI W.length) (fun i => nI (G i)) ways' sums' m x (nI i))
    (fun i x => (x = -1 ∧ ∀ (w : Nat) (hw : w < W.length), w < i → v ∈ tn :: W[w]) ∨ (∃ r, r ∈ W ∧ v ∉ tn :: r ∧ x = nI (wr_rk G tn W r) ∧ ∀ (w : Nat) (hw : w < W.length), w < i → v ∉ tn :: W[w] → wr_rk G tn W r ≤ wr_rk G tn W W[w])) W.length (-1) (Or.inl ⟨rfl, fun w hw l => absurd l (Nat.not_lt_zero _)⟩) ?_ ?_
  · rintro m x (⟨hx, hI⟩ | ⟨r, hr, nr, hx, hI⟩)
    · subst hx
      refine br_t (nI_le (Nat.le_refl _) (by omega)) (h0 _ rfl (fun r hr => ?_))
      obtain ⟨w, hw, e⟩ := List.mem_iff_getElem.1 hr
      rw [← e]
      exact hI w hw hw
    · subst hx
      refine br_t (nI_le (Nat.le_refl _) (by omega)) (h1 _ r rfl hr nr (fun r' hr' nr' => ?_))
      obtain ⟨w, hw, e⟩ := List.mem_iff_getElem.1 hr'
      rw [← e]
      rw [← e] at nr'
      exact hI w hw hw nr'
  · intro m i x hi hI k
    have hm := List.getElem_mem hi
    refine br_f (nI_ge hi (by omega)) (wr_Y_rk hG hV hS hi (wr_Y_th hV hS hi hv (fun yes => ?_) (fun no => ?_)))
    · refine br_f (by decide) (nm_r (nI_1 i) (k x ?_))
      rcases hI with ⟨hx, hI⟩ | ⟨r, hr, nr, hx, hI⟩
      · refine Or.inl ⟨hx, fun w hw l => ?_⟩
        rcases Nat.lt_or_ge w i with l' | l'
        · exact hI w hw l'
        · have : w = i := by omega
          subst this
          exact yes
      · refine Or.inr ⟨r, hr, nr, hx, fun w hw l nw => ?_⟩
        rcases Nat.lt_or_ge w i with l' | l'
        · exact hI w hw l' nw
        · have : w = i := by omega
          subst this
          exact absurd yes nw
    · refine br_t rfl ?_
      rcases hI with ⟨hx, hI⟩ | ⟨r, hr, nr, hx, hI⟩
      · subst hx
        refine br_t (by decide) (nm_r (nI_1 i) (k _ (Or.inr ⟨W[i], hm, no, rfl, fun w hw l nw => ?_⟩)))
        rcases Nat.lt_or_ge w i with l' | l'
        · exact absurd (hI w hw l') nw
        · have : w = i := by omega
          subst this
          exact Nat.le_refl _
      · subst hx
        refine br_f (nI_pos (wr_rk_65 hV r)) ?_
        refine pk_le (wr_rk G tn W r) (wr_rk G tn W W[i]) (fun l0 => ?_) (fun l0 => ?_) rfl rfl (wr_rk_65 hV r) (wr_rk_65 hV W[i])
        · refine nm_r (nI_1 i) (k _ (Or.inr ⟨r, hr, nr, rfl, fun w hw l nw => ?_⟩))
          rcases Nat.lt_or_ge w i with l' | l'
          · exact hI w hw l' nw
          · have : w = i := by omega
            subst this
            exact l0
        · refine nm_r (nI_1 i) (k _ (Or.inr ⟨W[i], hm, no, rfl, fun w hw l nw => ?_⟩))
          rcases Nat.lt_or_ge w i with l' | l'
          · exact Nat.le_trans (Nat.le_of_lt l0) (hI w hw l' nw)
          · have : w = i := by omega
            subst this
            exact Nat.le_refl _
theorem wr_Y_road {post : Int32 → Prop} {G : Nat → Nat} {cnt : Int32} {ways sums : Nat → Int32} (hG : ∀ i, G i ≤ 20) {a b : Nat} (ha : a < 6) (hb : b < 6)
    (h0 : (a = b ∨ G (a * 6 + b) = 0) → post (-1)) (h1 : a ≠ b → 0 < G (a * 6 + b) → post (nI (G (a * 6 + b)))) : wpY_road post (cnt, (fun i => nI (G i)), ways, sums) (nI a) (nI b) := by
  unfold wpY_road
  dsimp only
  refine wr_Y_pair (fun i j hi hj hij ei ej => ?_) (fun no => ?_)
  · rw [nI_eq (by omega) (by omega)] at ei ej
    subst ei ej
    have hg := hG (a * 6 + b)
    have hin : vp_in ((6 : Int32) * nI a + nI b) 36 := by rw [wr_ixM]; exact vp_in_nI (by omega) (by omega)
    have hcl : ((6 : Int32) * nI a + nI b).toNatClampNeg = a * 6 + b := by rw [wr_ixM, nI_clamp (by omega)]
    refine br_f (by decide) ⟨hin, ?_⟩
    rw [hcl]
    exact pk_le (G (a * 6 + b)) 0 (fun e => h0 (Or.inr (by omega))) (fun e => ⟨hin, h1 hij e⟩) rfl rfl (by omega) (by omega)
  · exact br_t rfl (h0 (Or.inl (no a b ha hb rfl rfl)))
theorem wr_Y_roadN {post : Int32 → Prop} {u : SY} {a b : Int32} (no : ∀ i j, i < 6 → j < 6 → a = nI i → b = nI j → i = j) (h : post (-1)) : wpY_road post u a b := by
  obtain ⟨cnt, len, ways, sums⟩ := u
  unfold wpY_road
  dsimp only
  refine wr_Y_pair (fun i j hi hj hij ei ej => absurd (no i j hi hj ei ej) hij) (fun _ => ?_)
  exact br_t rfl h
theorem wr_upd_0 (G : Nat → Nat) (k : Nat) : upd (fun i => nI (G i)) k 0 = fun i => nI (wr_cut G k i) := by
  funext j
  show (if j = k then (0 : Int32) else nI (G j)) = nI (if j = k then 0 else G j)
  by_cases e : j = k
  · rw [if_pos e, if_pos e]; rfl
  · rw [if_neg e, if_neg e]
theorem wr_upd_b (G : Nat → Nat) (k : Nat) : upd (fun i => nI (wr_cut G k i)) k (nI (G k)) = fun i => nI (G i) := by
  funext j
  show (if j = k then nI (G k) else nI (if j = k then 0 else G j)) = nI (G j)
  by_cases e : j = k
  · rw [if_pos e, e]
  · rw [if_neg e, if_neg e]
theorem wr_Y_detour {post : Int32 → SY → Prop} {G : Nat → Nat} (hG : ∀ i, G i ≤ 20) {s t : Int32} {tn : Nat} {W : List (List Nat)} (hV : wr_V G s t tn W) {v : SY} (hv : wr_RY G v) {a b : Nat} (ha : a < 6) (hb : b < 6) (hab : a ≠ b) (hg : 0 < G (a * 6 + b))
    {W' : List (List Nat)} (hV' : wr_V (wr_cut G (a * 6 + b)) s t tn W')
    (h1 : ∀ v' r r', wr_RY G v' → r ∈ W → (0 : Int32) = nI (wr_rk G tn W r) → r' ∈ W' → (0 : Int32) = nI (wr_rk (wr_cut G (a * 6 + b)) tn W' r') → post (nI (wr_s (wr_cut G (a * 6 + b)) (tn :: r')) - nI (wr_s G (tn :: r))) v')
    (h2 : ∀ v' r, wr_RY G v' → r ∈ W → (0 : Int32) = nI (wr_rk G tn W r) → (∀ r, r ∈ W' → (0 : Int32) ≠ nI (wr_rk (wr_cut G (a * 6 + b)) tn W' r)) → post (-1) v') (h0 : ∀ v', wr_RY G v' → (∀ r, r ∈ W → (0 : Int32) ≠ nI (wr_rk G tn W r)) → post 0 v') : wpY_detour post v s t (nI a) (nI b) := by
  obtain ⟨cnt, ways, sums, rfl⟩ := wr_RY_o hv
  have hin : vp_in ((6 : Int32) * nI a + nI b) 36 := by rw [wr_ixM]; exact vp_in_nI (by omega) (by omega)
  have hcl : ((6 : Int32) * nI a + nI b).toNatClampNeg = a * 6 + b := by rw [wr_ixM, nI_clamp (by omega)]
  have hg20 := hG (a * 6 + b)
  unfold wpY_detour
  dsimp only
  refine wr_Y_length hG hV wr_RY_i (fun v' r hv' hr e => ?_) (fun v' hv' no => ?_)
  · obtain ⟨cnt', ways', sums', rfl⟩ := wr_RY_o hv'
    dsimp only
    have sb := wr_s_b hG (tn :: r)
    have lb := wr_g_l (wr_V_g hV r hr)
    refine wr_Y_road hG ha hb (fun no => ?_) (fun _ _ => ?_)
    · rcases no with z | z
      · exact absurd z hab
      · omega
    refine br_f (nI_pos (by omega)) (br_t (nI_pos' (by omega)) ⟨hin, ?_⟩)
    refine nm_r (e' := fun i => nI (wr_cut G (a * 6 + b) i)) (by rw [hcl]; exact wr_upd_0 G (a * 6 + b)) ?_
    refine wr_Y_length (wr_cut_G hG (a * 6 + b)) hV' wr_RY_i (fun v'' r' hv'' hr' e' => ?_) (fun v'' hv'' no => ?_)
    · obtain ⟨cnt'', ways'', sums'', rfl⟩ := wr_RY_o hv''
      dsimp only
      have sb' := wr_s_b (wr_cut_G hG (a * 6 + b)) (tn :: r')
      have lb' := wr_g_l (wr_V_g hV' r' hr')
      refine ⟨hin, nm_r (e' := fun i => nI (G i)) (by rw [hcl]; exact wr_upd_b G (a * 6 + b)) ?_⟩
      exact br_t (nI_pos' (by omega)) (h1 _ r r' rfl hr e hr' e')
    · obtain ⟨cnt'', ways'', sums'', rfl⟩ := wr_RY_o hv''
      dsimp only
      refine ⟨hin, nm_r (e' := fun i => nI (G i)) (by rw [hcl]; exact wr_upd_b G (a * 6 + b)) ?_⟩
      exact br_f (by decide) (h2 _ r rfl hr e no)
  · obtain ⟨cnt', ways', sums', rfl⟩ := wr_RY_o hv'
    dsimp only
    refine wr_Y_road hG ha hb (fun no => ?_) (fun _ _ => ?_)
    · rcases no with z | z
      · exact absurd z hab
      · omega
    exact br_t (by decide) (h0 _ rfl no)
end
section
/-! roads: build, close, road, roads, and a detour without a road -/
def wr_set (G : Nat → Nat) (k n : Nat) : Nat → Nat := fun j => if j = k then n else G j
theorem wr_upd_s (G : Nat → Nat) (k n : Nat) : upd (fun i => nI (G i)) k (nI n) = fun i => nI (wr_set G k n i) := by
  funext j
  show (if j = k then nI n else nI (G j)) = nI (if j = k then n else G j)
  by_cases e : j = k
  · rw [if_pos e, if_pos e]
  · rw [if_neg e, if_neg e]
theorem wr_set_G {G : Nat → Nat} (hG : ∀ i, G i ≤ 20) (k : Nat) {n : Nat} (hn : n ≤ 20) : ∀ i, wr_set G k n i ≤ 20 := by
  intro i
  unfold wr_set
  by_cases e : i = k
  · rw [if_pos e]; exact hn
  · rw [if_neg e]; exact hG i
theorem wr_len_of {x : Int32} (h1 : ¬ x < 1) (h2 : x ≤ 20) : ∃ n, 1 ≤ n ∧ n ≤ 20 ∧ x = nI n := by
  have e1 : (1 : Int32).toInt = 1 := by decide
  have e0 : (0 : Int32).toInt = 0 := by decide
  have e20 : (20 : Int32).toInt = 20 := by decide
  have z : ¬ x < 0 := by
    intro z
    apply h1
    rw [Int32.lt_iff_toInt_lt] at z ⊢
    omega
  obtain ⟨n, hn, e⟩ := nI_of z
  subst e
  rw [Int32.lt_iff_toInt_lt, nI_toInt hn, e1] at h1
  rw [Int32.le_iff_toInt_le, nI_toInt hn, e20] at h2
  exact ⟨n, by omega, by omega, rfl⟩
/-- a road that can be built -/
def wr_gb (a b c : Int32) (i j n : Nat) : Prop := i < 6 ∧ j < 6 ∧ i ≠ j ∧ a = nI i ∧ b = nI j ∧ c = nI n ∧ 1 ≤ n ∧ n ≤ 20
theorem wr_X_build {post : Int32 → SX → Prop} {G : Nat → Nat} {u : SX} (hu : wr_RX G u) {a b c : Int32} (h1 : ∀ i j n u', wr_gb a b c i j n → wr_RX (wr_set G (i * 6 + j) n) u' → post 1 u') (h0 : (∀ i j n, ¬ wr_gb a b c i j n) → post 0 u) : wpX_build post u a b c := by
  obtain ⟨tc, rc, tr, rk, rfl⟩ := wr_RX_o hu
  unfold wpX_build
  dsimp only
  refine wr_X_pair (fun i j hi hj hij ei ej => ?_) (fun no => ?_)
  · refine br_f (by decide) (br_c (fun z => ?_) (fun z1 => br_c (fun z2 => ?_) (fun z2 => ?_)))
    · refine h0 (fun i' j' n g => ?_)
      rw [g.2.2.2.2.2.1] at z
      exact nI_nlt (b := 1) g.2.2.2.2.2.2.1 (by have := g.2.2.2.2.2.2.2; omega) z
    · obtain ⟨n, n1, n2, e⟩ := wr_len_of z1 z2
      subst ei ej e
      refine ⟨by rw [wr_ixN]; exact vp_in_nI (by omega) (by decide), ?_⟩
      refine nm_r (e' := fun x => nI (wr_set G (i * 6 + j) n x)) (by rw [wr_ixN, nI_clamp (by omega)]; exact wr_upd_s G (i * 6 + j) n) ?_
      exact h1 i j n _ ⟨hi, hj, hij, rfl, rfl, rfl, n1, n2⟩ rfl
    · refine h0 (fun i' j' n g => z2 ?_)
      rw [g.2.2.2.2.2.1]
      exact nI_le (b := 20) g.2.2.2.2.2.2.2 (by decide)
  · exact br_t rfl (h0 (fun i j n g => g.2.2.1 (no i j g.1 g.2.1 g.2.2.2.1 g.2.2.2.2.1)))
theorem wr_Y_build {post : Int32 → SY → Prop} {G : Nat → Nat} {v : SY} (hv : wr_RY G v) {a b c : Int32} (h1 : ∀ i j n v', wr_gb a b c i j n → wr_RY (wr_set G (i * 6 + j) n) v' → post 1 v') (h0 : (∀ i j n, ¬ wr_gb a b c i j n) → post 0 v) : wpY_build post v a b c := by
  obtain ⟨cnt, ways, sums, rfl⟩ := wr_RY_o hv
  unfold wpY_build
  dsimp only
  refine wr_Y_pair (fun i j hi hj hij ei ej => ?_) (fun no => ?_)
  · refine br_f (by decide) (br_c (fun z => ?_) (fun z1 => br_c (fun z2 => ?_) (fun z2 => ?_)))
    · refine h0 (fun i' j' n g => ?_)
      rw [g.2.2.2.2.2.1] at z
      exact nI_nlt (b := 1) g.2.2.2.2.2.2.1 (by have := g.2.2.2.2.2.2.2; omega) z
    · obtain ⟨n, n1, n2, e⟩ := wr_len_of z1 z2
      subst ei ej e
      refine ⟨by rw [wr_ixM]; exact vp_in_nI (by omega) (by decide), ?_⟩
      refine nm_r (e' := fun x => nI (wr_set G (i * 6 + j) n x)) (by rw [wr_ixM, nI_clamp (by omega)]; exact wr_upd_s G (i * 6 + j) n) ?_
      exact h1 i j n _ ⟨hi, hj, hij, rfl, rfl, rfl, n1, n2⟩ rfl
    · refine h0 (fun i' j' n g => z2 ?_)
      rw [g.2.2.2.2.2.1]
      exact nI_le (b := 20) g.2.2.2.2.2.2.2 (by decide)
  · exact br_t rfl (h0 (fun i j n g => g.2.2.1 (no i j g.1 g.2.1 g.2.2.2.1 g.2.2.2.2.1)))
theorem wr_gb_u {a b c : Int32} {i j n i' j' n' : Nat} (h : wr_gb a b c i j n) (h' : wr_gb a b c i' j' n') : i = i' ∧ j = j' ∧ n = n' := by
  obtain ⟨a1, a2, a3, a4, a5, a6, a7, a8⟩ := h
  obtain ⟨b1, b2, b3, b4, b5, b6, b7, b8⟩ := h'
  rw [a4, nI_eq (by omega) (by omega)] at b4
  rw [a5, nI_eq (by omega) (by omega)] at b5
  rw [a6, nI_eq (by omega) (by omega)] at b6
  exact ⟨b4, b5, b6⟩
/-- there is a road; there is none -/
def wr_gr (G : Nat → Nat) (a b : Int32) (i j : Nat) : Prop := i < 6 ∧ j < 6 ∧ i ≠ j ∧ a = nI i ∧ b = nI j ∧ 0 < G (i * 6 + j)
theorem wr_X_rd {post : Int32 → Prop} {G : Nat → Nat} (hG : ∀ i, G i ≤ 20) {u : SX} (hu : wr_RX G u) {a b : Int32} (h1 : ∀ i j, wr_gr G a b i j → post (nI (G (i * 6 + j)))) (h0 : (∀ i j, ¬ wr_gr G a b i j) → post (-1)) : wpX_road post u a b := by
  obtain ⟨tc, rc, tr, rk, rfl⟩ := wr_RX_o hu
  by_cases h : ∃ i j, i < 6 ∧ j < 6 ∧ a = nI i ∧ b = nI j
  · obtain ⟨i, j, hi, hj, ei, ej⟩ := h
    subst ei ej
    refine wr_X_road hG hi hj (fun no => h0 (fun i' j' g => ?_)) (fun hij hg => h1 i j ⟨hi, hj, hij, rfl, rfl, hg⟩)
    obtain ⟨g1, g2, g3, g4, g5, g6⟩ := g
    rw [nI_eq (by omega) (by omega)] at g4 g5
    subst g4 g5
    omega
  · exact wr_X_roadN (fun i j hi hj ei ej => absurd ⟨i, j, hi, hj, ei, ej⟩ h) (h0 (fun i j g => h ⟨i, j, g.1, g.2.1, g.2.2.2.1, g.2.2.2.2.1⟩))
theorem wr_Y_rd {post : Int32 → Prop} {G : Nat → Nat} (hG : ∀ i, G i ≤ 20) {v : SY} (hv : wr_RY G v) {a b : Int32} (h1 : ∀ i j, wr_gr G a b i j → post (nI (G (i * 6 + j)))) (h0 : (∀ i j, ¬ wr_gr G a b i j) → post (-1)) : wpY_road post v a b := by
  obtain ⟨cnt, ways, sums, rfl⟩ := wr_RY_o hv
  by_cases h : ∃ i j, i < 6 ∧ j < 6 ∧ a = nI i ∧ b = nI j
  · obtain ⟨i, j, hi, hj, ei, ej⟩ := h
    subst ei ej
    refine wr_Y_road hG hi hj (fun no => h0 (fun i' j' g => ?_)) (fun hij hg => h1 i j ⟨hi, hj, hij, rfl, rfl, hg⟩)
    obtain ⟨g1, g2, g3, g4, g5, g6⟩ := g
    rw [nI_eq (by omega) (by omega)] at g4 g5
    subst g4 g5
    omega
  · exact wr_Y_roadN (fun i j hi hj ei ej => absurd ⟨i, j, hi, hj, ei, ej⟩ h) (h0 (fun i j g => h ⟨i, j, g.1, g.2.1, g.2.2.2.1, g.2.2.2.2.1⟩))
theorem wr_gr_u {G : Nat → Nat} {a b : Int32} {i j i' j' : Nat} (h : wr_gr G a b i j) (h' : wr_gr G a b i' j') : i = i' ∧ j = j' := by
  obtain ⟨a1, a2, a3, a4, a5, a6⟩ := h
  obtain ⟨b1, b2, b3, b4, b5, b6⟩ := h'
  rw [a4, nI_eq (by omega) (by omega)] at b4
  rw [a5, nI_eq (by omega) (by omega)] at b5
  exact ⟨b4, b5⟩
theorem wr_X_close {post : Int32 → SX → Prop} {G : Nat → Nat} (hG : ∀ i, G i ≤ 20) {u : SX} (hu : wr_RX G u) {a b : Int32} (h1 : ∀ i j u', wr_gr G a b i j → wr_RX (wr_cut G (i * 6 + j)) u' → post 1 u') (h0 : (∀ i j, ¬ wr_gr G a b i j) → post 0 u) : wpX_close post u a b := by
  obtain ⟨tc, rc, tr, rk, rfl⟩ := wr_RX_o hu
  unfold wpX_close
  dsimp only
  refine wr_X_rd hG hu (fun i j g => ?_) (fun no => br_t rfl (h0 no))
  have hg20 := hG (i * 6 + j)
  have g' := g
  obtain ⟨g1, g2, g3, g4, g5, g6⟩ := g
  subst g4 g5
  refine br_f (wr_nm1 (by omega)) ⟨by rw [wr_ixN]; exact vp_in_nI (by omega) (by decide), ?_⟩
  refine nm_r (e' := fun x => nI (wr_cut G (i * 6 + j) x)) (by rw [wr_ixN, nI_clamp (by omega)]; exact wr_upd_0 G (i * 6 + j)) ?_
  exact h1 i j _ g' rfl
theorem wr_Y_close {post : Int32 → SY → Prop} {G : Nat → Nat} (hG : ∀ i, G i ≤ 20) {v : SY} (hv : wr_RY G v) {a b : Int32} (h1 : ∀ i j v', wr_gr G a b i j → wr_RY (wr_cut G (i * 6 + j)) v' → post 1 v') (h0 : (∀ i j, ¬ wr_gr G a b i j) → post 0 v) : wpY_close post v a b := by
  obtain ⟨cnt, ways, sums, rfl⟩ := wr_RY_o hv
  unfold wpY_close
  dsimp only
  refine wr_Y_pair (fun i j hi hj hij ei ej => ?_) (fun no => ?_)
  · subst ei ej
    have hg20 := hG (i * 6 + j)
    have hin : vp_in ((6 : Int32) * nI i + nI j) 36 := by rw [wr_ixM]; exact vp_in_nI (by omega) (by omega)
    have hcl : ((6 : Int32) * nI i + nI j).toNatClampNeg = i * 6 + j := by rw [wr_ixM, nI_clamp (by omega)]
    refine br_f (by decide) ⟨hin, ?_⟩
    rw [hcl]
    refine pk_eq (G (i * 6 + j)) 0 (fun e => ?_) (fun e => ⟨hin, ?_⟩) rfl rfl (by omega) (by omega)
    · refine h0 (fun i' j' g => ?_)
      obtain ⟨g1, g2, g3, g4, g5, g6⟩ := g
      rw [nI_eq (by omega) (by omega)] at g4 g5
      subst g4 g5
      omega
    · refine nm_r (e' := fun x => nI (wr_cut G (i * 6 + j) x)) (wr_upd_0 G (i * 6 + j)) ?_
      exact h1 i j _ ⟨hi, hj, hij, rfl, rfl, by omega⟩ rfl
  · exact br_t rfl (h0 (fun i j g => g.2.2.1 (no i j g.1 g.2.1 g.2.2.2.1 g.2.2.2.2.1)))
/-- how many roads there are -/
def wr_nr (G : Nat → Nat) : Nat → Nat
  | 0 => 0
  | i + 1 => if G i = 0 then wr_nr G i else wr_nr G i + 1
theorem wr_X_roads {post : Int32 → Prop} {G : Nat → Nat} (hG : ∀ i, G i ≤ 20) {u : SX} (hu : wr_RX G u) (h : post (nI (wr_nr G 36))) : wpX_roads post u := by
  obtain ⟨tc, rc, tr, rk, rfl⟩ := wr_RX_o hu
  refine loop_0 (fun m i x => wX_roads_4 post tc rc (fun i => nI (G i)) tr rk m x (nI i)) (fun i x => x = nI (wr_nr G i)) 36 (nI 0) rfl ?_ ?_
  · intro m x hx
    subst hx
    exact br_t (by decide) h
  · intro m i x hi hx k
    subst hx
    have hg := hG i
    refine br_f (nI_ge (b := 36) hi (by decide)) ⟨vp_in_nI hi (by decide), ?_⟩
    refine pk_eq (G i) 0 (fun e => ?_) (fun e => ?_) (by rw [nI_clamp (by omega)]) rfl (by omega) (by omega)
    · refine nm_r (nI_1 i) (k _ ?_)
      show _ = nI (if G i = 0 then _ else _)
      rw [if_pos e]
    · refine nm_r (nI_1 _) (nm_r (nI_1 i) (k _ ?_))
      show _ = nI (if G i = 0 then _ else _)
      rw [if_neg e]
theorem wr_Y_roads {post : Int32 → Prop} {G : Nat → Nat} (hG : ∀ i, G i ≤ 20) {v : SY} (hv : wr_RY G v) (h : post (nI (wr_nr G 36))) : wpY_roads post v := by
  obtain ⟨cnt, ways, sums, rfl⟩ := wr_RY_o hv
  refine loop_0 (fun m i x => wY_roads_4 post cnt (fun i => nI (G i)) ways sums m x (nI i)) (fun i x => x = nI (wr_nr G i)) 36 (nI 0) rfl ?_ ?_
  · intro m x hx
    subst hx
    exact br_t (by decide) h
  · intro m i x hi hx k
    subst hx
    have hg := hG i
    refine br_f (nI_ge (b := 36) hi (by decide)) ⟨vp_in_nI hi (by decide), ?_⟩
    refine pk_le (G i) 0 (fun e => ?_) (fun e => ?_) (by rw [nI_clamp (by omega)]) rfl (by omega) (by omega)
    · refine nm_r (nI_1 i) (k _ ?_)
      show _ = nI (if G i = 0 then _ else _)
      rw [if_pos (by omega)]
    · refine nm_r (nI_1 _) (nm_r (nI_1 i) (k _ ?_))
      show _ = nI (if G i = 0 then _ else _)
      rw [if_neg (by omega)]
theorem wr_X_detourN {post : Int32 → SX → Prop} {G : Nat → Nat} (hG : ∀ i, G i ≤ 20) {u : SX} (hu : wr_RX G u) {s t a b : Int32} (no : ∀ i j, ¬ wr_gr G a b i j) (h : post 0 u) : wpX_detour post u s t a b := by
  obtain ⟨tc, rc, tr, rk, rfl⟩ := wr_RX_o hu
  unfold wpX_detour
  dsimp only
  exact wr_X_rd hG hu (fun i j g => absurd g (no i j)) (fun _ => br_t rfl h)
theorem wr_Y_detourN {post : Int32 → SY → Prop} {G : Nat → Nat} (hG : ∀ i, G i ≤ 20) {s t : Int32} {tn : Nat} {W : List (List Nat)} (hV : wr_V G s t tn W) {v : SY} (hv : wr_RY G v) {a b : Int32} (no : ∀ i j, ¬ wr_gr G a b i j) (h : ∀ v', wr_RY G v' → post 0 v') : wpY_detour post v s t a b := by
  obtain ⟨cnt, ways, sums, rfl⟩ := wr_RY_o hv
  unfold wpY_detour
  dsimp only
  refine wr_Y_length hG hV wr_RY_i (fun v' r hv' hr e => ?_) (fun v' hv' _ => ?_)
  · obtain ⟨cnt', ways', sums', rfl⟩ := wr_RY_o hv'
    dsimp only
    refine wr_Y_rd hG hv' (fun i j g => absurd g (no i j)) (fun _ => ?_)
    exact br_c (fun _ => h _ rfl) (fun _ => br_f (by decide) (h _ rfl))
  · obtain ⟨cnt', ways', sums', rfl⟩ := wr_RY_o hv'
    dsimp only
    refine wr_Y_rd hG hv' (fun i j g => absurd g (no i j)) (fun _ => ?_)
    exact br_c (fun _ => h _ rfl) (fun _ => br_f (by decide) (h _ rfl))
end
section
/-! what is owed -/
theorem wr_X_faN {post : Int32 → SX → Prop} {u : SX} {s t v : Int32} (bad : ∀ j, j < 6 → v = nI j → ¬ v = s → ¬ v = t → False) (h : post (-1) u) : wpX_firstAvoiding post u s t v := by
  obtain ⟨tc, rc, rl, tr, rk⟩ := u
  unfold wpX_firstAvoiding
  dsimp only
  refine wr_X_place (fun j hj e => ?_) (fun _ => br_t rfl h)
  exact br_f (by decide) (br_c (fun _ => h) (fun c1 => br_c (fun _ => h) (fun c2 => (bad j hj e c1 c2).elim)))
theorem wr_Y_faN {post : Int32 → SY → Prop} {u : SY} {s t v : Int32} (bad : ∀ j, j < 6 → v = nI j → ¬ v = s → ¬ v = t → False) (h : post (-1) u) : wpY_firstAvoiding post u s t v := by
  obtain ⟨cnt, len, ways, sums⟩ := u
  refine br_c (fun _ => h) (fun c1 => br_c (fun _ => h) (fun c2 => br_c (fun _ => h) (fun c3 => br_c (fun c4 => ?_) (fun _ => h))))
  obtain ⟨j, hj, e⟩ := nI_of c3
  refine (bad j ?_ e c1 c2).elim
  rw [e] at c4
  have := (nI_leI (b := 5) hj (by decide)).1 c4
  omega
theorem wr_V_tn {G : Nat → Nat} {s t : Int32} {tn : Nat} {W : List (List Nat)} (hV : wr_V G s t tn W) (G' : Nat → Nat) : ∃ W', wr_V G' s t tn W' := by
  rcases hV with ⟨i, h1, h2, h3, h4, h5, _⟩ | ⟨no, _⟩
  · exact ⟨_, Or.inl ⟨i, h1, h2, h3, h4, h5, rfl⟩⟩
  · exact ⟨[], Or.inr ⟨no, rfl⟩⟩
/-- one network on both sides -/
def i_Rel (k : Nat) (u : SX) (v : SY) : Prop := ∃ G : Nat → Nat, (∀ i, G i ≤ 20) ∧ wr_RX G u ∧ wr_RY G v
theorem i_up {k : Nat} {u : SX} {v : SY} (h : i_Rel k u v) : i_Rel (k + 5) u v := h
theorem i_vc0 : wpX_init (fun u => wpY_init (fun v => i_Rel 0 u v)) := ⟨fun _ => 0, fun _ => Nat.zero_le _, rfl, rfl⟩
theorem i_vc_build {k : Nat} {u : SX} {v : SY} (I : i_Rel k u v) (hk : k + 5 ≤ 2560) (v1 : Int32) (v2 : Int32) (v3 : Int32) : wpX_build (fun r u' => wpY_build (fun r' v' => r' = r ∧ i_Rel (k + 5) u' v') v v1 v2 v3) u v1 v2 v3 := by
  obtain ⟨G, hG, hu, hv⟩ := I
  refine wr_X_build hu (fun i j n u' g hu' => ?_) (fun no => ?_)
  · refine wr_Y_build hv (fun i' j' n' v' g' hv' => ?_) (fun no => absurd g (no i j n))
    obtain ⟨e1, e2, e3⟩ := wr_gb_u g g'
    subst e1 e2 e3
    exact ⟨rfl, _, wr_set_G hG _ g.2.2.2.2.2.2.2, hu', hv'⟩
  · exact wr_Y_build hv (fun i' j' n' v' g' hv' => absurd g' (no i' j' n')) (fun _ => ⟨rfl, G, hG, hu, hv⟩)
theorem i_vc_close {k : Nat} {u : SX} {v : SY} (I : i_Rel k u v) (hk : k + 5 ≤ 2560) (v1 : Int32) (v2 : Int32) : wpX_close (fun r u' => wpY_close (fun r' v' => r' = r ∧ i_Rel (k + 5) u' v') v v1 v2) u v1 v2 := by
  obtain ⟨G, hG, hu, hv⟩ := I
  refine wr_X_close hG hu (fun i j u' g hu' => ?_) (fun no => ?_)
  · refine wr_Y_close hG hv (fun i' j' v' g' hv' => ?_) (fun no => absurd g (no i j))
    obtain ⟨e1, e2⟩ := wr_gr_u g g'
    subst e1 e2
    exact ⟨rfl, _, wr_cut_G hG _, hu', hv'⟩
  · exact wr_Y_close hG hv (fun i' j' v' g' hv' => absurd g' (no i' j')) (fun _ => ⟨rfl, G, hG, hu, hv⟩)
theorem i_vc_road {k : Nat} {u : SX} {v : SY} (I : i_Rel k u v) (hk : k + 5 ≤ 2560) (v1 : Int32) (v2 : Int32) : wpX_road (fun r => wpY_road (fun r' => r' = r ∧ i_Rel (k + 5) u v) v v1 v2) u v1 v2 := by
  obtain ⟨G, hG, hu, hv⟩ := I
  refine wr_X_rd hG hu (fun i j g => ?_) (fun no => ?_)
  · refine wr_Y_rd hG hv (fun i' j' g' => ?_) (fun no => absurd g (no i j))
    obtain ⟨e1, e2⟩ := wr_gr_u g g'
    subst e1 e2
    exact ⟨rfl, G, hG, hu, hv⟩
  · exact wr_Y_rd hG hv (fun i' j' g' => absurd g' (no i' j')) (fun _ => ⟨rfl, G, hG, hu, hv⟩)
theorem i_vc_roads {k : Nat} {u : SX} {v : SY} (I : i_Rel k u v) (hk : k + 5 ≤ 2560) : wpX_roads (fun r => wpY_roads (fun r' => r' = r ∧ i_Rel (k + 5) u v) v) u := by
  obtain ⟨G, hG, hu, hv⟩ := I
  exact wr_X_roads hG hu (wr_Y_roads hG hv ⟨rfl, G, hG, hu, hv⟩)
theorem i_vc_ways {k : Nat} {u : SX} {v : SY} (I : i_Rel k u v) (hk : k + 5 ≤ 2560) (v1 : Int32) (v2 : Int32) : wpX_ways (fun r u' => wpY_ways (fun r' v' => r' = r ∧ i_Rel (k + 5) u' v') v v1 v2) u v1 v2 := by
  obtain ⟨G, hG, hu, hv⟩ := I
  obtain ⟨tn, W, hV⟩ := wr_V_ex G v1 v2
  exact wr_X_ways hG hV hu (fun u' hu' => wr_Y_ways hG hV hv (fun v' hv' => ⟨rfl, G, hG, hu', hv'⟩))
theorem i_vc_length {k : Nat} {u : SX} {v : SY} (I : i_Rel k u v) (hk : k + 5 ≤ 2560) (v1 : Int32) (v2 : Int32) (v3 : Int32) : wpX_length (fun r u' => wpY_length (fun r' v' => r' = r ∧ i_Rel (k + 5) u' v') v v1 v2 v3) u v1 v2 v3 := by
  obtain ⟨G, hG, hu, hv⟩ := I
  obtain ⟨tn, W, hV⟩ := wr_V_ex G v1 v2
  refine wr_X_length hG hV hu (fun u' r hu' hat => ?_) (fun u' hu' no => ?_)
  · refine wr_Y_length hG hV hv (fun v' r' hv' hr' e => ?_) (fun v' hv' no => absurd hat.2.1 (no r hat.1))
    rw [hat.2.2 r' hr' e]
    exact ⟨rfl, G, hG, hu', hv'⟩
  · exact wr_Y_length hG hV hv (fun v' r' hv' hr' e => absurd e (no r' hr')) (fun v' hv' _ => ⟨rfl, G, hG, hu', hv'⟩)
theorem i_vc_place {k : Nat} {u : SX} {v : SY} (I : i_Rel k u v) (hk : k + 5 ≤ 2560) (v1 : Int32) (v2 : Int32) (v3 : Int32) (v4 : Int32) : wpX_place (fun r u' => wpY_place (fun r' v' => r' = r ∧ i_Rel (k + 5) u' v') v v1 v2 v3 v4) u v1 v2 v3 v4 := by
  obtain ⟨G, hG, hu, hv⟩ := I
  obtain ⟨tn, W, hV⟩ := wr_V_ex G v1 v2
  refine wr_X_placeM hG hV hu (fun u' r j hu' hat ej hj => ?_) (fun u' r hu' hat nj => ?_) (fun u' hu' no => ?_)
  · have hgl := wr_g_l (wr_V_g hV r hat.1)
    refine wr_Y_placeM hG hV hv (fun v' r' j' hv' hr' e ej' hj' => ?_) (fun v' r' hv' hr' e nj => ?_) (fun v' hv' no => absurd hat.2.1 (no r hat.1))
    · have er := hat.2.2 r' hr' e
      subst er
      rw [ej, nI_eq (by omega) (by omega)] at ej'
      subst ej'
      exact ⟨rfl, G, hG, hu', hv'⟩
    · have er := hat.2.2 r' hr' e
      subst er
      exact absurd ej (nj j hj)
  · refine wr_Y_placeM hG hV hv (fun v' r' j' hv' hr' e ej' hj' => ?_) (fun v' r' hv' hr' e _ => ⟨rfl, G, hG, hu', hv'⟩) (fun v' hv' no => absurd hat.2.1 (no r hat.1))
    have er := hat.2.2 r' hr' e
    subst er
    exact absurd ej' (nj j' hj')
  · exact wr_Y_placeM hG hV hv (fun v' r' j' hv' hr' e _ _ => absurd e (no r' hr')) (fun v' r' hv' hr' e _ => absurd e (no r' hr')) (fun v' hv' _ => ⟨rfl, G, hG, hu', hv'⟩)
theorem i_vc_size {k : Nat} {u : SX} {v : SY} (I : i_Rel k u v) (hk : k + 5 ≤ 2560) (v1 : Int32) (v2 : Int32) (v3 : Int32) : wpX_size (fun r u' => wpY_size (fun r' v' => r' = r ∧ i_Rel (k + 5) u' v') v v1 v2 v3) u v1 v2 v3 := by
  obtain ⟨G, hG, hu, hv⟩ := I
  obtain ⟨tn, W, hV⟩ := wr_V_ex G v1 v2
  refine wr_X_size hG hV hu (fun u' r hu' hat => ?_) (fun u' hu' no => ?_)
  · refine wr_Y_size hG hV hv (fun v' r' hv' hr' e => ?_) (fun v' hv' no => absurd hat.2.1 (no r hat.1))
    rw [hat.2.2 r' hr' e]
    exact ⟨rfl, G, hG, hu', hv'⟩
  · exact wr_Y_size hG hV hv (fun v' r' hv' hr' e => absurd e (no r' hr')) (fun v' hv' _ => ⟨rfl, G, hG, hu', hv'⟩)
theorem i_vc_within {k : Nat} {u : SX} {v : SY} (I : i_Rel k u v) (hk : k + 5 ≤ 2560) (v1 : Int32) (v2 : Int32) (v3 : Int32) : wpX_within (fun r u' => wpY_within (fun r' v' => r' = r ∧ i_Rel (k + 5) u' v') v v1 v2 v3) u v1 v2 v3 := by
  obtain ⟨G, hG, hu, hv⟩ := I
  obtain ⟨tn, W, hV⟩ := wr_V_ex G v1 v2
  exact wr_X_within hG hV hu (fun u' hu' => wr_Y_within hG hV hv (fun v' hv' => ⟨rfl, G, hG, hu', hv'⟩))
theorem i_vc_shortest {k : Nat} {u : SX} {v : SY} (I : i_Rel k u v) (hk : k + 5 ≤ 2560) (v1 : Int32) (v2 : Int32) : wpX_shortest (fun r u' => wpY_shortest (fun r' v' => r' = r ∧ i_Rel (k + 5) u' v') v v1 v2) u v1 v2 := by
  obtain ⟨G, hG, hu, hv⟩ := I
  obtain ⟨tn, W, hV⟩ := wr_V_ex G v1 v2
  refine wr_X_shortest hG hV hu (fun u' r hu' hat => ?_) (fun u' hu' e0 => ?_)
  · refine wr_Y_shortest hG hV hv (fun v' r' hv' hr' e => ?_) (fun v' hv' no => absurd hat.2.1 (no r hat.1))
    rw [hat.2.2 r' hr' e]
    exact ⟨rfl, G, hG, hu', hv'⟩
  · refine wr_Y_shortest hG hV hv (fun v' r' hv' hr' e => ?_) (fun v' hv' _ => ⟨rfl, G, hG, hu', hv'⟩)
    rw [e0] at hr'
    exact absurd hr' List.not_mem_nil
theorem i_vc_musts {k : Nat} {u : SX} {v : SY} (I : i_Rel k u v) (hk : k + 5 ≤ 2560) (v1 : Int32) (v2 : Int32) : wpX_musts (fun r u' => wpY_musts (fun r' v' => r' = r ∧ i_Rel (k + 5) u' v') v v1 v2) u v1 v2 := by
  obtain ⟨G, hG, hu, hv⟩ := I
  obtain ⟨tn, W, hV⟩ := wr_V_ex G v1 v2
  refine wr_X_musts hG hV hu (fun u' hu' ne => ?_) (fun u' hu' e0 => ?_)
  · exact wr_Y_musts hG hV hv (fun v' hv' _ => ⟨rfl, G, hG, hu', hv'⟩) (fun v' hv' e0 => absurd e0 ne)
  · exact wr_Y_musts hG hV hv (fun v' hv' ne => absurd e0 ne) (fun v' hv' _ => ⟨rfl, G, hG, hu', hv'⟩)
theorem i_vc_firstAvoiding {k : Nat} {u : SX} {v : SY} (I : i_Rel k u v) (hk : k + 5 ≤ 2560) (v1 : Int32) (v2 : Int32) (v3 : Int32) : wpX_firstAvoiding (fun r u' => wpY_firstAvoiding (fun r' v' => r' = r ∧ i_Rel (k + 5) u' v') v v1 v2 v3) u v1 v2 v3 := by
  obtain ⟨G, hG, hu, hv⟩ := I
  by_cases good : ∃ j, j < 6 ∧ v3 = nI j ∧ ¬ v3 = v1 ∧ ¬ v3 = v2
  · obtain ⟨j, hj, e, ns, nt⟩ := good
    subst e
    obtain ⟨tn, W, hV⟩ := wr_V_ex G v1 v2
    refine wr_X_fa hG hV hu hj ns nt (fun u' r hu' hr nr lo => ?_) (fun u' hu' all => ?_)
    · refine wr_Y_fa hG hV hv hj ns nt (fun v' r' hv' hr' nr' lo' => ?_) (fun v' hv' all => absurd (all r hr) nr)
      have e : wr_rk G tn W r' = wr_rk G tn W r := Nat.le_antisymm (lo' r hr nr) (lo r' hr' nr')
      exact ⟨by rw [e], G, hG, hu', hv'⟩
    · exact wr_Y_fa hG hV hv hj ns nt (fun v' r' hv' hr' nr' _ => absurd (all r' hr') nr') (fun v' hv' _ => ⟨rfl, G, hG, hu', hv'⟩)
  · have bad : ∀ j, j < 6 → v3 = nI j → ¬ v3 = v1 → ¬ v3 = v2 → False := fun j hj e a b => good ⟨j, hj, e, a, b⟩
    exact wr_X_faN bad (wr_Y_faN bad ⟨rfl, G, hG, hu, hv⟩)
theorem i_vc_detour {k : Nat} {u : SX} {v : SY} (I : i_Rel k u v) (hk : k + 5 ≤ 2560) (v1 : Int32) (v2 : Int32) (v3 : Int32) (v4 : Int32) : wpX_detour (fun r u' => wpY_detour (fun r' v' => r' = r ∧ i_Rel (k + 5) u' v') v v1 v2 v3 v4) u v1 v2 v3 v4 := by
  obtain ⟨G, hG, hu, hv⟩ := I
  obtain ⟨tn, W, hV⟩ := wr_V_ex G v1 v2
  by_cases good : ∃ i j, wr_gr G v3 v4 i j
  · obtain ⟨i, j, hi, hj, hij, ei, ej, hg⟩ := good
    subst ei ej
    obtain ⟨W', hV'⟩ := wr_V_tn hV (wr_cut G (i * 6 + j))
    refine wr_X_detour hG hV hu hi hj hij hg hV' (fun u' r r' hu' hat hat' => ?_) (fun u' r hu' hat e0 => ?_) (fun u' hu' e0 => ?_)
    · refine wr_Y_detour hG hV hv hi hj hij hg hV' (fun v' q q' hv' hq eq hq' eq' => ?_) (fun v' q hv' _ _ no => absurd hat'.2.1 (no r' hat'.1)) (fun v' hv' no => absurd hat.2.1 (no r hat.1))
      rw [hat.2.2 q hq eq, hat'.2.2 q' hq' eq']
      exact ⟨rfl, G, hG, hu', hv'⟩
    · refine wr_Y_detour hG hV hv hi hj hij hg hV' (fun v' q q' hv' hq eq hq' eq' => ?_) (fun v' q hv' _ _ no => ⟨rfl, G, hG, hu', hv'⟩) (fun v' hv' no => absurd hat.2.1 (no r hat.1))
      rw [e0] at hq'
      exact absurd hq' List.not_mem_nil
    · refine wr_Y_detour hG hV hv hi hj hij hg hV' (fun v' q q' hv' hq eq hq' eq' => ?_) (fun v' q hv' hq _ no => ?_) (fun v' hv' no => ⟨rfl, G, hG, hu', hv'⟩)
      · rw [e0] at hq
        exact absurd hq List.not_mem_nil
      · rw [e0] at hq
        exact absurd hq List.not_mem_nil
  · have no : ∀ i j, ¬ wr_gr G v3 v4 i j := fun i j g => good ⟨i, j, g⟩
    exact wr_X_detourN hG hu no (wr_Y_detourN hG hV hv no (fun v' hv' => ⟨rfl, G, hG, hu, hv'⟩))
end
