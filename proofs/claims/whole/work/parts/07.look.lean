/-! the reference's codes, step by step -/
theorem wr_rr_y {s c k : Nat} (h : wr_D c k < 6) : wr_rr s c (k + 1) = wr_D c k :: wr_rr s c k := by
  show (if wr_D c k < 6 then (wr_D c k) :: wr_rr s c k else wr_rr s c k) = _
  rw [if_pos h]
theorem wr_rr_n {s c k : Nat} (h : ¬ wr_D c k < 6) : wr_rr s c (k + 1) = wr_rr s c k := by
  show (if wr_D c k < 6 then (wr_D c k) :: wr_rr s c k else wr_rr s c k) = _
  rw [if_neg h]
theorem wr_rr_lt {s c : Nat} (hs : s < 6) : ∀ k, ∀ x, x ∈ wr_rr s c k → x < 6
  | 0, x, h => by
    rw [List.mem_singleton.1 h]; exact hs
  | k + 1, x, h => by
    by_cases z : wr_D c k < 6
    · rw [wr_rr_y z] at h
      rcases List.mem_cons.1 h with e | e
      · omega
      · exact wr_rr_lt hs k x e
    · rw [wr_rr_n z] at h
      exact wr_rr_lt hs k x h
theorem wr_rr_len (s c : Nat) : ∀ k, 1 ≤ (wr_rr s c k).length ∧ (wr_rr s c k).length ≤ k + 1
  | 0 => ⟨Nat.le_refl _, Nat.le_refl _⟩
  | k + 1 => by
    have ih := wr_rr_len s c k
    by_cases z : wr_D c k < 6
    · rw [wr_rr_y z, List.length_cons]; omega
    · rw [wr_rr_n z]; omega
theorem wr_rr_hd {s c : Nat} (hs : s < 6) (k : Nat) : (wr_rr s c k).headD 0 < 6 := by
  obtain ⟨u, r, e⟩ := wr_rr_ne s c k
  have h := wr_rr_lt (c := c) hs k u (by rw [e]; exact List.mem_cons_self)
  rw [e]; exact h
theorem wr_s_c (G : Nat → Nat) (v : Nat) {r : List Nat} (h : 1 ≤ r.length) : wr_s G (v :: r) = wr_s G r + G (r.headD 0 * 6 + v) := by
  cases r with
  | nil => exact absurd h (by decide)
  | cons u r => rfl
theorem wr_dv (c k : Nat) : c / 7 ^ k / 7 = c / 7 ^ (k + 1) := by rw [Nat.div_div_eq_div_mul, Nat.pow_succ]
theorem wr_D_7 (c k : Nat) : wr_D c k < 7 := Nat.mod_lt _ (by omega)
/-- true and false as the machine has them -/
def wr_b (x : Bool) : Int32 := if x = true then 1 else 0
theorem wr_b_t {x : Bool} (h : x = true) : wr_b x = 1 := if_pos h
theorem wr_b_f {x : Bool} (h : ¬ x = true) : wr_b x = 0 := if_neg h
theorem wr_b_0 {x : Bool} : wr_b x = 0 ↔ ¬ x = true := by
  cases x
  · exact ⟨fun _ => by decide, fun _ => rfl⟩
  · exact ⟨fun z => absurd z (by decide), fun z => absurd rfl z⟩
theorem wr_kk_s {G : Nat → Nat} {s t c k : Nat} (h : wr_D c k < 6) : wr_kk G s t c (k + 1) = (wr_kk G s t c k && !wr_en c k && (wr_D c k != t && !(wr_rr s c k).contains (wr_D c k)) && decide (0 < G ((wr_rr s c k).headD 0 * 6 + wr_D c k))) := by
  show (if wr_D c k < 6 then _ else _) = _
  rw [if_pos h]
theorem wr_kk_n {G : Nat → Nat} {s t c k : Nat} (h : ¬ wr_D c k < 6) : wr_kk G s t c (k + 1) = wr_kk G s t c k := by
  show (if wr_D c k < 6 then _ else _) = _
  rw [if_neg h]
theorem wr_kk_i {G : Nat → Nat} {s t c k U : Nat} (h : wr_D c k < 6) (hU : wr_U t (wr_rr s c k) U) : wr_kk G s t c (k + 1) = true ↔ (wr_kk G s t c k = true ∧ ¬ wr_en c k = true ∧ U / 2 ^ wr_D c k % 2 = 0 ∧ 0 < G ((wr_rr s c k).headD 0 * 6 + wr_D c k)) := by
  rw [wr_kk_s h, wr_ut, hU.2 _ h]
  simp only [Bool.and_eq_true, decide_eq_true_eq, bne_iff_ne, Bool.not_eq_true', ne_eq, Bool.or_eq_false_iff, decide_eq_false_iff_not, Bool.not_eq_true]
  constructor
  · rintro ⟨⟨⟨a, b⟩, c, d⟩, e⟩; exact ⟨a, b, ⟨c, d⟩, e⟩
  · rintro ⟨a, b, ⟨c, d⟩, e⟩; exact ⟨⟨⟨a, b⟩, c, d⟩, e⟩
theorem wr_en_i {c k : Nat} : wr_en c (k + 1) = true ↔ (wr_en c k = true ∨ wr_D c k = 6) := by
  show (wr_en c k || decide (wr_D c k = 6)) = true ↔ _
  rw [Bool.or_eq_true, decide_eq_true_eq]
