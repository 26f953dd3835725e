/-! what is owed -/
theorem wr_X_faN {post : Int32 → SX → Prop} {u : SX} {s t v : Int32} (bad : ∀ j, j < 6 → v = nI j → ¬ v = s → ¬ v = t → False) (h : post (-1) u) : wpX_firstAvoiding post u s t v := by
  obtain ⟨tc, rc, rl, tr, rk⟩ := u
  unfold wpX_firstAvoiding
  dsimp only
  refine wr_X_place (fun j hj e => ?_) (fun _ => br_t rfl h)
  exact br_f (by decide) (br_c (fun _ => h) (fun c1 => br_c (fun _ => h) (fun c2 => (bad j hj e c1 c2).elim)))
theorem wr_Y_faN {post : Int32 → SY → Prop} {u : SY} {s t v : Int32} (bad : ∀ j, j < 6 → v = nI j → ¬ v = s → ¬ v = t → False) (h : post (-1) u) : wpY_firstAvoiding post u s t v := by
  obtain ⟨cnt, len, ways, sums⟩ := u
  refine br_c (fun _ => h) (fun c1 => br_c (fun _ => h) (fun c2 => br_c (fun _ => h) (fun c3 => br_c (fun c4 => ?_) (fun _ => h))))
  obtain ⟨j, hj, e⟩ := nI_of c3
  refine (bad j ?_ e c1 c2).elim
  rw [e] at c4
  have := (nI_leI (b := 5) hj (by decide)).1 c4
  omega
theorem wr_V_tn {G : Nat → Nat} {s t : Int32} {tn : Nat} {W : List (List Nat)} (hV : wr_V G s t tn W) (G' : Nat → Nat) : ∃ W', wr_V G' s t tn W' := by
  rcases hV with ⟨i, h1, h2, h3, h4, h5, _⟩ | ⟨no, _⟩
  · exact ⟨_, Or.inl ⟨i, h1, h2, h3, h4, h5, rfl⟩⟩
  · exact ⟨[], Or.inr ⟨no, rfl⟩⟩
/-- one network on both sides -/
def i_Rel (k : Nat) (u : SX) (v : SY) : Prop := ∃ G : Nat → Nat, (∀ i, G i ≤ 20) ∧ wr_RX G u ∧ wr_RY G v
theorem i_up {k : Nat} {u : SX} {v : SY} (h : i_Rel k u v) : i_Rel (k + 5) u v := h
theorem i_vc0 : wpX_init (fun u => wpY_init (fun v => i_Rel 0 u v)) := ⟨fun _ => 0, fun _ => Nat.zero_le _, rfl, rfl⟩
theorem i_vc_build {k : Nat} {u : SX} {v : SY} (I : i_Rel k u v) (hk : k + 5 ≤ 2560) (v1 : Int32) (v2 : Int32) (v3 : Int32) : wpX_build (fun r u' => wpY_build (fun r' v' => r' = r ∧ i_Rel (k + 5) u' v') v v1 v2 v3) u v1 v2 v3 := by
  obtain ⟨G, hG, hu, hv⟩ := I
  refine wr_X_build hu (fun i j n u' g hu' => ?_) (fun no => ?_)
  · refine wr_Y_build hv (fun i' j' n' v' g' hv' => ?_) (fun no => absurd g (no i j n))
    obtain ⟨e1, e2, e3⟩ := wr_gb_u g g'
    subst e1 e2 e3
    exact ⟨rfl, _, wr_set_G hG _ g.2.2.2.2.2.2.2, hu', hv'⟩
  · exact wr_Y_build hv (fun i' j' n' v' g' hv' => absurd g' (no i' j' n')) (fun _ => ⟨rfl, G, hG, hu, hv⟩)
theorem i_vc_close {k : Nat} {u : SX} {v : SY} (I : i_Rel k u v) (hk : k + 5 ≤ 2560) (v1 : Int32) (v2 : Int32) : wpX_close (fun r u' => wpY_close (fun r' v' => r' = r ∧ i_Rel (k + 5) u' v') v v1 v2) u v1 v2 := by
  obtain ⟨G, hG, hu, hv⟩ := I
  refine wr_X_close hG hu (fun i j u' g hu' => ?_) (fun no => ?_)
  · refine wr_Y_close hG hv (fun i' j' v' g' hv' => ?_) (fun no => absurd g (no i j))
    obtain ⟨e1, e2⟩ := wr_gr_u g g'
    subst e1 e2
    exact ⟨rfl, _, wr_cut_G hG _, hu', hv'⟩
  · exact wr_Y_close hG hv (fun i' j' v' g' hv' => absurd g' (no i' j')) (fun _ => ⟨rfl, G, hG, hu, hv⟩)
theorem i_vc_road {k : Nat} {u : SX} {v : SY} (I : i_Rel k u v) (hk : k + 5 ≤ 2560) (v1 : Int32) (v2 : Int32) : wpX_road (fun r => wpY_road (fun r' => r' = r ∧ i_Rel (k + 5) u v) v v1 v2) u v1 v2 := by
  obtain ⟨G, hG, hu, hv⟩ := I
  refine wr_X_rd hG hu (fun i j g => ?_) (fun no => ?_)
  · refine wr_Y_rd hG hv (fun i' j' g' => ?_) (fun no => absurd g (no i j))
    obtain ⟨e1, e2⟩ := wr_gr_u g g'
    subst e1 e2
    exact ⟨rfl, G, hG, hu, hv⟩
  · exact wr_Y_rd hG hv (fun i' j' g' => absurd g' (no i' j')) (fun _ => ⟨rfl, G, hG, hu, hv⟩)
theorem i_vc_roads {k : Nat} {u : SX} {v : SY} (I : i_Rel k u v) (hk : k + 5 ≤ 2560) : wpX_roads (fun r => wpY_roads (fun r' => r' = r ∧ i_Rel (k + 5) u v) v) u := by
  obtain ⟨G, hG, hu, hv⟩ := I
  exact wr_X_roads hG hu (wr_Y_roads hG hv ⟨rfl, G, hG, hu, hv⟩)
theorem i_vc_ways {k : Nat} {u : SX} {v : SY} (I : i_Rel k u v) (hk : k + 5 ≤ 2560) (v1 : Int32) (v2 : Int32) : wpX_ways (fun r u' => wpY_ways (fun r' v' => r' = r ∧ i_Rel (k + 5) u' v') v v1 v2) u v1 v2 := by
  obtain ⟨G, hG, hu, hv⟩ := I
  obtain ⟨tn, W, hV⟩ := wr_V_ex G v1 v2
  exact wr_X_ways hG hV hu (fun u' hu' => wr_Y_ways hG hV hv (fun v' hv' => ⟨rfl, G, hG, hu', hv'⟩))
theorem i_vc_length {k : Nat} {u : SX} {v : SY} (I : i_Rel k u v) (hk : k + 5 ≤ 2560) (v1 : Int32) (v2 : Int32) (v3 : Int32) : wpX_length (fun r u' => wpY_length (fun r' v' => r' = r ∧ i_Rel (k + 5) u' v') v v1 v2 v3) u v1 v2 v3 := by
  obtain ⟨G, hG, hu, hv⟩ := I
  obtain ⟨tn, W, hV⟩ := wr_V_ex G v1 v2
  refine wr_X_length hG hV hu (fun u' r hu' hat => ?_) (fun u' hu' no => ?_)
  · refine wr_Y_length hG hV hv (fun v' r' hv' hr' e => ?_) (fun v' hv' no => absurd hat.2.1 (no r hat.1))
    rw [hat.2.2 r' hr' e]
    exact ⟨rfl, G, hG, hu', hv'⟩
  · exact wr_Y_length hG hV hv (fun v' r' hv' hr' e => absurd e (no r' hr')) (fun v' hv' _ => ⟨rfl, G, hG, hu', hv'⟩)
theorem i_vc_place {k : Nat} {u : SX} {v : SY} (I : i_Rel k u v) (hk : k + 5 ≤ 2560) (v1 : Int32) (v2 : Int32) (v3 : Int32) (v4 : Int32) : wpX_place (fun r u' => wpY_place (fun r' v' => r' = r ∧ i_Rel (k + 5) u' v') v v1 v2 v3 v4) u v1 v2 v3 v4 := by
  obtain ⟨G, hG, hu, hv⟩ := I
  obtain ⟨tn, W, hV⟩ := wr_V_ex G v1 v2
  refine wr_X_placeM hG hV hu (fun u' r j hu' hat ej hj => ?_) (fun u' r hu' hat nj => ?_) (fun u' hu' no => ?_)
  · have hgl := wr_g_l (wr_V_g hV r hat.1)
    refine wr_Y_placeM hG hV hv (fun v' r' j' hv' hr' e ej' hj' => ?_) (fun v' r' hv' hr' e nj => ?_) (fun v' hv' no => absurd hat.2.1 (no r hat.1))
    · have er := hat.2.2 r' hr' e
      subst er
      rw [ej, nI_eq (by omega) (by omega)] at ej'
      subst ej'
      exact ⟨rfl, G, hG, hu', hv'⟩
    · have er := hat.2.2 r' hr' e
      subst er
      exact absurd ej (nj j hj)
  · refine wr_Y_placeM hG hV hv (fun v' r' j' hv' hr' e ej' hj' => ?_) (fun v' r' hv' hr' e _ => ⟨rfl, G, hG, hu', hv'⟩) (fun v' hv' no => absurd hat.2.1 (no r hat.1))
    have er := hat.2.2 r' hr' e
    subst er
    exact absurd ej' (nj j' hj')
  · exact wr_Y_placeM hG hV hv (fun v' r' j' hv' hr' e _ _ => absurd e (no r' hr')) (fun v' r' hv' hr' e _ => absurd e (no r' hr')) (fun v' hv' _ => ⟨rfl, G, hG, hu', hv'⟩)
theorem i_vc_size {k : Nat} {u : SX} {v : SY} (I : i_Rel k u v) (hk : k + 5 ≤ 2560) (v1 : Int32) (v2 : Int32) (v3 : Int32) : wpX_size (fun r u' => wpY_size (fun r' v' => r' = r ∧ i_Rel (k + 5) u' v') v v1 v2 v3) u v1 v2 v3 := by
  obtain ⟨G, hG, hu, hv⟩ := I
  obtain ⟨tn, W, hV⟩ := wr_V_ex G v1 v2
  refine wr_X_size hG hV hu (fun u' r hu' hat => ?_) (fun u' hu' no => ?_)
  · refine wr_Y_size hG hV hv (fun v' r' hv' hr' e => ?_) (fun v' hv' no => absurd hat.2.1 (no r hat.1))
    rw [hat.2.2 r' hr' e]
    exact ⟨rfl, G, hG, hu', hv'⟩
  · exact wr_Y_size hG hV hv (fun v' r' hv' hr' e => absurd e (no r' hr')) (fun v' hv' _ => ⟨rfl, G, hG, hu', hv'⟩)
theorem i_vc_within {k : Nat} {u : SX} {v : SY} (I : i_Rel k u v) (hk : k + 5 ≤ 2560) (v1 : Int32) (v2 : Int32) (v3 : Int32) : wpX_within (fun r u' => wpY_within (fun r' v' => r' = r ∧ i_Rel (k + 5) u' v') v v1 v2 v3) u v1 v2 v3 := by
  obtain ⟨G, hG, hu, hv⟩ := I
  obtain ⟨tn, W, hV⟩ := wr_V_ex G v1 v2
  exact wr_X_within hG hV hu (fun u' hu' => wr_Y_within hG hV hv (fun v' hv' => ⟨rfl, G, hG, hu', hv'⟩))
theorem i_vc_shortest {k : Nat} {u : SX} {v : SY} (I : i_Rel k u v) (hk : k + 5 ≤ 2560) (v1 : Int32) (v2 : Int32) : wpX_shortest (fun r u' => wpY_shortest (fun r' v' => r' = r ∧ i_Rel (k + 5) u' v') v v1 v2) u v1 v2 := by
  obtain ⟨G, hG, hu, hv⟩ := I
  obtain ⟨tn, W, hV⟩ := wr_V_ex G v1 v2
  refine wr_X_shortest hG hV hu (fun u' r hu' hat => ?_) (fun u' hu' e0 => ?_)
  · refine wr_Y_shortest hG hV hv (fun v' r' hv' hr' e => ?_) (fun v' hv' no => absurd hat.2.1 (no r hat.1))
    rw [hat.2.2 r' hr' e]
    exact ⟨rfl, G, hG, hu', hv'⟩
  · refine wr_Y_shortest hG hV hv (fun v' r' hv' hr' e => ?_) (fun v' hv' _ => ⟨rfl, G, hG, hu', hv'⟩)
    rw [e0] at hr'
    exact absurd hr' List.not_mem_nil
theorem i_vc_musts {k : Nat} {u : SX} {v : SY} (I : i_Rel k u v) (hk : k + 5 ≤ 2560) (v1 : Int32) (v2 : Int32) : wpX_musts (fun r u' => wpY_musts (fun r' v' => r' = r ∧ i_Rel (k + 5) u' v') v v1 v2) u v1 v2 := by
  obtain ⟨G, hG, hu, hv⟩ := I
  obtain ⟨tn, W, hV⟩ := wr_V_ex G v1 v2
  refine wr_X_musts hG hV hu (fun u' hu' ne => ?_) (fun u' hu' e0 => ?_)
  · exact wr_Y_musts hG hV hv (fun v' hv' _ => ⟨rfl, G, hG, hu', hv'⟩) (fun v' hv' e0 => absurd e0 ne)
  · exact wr_Y_musts hG hV hv (fun v' hv' ne => absurd e0 ne) (fun v' hv' _ => ⟨rfl, G, hG, hu', hv'⟩)
theorem i_vc_firstAvoiding {k : Nat} {u : SX} {v : SY} (I : i_Rel k u v) (hk : k + 5 ≤ 2560) (v1 : Int32) (v2 : Int32) (v3 : Int32) : wpX_firstAvoiding (fun r u' => wpY_firstAvoiding (fun r' v' => r' = r ∧ i_Rel (k + 5) u' v') v v1 v2 v3) u v1 v2 v3 := by
  obtain ⟨G, hG, hu, hv⟩ := I
  by_cases good : ∃ j, j < 6 ∧ v3 = nI j ∧ ¬ v3 = v1 ∧ ¬ v3 = v2
  · obtain ⟨j, hj, e, ns, nt⟩ := good
    subst e
    obtain ⟨tn, W, hV⟩ := wr_V_ex G v1 v2
    refine wr_X_fa hG hV hu hj ns nt (fun u' r hu' hr nr lo => ?_) (fun u' hu' all => ?_)
    · refine wr_Y_fa hG hV hv hj ns nt (fun v' r' hv' hr' nr' lo' => ?_) (fun v' hv' all => absurd (all r hr) nr)
      have e : wr_rk G tn W r' = wr_rk G tn W r := Nat.le_antisymm (lo' r hr nr) (lo r' hr' nr')
      exact ⟨by rw [e], G, hG, hu', hv'⟩
    · exact wr_Y_fa hG hV hv hj ns nt (fun v' r' hv' hr' nr' _ => absurd (all r' hr') nr') (fun v' hv' _ => ⟨rfl, G, hG, hu', hv'⟩)
  · have bad : ∀ j, j < 6 → v3 = nI j → ¬ v3 = v1 → ¬ v3 = v2 → False := fun j hj e a b => good ⟨j, hj, e, a, b⟩
    exact wr_X_faN bad (wr_Y_faN bad ⟨rfl, G, hG, hu, hv⟩)
theorem i_vc_detour {k : Nat} {u : SX} {v : SY} (I : i_Rel k u v) (hk : k + 5 ≤ 2560) (v1 : Int32) (v2 : Int32) (v3 : Int32) (v4 : Int32) : wpX_detour (fun r u' => wpY_detour (fun r' v' => r' = r ∧ i_Rel (k + 5) u' v') v v1 v2 v3 v4) u v1 v2 v3 v4 := by
  obtain ⟨G, hG, hu, hv⟩ := I
  obtain ⟨tn, W, hV⟩ := wr_V_ex G v1 v2
  by_cases good : ∃ i j, wr_gr G v3 v4 i j
  · obtain ⟨i, j, hi, hj, hij, ei, ej, hg⟩ := good
    subst ei ej
    obtain ⟨W', hV'⟩ := wr_V_tn hV (wr_cut G (i * 6 + j))
    refine wr_X_detour hG hV hu hi hj hij hg hV' (fun u' r r' hu' hat hat' => ?_) (fun u' r hu' hat e0 => ?_) (fun u' hu' e0 => ?_)
    · refine wr_Y_detour hG hV hv hi hj hij hg hV' (fun v' q q' hv' hq eq hq' eq' => ?_) (fun v' q hv' _ _ no => absurd hat'.2.1 (no r' hat'.1)) (fun v' hv' no => absurd hat.2.1 (no r hat.1))
      rw [hat.2.2 q hq eq, hat'.2.2 q' hq' eq']
      exact ⟨rfl, G, hG, hu', hv'⟩
    · refine wr_Y_detour hG hV hv hi hj hij hg hV' (fun v' q q' hv' hq eq hq' eq' => ?_) (fun v' q hv' _ _ no => ⟨rfl, G, hG, hu', hv'⟩) (fun v' hv' no => absurd hat.2.1 (no r hat.1))
      rw [e0] at hq'
      exact absurd hq' List.not_mem_nil
    · refine wr_Y_detour hG hV hv hi hj hij hg hV' (fun v' q q' hv' hq eq hq' eq' => ?_) (fun v' q hv' hq _ no => ?_) (fun v' hv' no => ⟨rfl, G, hG, hu', hv'⟩)
      · rw [e0] at hq
        exact absurd hq List.not_mem_nil
      · rw [e0] at hq
        exact absurd hq List.not_mem_nil
  · have no : ∀ i j, ¬ wr_gr G v3 v4 i j := fun i j g => good ⟨i, j, g⟩
    exact wr_X_detourN hG hu no (wr_Y_detourN hG hV hv no (fun v' hv' => ⟨rfl, G, hG, hu, hv'⟩))
