/-- both sides hold one graph: n vertices, the weights g (the diagonal holds the bonuses), the same modes -/
def i_Rel (k : Nat) (u : SX) (v : SY) : Prop :=
  ∃ (n : Nat) (g : Nat → Nat → Nat) (p b w m : Nat → Int32), u = (nI n, nI (2 ^ n), p, b, m) ∧ v = (nI n, w, m) ∧ 1 ≤ n ∧ n ≤ 10 ∧ ds_G g p b w
theorem i_up {k : Nat} {u : SX} {v : SY} (h : i_Rel k u v) : i_Rel (k + 4) u v := h
theorem ds_i0 {n : Nat} (h1 : 1 ≤ n) (hn : n ≤ 10) : i_Rel 1 (nI n, nI (2 ^ n), (fun _ => 0), (fun _ => 0), (fun _ => 0)) (nI n, (fun _ => 0), (fun _ => 0)) :=
  ⟨n, _, _, _, _, _, rfl, rfl, h1, hn, ds_G0⟩
theorem i_vc0 (k0 : Int32) : wpX_init (fun u => wpY_init (fun v => i_Rel 1 u v) k0) k0 := by
  unfold wpX_init wpX_clampVertices
  by_cases h1 : 1 ≤ k0
  · refine br_t h1 ?_
    by_cases h10 : k0 ≤ 10
    · have h0 : ¬ k0 < 0 := by
        rw [Int32.lt_iff_toInt_lt]
        rw [Int32.le_iff_toInt_le, show (1 : Int32).toInt = 1 from by decide] at h1
        rw [show (0 : Int32).toInt = 0 from by decide]
        omega
      obtain ⟨j, hj, e⟩ := nI_of2 (M := 10) (n := 10) (by decide) h0 h10
      subst e
      have hj1 : 1 ≤ j := (nI_leI (a := 1) (b := j) (by decide) (by omega)).mp h1
      exact br_t h10 (nm_r (ds_sh j (by omega)) (br_t h1 (br_t h10 (ds_i0 hj1 hj))))
    · exact br_f h10 (nm_r (ds_sh 10 (by decide)) (br_t h1 (br_f h10 (ds_i0 (n := 10) (by decide) (by decide)))))
  · exact br_f h1 (nm_r (ds_sh 1 (by decide)) (br_f h1 (br_t (by decide) (ds_i0 (n := 1) (by decide) (by decide)))))
theorem i_vc_edge {k : Nat} {u : SX} {v : SY} (I : i_Rel k u v) (hk : k + 4 ≤ 2049) (v1 : Int32) (v2 : Int32) (v3 : Int32) : wpX_edge (fun r u' => wpY_edge (fun r' v' => r' = r ∧ i_Rel (k + 4) u' v') v v1 v2 v3) u v1 v2 v3 := by
  have I0 : i_Rel (k + 4) u v := i_up I
  obtain ⟨n, g, p, b, w, m, rfl, rfl, h1, hn, G⟩ := I
  unfold wpX_edge
  by_cases V1 : ds_V n v1
  · refine ds_xisv hn (fun _ => br_f ds_n10 ?_) (fun h => absurd V1 h)
    by_cases V2 : ds_V n v2
    · refine ds_xisv hn (fun _ => br_f ds_n10 ?_) (fun h => absurd V2 h)
      by_cases E : v1 = v2
      · refine br_t E ?_
        unfold wpY_edge
        exact ds_ybad hn (fun _ => br_t rfl (ds_ybad hn (fun _ => br_t rfl (br_t E ⟨rfl, I0⟩)) (fun h => absurd V2 h))) (fun h => absurd V1 h)
      · refine br_f E ?_
        by_cases W : ds_R 20 v3
        · refine ds_xisw (fun _ => br_f ds_n10 ?_) (fun h => absurd W h)
          obtain ⟨i, hi, rfl⟩ := V1
          obtain ⟨j, hj, rfl⟩ := V2
          obtain ⟨q, hq, rfl⟩ := W
          by_cases l : i < j
          · refine ds_xpc l (by omega) ⟨vp_in_nI (by omega) (by decide), nm_e ⟨vp_in_nI (by omega) (by decide), nm_e ?_⟩⟩
            unfold wpY_edge
            refine ds_ybad hn (fun _ => br_t rfl (ds_ybad hn (fun _ => br_t rfl (br_f E (ds_rng 20 (by decide) (fun _ => ?_) (fun h => absurd ⟨q, hq, rfl⟩ h)))) (fun h => absurd ⟨j, hj, rfl⟩ h))) (fun h => absurd ⟨i, hi, rfl⟩ h)
            rw [ds_cell, ds_cell, nI_clamp (n := i * 10 + j) (by omega), nI_clamp (n := j * 10 + i) (by omega)]
            refine ⟨vp_in_nI (by omega) (by decide), nm_e ⟨vp_in_nI (by omega) (by decide), nm_e ⟨vp_in_nI (by omega) (by decide), nm_e ⟨?_, ?_⟩⟩⟩⟩
            · rw [G.2.2.1 i j (by omega) (by omega), G.2.2.2.2 i j l (by omega)]
            · exact ⟨n, _, _, _, _, _, rfl, rfl, h1, hn, ds_Ge G l (by omega) hq⟩
          · have l2 : j < i := by
              have : i ≠ j := fun z => E (by rw [z])
              omega
            refine ds_xpc2 l2 (by omega) ⟨vp_in_nI (by omega) (by decide), nm_e ⟨vp_in_nI (by omega) (by decide), nm_e ?_⟩⟩
            unfold wpY_edge
            refine ds_ybad hn (fun _ => br_t rfl (ds_ybad hn (fun _ => br_t rfl (br_f E (ds_rng 20 (by decide) (fun _ => ?_) (fun h => absurd ⟨q, hq, rfl⟩ h)))) (fun h => absurd ⟨j, hj, rfl⟩ h))) (fun h => absurd ⟨i, hi, rfl⟩ h)
            rw [ds_cell, ds_cell, nI_clamp (n := i * 10 + j) (by omega), nI_clamp (n := j * 10 + i) (by omega)]
            refine ⟨vp_in_nI (by omega) (by decide), nm_e ⟨vp_in_nI (by omega) (by decide), nm_e ⟨vp_in_nI (by omega) (by decide), nm_e ⟨?_, ?_⟩⟩⟩⟩
            · rw [G.2.2.1 i j (by omega) (by omega), G.2.2.2.2 j i l2 (by omega), G.2.1 i j]
            · rw [ds_uc]
              exact ⟨n, _, _, _, _, _, rfl, rfl, h1, hn, ds_Ge G l2 (by omega) hq⟩
        · refine ds_xisw (fun h => absurd h W) (fun _ => br_t rfl ?_)
          unfold wpY_edge
          exact ds_ybad hn (fun _ => br_t rfl (ds_ybad hn (fun _ => br_t rfl (br_f E (ds_rng 20 (by decide) (fun h => absurd h W) (fun _ => ⟨rfl, I0⟩)))) (fun h => absurd V2 h))) (fun h => absurd V1 h)
    · refine ds_xisv hn (fun h => absurd h V2) (fun _ => br_t rfl ?_)
      unfold wpY_edge
      exact ds_ybad hn (fun _ => br_t rfl (ds_ybad hn (fun h => absurd h V2) (fun _ => br_f ds_n10 ⟨rfl, I0⟩))) (fun h => absurd V1 h)
  · refine ds_xisv hn (fun h => absurd h V1) (fun _ => br_t rfl ?_)
    unfold wpY_edge
    exact ds_ybad hn (fun h => absurd h V1) (fun _ => br_f ds_n10 ⟨rfl, I0⟩)
theorem i_vc_bonus {k : Nat} {u : SX} {v : SY} (I : i_Rel k u v) (hk : k + 4 ≤ 2049) (v1 : Int32) (v2 : Int32) : wpX_bonus (fun r u' => wpY_bonus (fun r' v' => r' = r ∧ i_Rel (k + 4) u' v') v v1 v2) u v1 v2 := by
  have I0 : i_Rel (k + 4) u v := i_up I
  obtain ⟨n, g, p, b, w, m, rfl, rfl, h1, hn, G⟩ := I
  unfold wpX_bonus
  by_cases V1 : ds_V n v1
  · refine ds_xisv hn (fun _ => br_f ds_n10 ?_) (fun h => absurd V1 h)
    by_cases W : ds_R 20 v2
    · refine ds_xisw (fun _ => br_f ds_n10 ?_) (fun h => absurd W h)
      obtain ⟨i, hi, rfl⟩ := V1
      obtain ⟨q, hq, rfl⟩ := W
      refine ⟨vp_in_nI (by omega) (by decide), nm_e ⟨vp_in_nI (by omega) (by decide), nm_e ?_⟩⟩
      unfold wpY_bonus
      refine ds_ybad hn (fun _ => br_t rfl (ds_rng 20 (by decide) (fun _ => ?_) (fun h => absurd ⟨q, hq, rfl⟩ h))) (fun h => absurd ⟨i, hi, rfl⟩ h)
      rw [ds_cell, nI_clamp (n := i * 10 + i) (by omega), nI_clamp (n := i) (by omega)]
      refine ⟨vp_in_nI (by omega) (by decide), nm_e ⟨vp_in_nI (by omega) (by decide), nm_e ⟨?_, ?_⟩⟩⟩
      · rw [G.2.2.1 i i (by omega) (by omega), G.2.2.2.1 i (by omega)]
      · exact ⟨n, _, _, _, _, _, rfl, rfl, h1, hn, ds_Gb G (by omega) hq⟩
    · refine ds_xisw (fun h => absurd h W) (fun _ => br_t rfl ?_)
      unfold wpY_bonus
      exact ds_ybad hn (fun _ => br_t rfl (ds_rng 20 (by decide) (fun h => absurd h W) (fun _ => ⟨rfl, I0⟩))) (fun h => absurd V1 h)
  · refine ds_xisv hn (fun h => absurd h V1) (fun _ => br_t rfl ?_)
    unfold wpY_bonus
    exact ds_ybad hn (fun h => absurd h V1) (fun _ => br_f ds_n10 ⟨rfl, I0⟩)
theorem i_vc_mode {k : Nat} {u : SX} {v : SY} (I : i_Rel k u v) (hk : k + 4 ≤ 2049) (v1 : Int32) (v2 : Int32) : wpX_mode (fun r u' => wpY_mode (fun r' v' => r' = r ∧ i_Rel (k + 4) u' v') v v1 v2) u v1 v2 := by
  have I0 : i_Rel (k + 4) u v := i_up I
  obtain ⟨n, g, p, b, w, m, rfl, rfl, h1, hn, G⟩ := I
  unfold wpX_mode
  by_cases V1 : ds_V n v1
  · refine ds_xisv hn (fun _ => br_f ds_n10 ?_) (fun h => absurd V1 h)
    obtain ⟨i, hi, rfl⟩ := V1
    have hin : vp_in (nI i) 10 := vp_in_nI (by omega) (by decide)
    by_cases W : ds_R 2 v2
    · refine ds_rng 2 (by decide) (fun _ => ⟨hin, nm_e ⟨hin, nm_e ?_⟩⟩) (fun h => absurd W h)
      unfold wpY_mode
      exact ds_ybad hn (fun _ => br_t rfl (ds_rng 2 (by decide) (fun _ => ⟨hin, nm_e ⟨hin, nm_e ⟨rfl, n, g, p, b, w, _, rfl, rfl, h1, hn, G⟩⟩⟩) (fun h => absurd W h))) (fun h => absurd ⟨i, hi, rfl⟩ h)
    · refine ds_rng 2 (by decide) (fun h => absurd h W) (fun _ => ?_)
      unfold wpY_mode
      exact ds_ybad hn (fun _ => br_t rfl (ds_rng 2 (by decide) (fun h => absurd h W) (fun _ => ⟨rfl, I0⟩))) (fun h => absurd ⟨i, hi, rfl⟩ h)
  · refine ds_xisv hn (fun h => absurd h V1) (fun _ => br_t rfl ?_)
    unfold wpY_mode
    exact ds_ybad hn (fun h => absurd h V1) (fun _ => br_f ds_n10 ⟨rfl, I0⟩)
theorem i_vc_weight {k : Nat} {u : SX} {v : SY} (I : i_Rel k u v) (hk : k + 4 ≤ 2049) (v1 : Int32) : wpX_weight (fun r => wpY_weight (fun r' => r' = r ∧ i_Rel (k + 4) u v) v v1) u v1 := by
  have I0 : i_Rel (k + 4) u v := i_up I
  obtain ⟨n, g, p, b, w, m, rfl, rfl, h1, hn, G⟩ := I
  exact ds_xweight G hn (ds_yweight G hn ⟨rfl, I0⟩)
theorem i_vc_densityTop {k : Nat} {u : SX} {v : SY} (I : i_Rel k u v) (hk : k + 4 ≤ 2049) : wpX_densityTop (fun r => wpY_densityTop (fun r' => r' = r ∧ i_Rel (k + 4) u v) v) u := by
  have I0 : i_Rel (k + 4) u v := i_up I
  obtain ⟨n, g, p, b, w, m, rfl, rfl, h1, hn, G⟩ := I
  have hN : 2 ^ n ≤ 2 ^ 10 := Nat.pow_le_pow_right (by decide) hn
  obtain ⟨r, hr, hx, hy⟩ := ds_some (m := m) G hn Nat.one_le_two_pow hN (ds_sh n (by omega))
  unfold wpX_densityTop
  refine hx _ ?_
  obtain z | ⟨j, hj1, hj2, e⟩ := hr
  · refine br_t z ?_
    unfold wpY_densityTop
    exact hy _ (br_t z ⟨rfl, I0⟩)
  · have z : ¬ r = 0 := by rw [e]; exact nI_ne0 (by omega) (by omega)
    have hs1 : 1 ≤ ds_sz r n := by rw [e]; exact ds_szP hn hj1 hj2
    have hs2 := ds_szB (x := r) n
    have ht := ds_wtB (x := r) G.1 n hn
    have hd := ds_cdB (t := ds_wt g r n) (s := ds_sz r n) (ds_sz r n) (by omega)
    refine br_f z (ds_xweight G hn (ds_xsize hn (ds_xcd (by omega) (by omega) ⟨nI_ne0 (by omega) (by omega), ?_⟩)))
    unfold wpY_densityTop
    refine hy _ (br_f z (ds_yweight G hn (ds_ycd G hn hs1 ?_)))
    generalize ds_cd (ds_wt g r n) (ds_sz r n) (ds_sz r n) = c at hd ⊢
    by_cases h : c = 1
    · subst h
      refine br_t (nI_le (a := 1) (b := 1) (by decide) (by decide)) ⟨?_, I0⟩
      rw [pk_div (by omega) (by decide) (by decide), Nat.div_one]
    · exact br_f (nI_ge (a := 1) (b := c) (by omega) (by omega)) ⟨nI_ne0 (by omega) (by omega), rfl, I0⟩
theorem i_vc_densityBottom {k : Nat} {u : SX} {v : SY} (I : i_Rel k u v) (hk : k + 4 ≤ 2049) : wpX_densityBottom (fun r => wpY_densityBottom (fun r' => r' = r ∧ i_Rel (k + 4) u v) v) u := by
  have I0 : i_Rel (k + 4) u v := i_up I
  obtain ⟨n, g, p, b, w, m, rfl, rfl, h1, hn, G⟩ := I
  have hN : 2 ^ n ≤ 2 ^ 10 := Nat.pow_le_pow_right (by decide) hn
  obtain ⟨r, hr, hx, hy⟩ := ds_some (m := m) G hn Nat.one_le_two_pow hN (ds_sh n (by omega))
  unfold wpX_densityBottom
  refine hx _ ?_
  obtain z | ⟨j, hj1, hj2, e⟩ := hr
  · refine br_t z ?_
    unfold wpY_densityBottom
    exact hy _ (br_t z ⟨rfl, I0⟩)
  · have z : ¬ r = 0 := by rw [e]; exact nI_ne0 (by omega) (by omega)
    have hs1 : 1 ≤ ds_sz r n := by rw [e]; exact ds_szP hn hj1 hj2
    have hs2 := ds_szB (x := r) n
    have ht := ds_wtB (x := r) G.1 n hn
    have hd := ds_cdB (t := ds_wt g r n) (s := ds_sz r n) (ds_sz r n) (by omega)
    refine br_f z (ds_xweight G hn (ds_xsize hn (ds_xcd (by omega) (by omega) ⟨nI_ne0 (by omega) (by omega), ?_⟩)))
    unfold wpY_densityBottom
    refine hy _ (br_f z (ds_ysize hn (ds_ycd G hn hs1 ?_)))
    generalize ds_cd (ds_wt g r n) (ds_sz r n) (ds_sz r n) = c at hd ⊢
    by_cases h : c = 1
    · subst h
      refine br_t (nI_le (a := 1) (b := 1) (by decide) (by decide)) ⟨?_, I0⟩
      rw [pk_div (by omega) (by decide) (by decide), Nat.div_one]
    · exact br_f (nI_ge (a := 1) (b := c) (by omega) (by omega)) ⟨nI_ne0 (by omega) (by omega), rfl, I0⟩
theorem i_vc_densest {k : Nat} {u : SX} {v : SY} (I : i_Rel k u v) (hk : k + 4 ≤ 2049) : wpX_densest (fun r => wpY_densest (fun r' => r' = r ∧ i_Rel (k + 4) u v) v) u := by
  have I0 : i_Rel (k + 4) u v := i_up I
  obtain ⟨n, g, p, b, w, m, rfl, rfl, h1, hn, G⟩ := I
  have hN : 2 ^ n ≤ 2 ^ 10 := Nat.pow_le_pow_right (by decide) hn
  have h1N : 1 ≤ 2 ^ n := Nat.one_le_two_pow
  obtain ⟨r, hr, hx, hy⟩ := ds_some (m := m) G hn h1N hN (ds_sh n (by omega))
  obtain ⟨r2, hx2, hy2⟩ := ds_dens23 (m := m) G hn hN (ds_sh n (by omega)) (nI (ds_wt g r n)) (nI (ds_sz r n)) (2 ^ n - 1) 1 0 (by omega)
  unfold wpX_densest
  refine hx _ (ds_xweight G hn (ds_xsize hn ⟨_, hx2 _ ?_⟩))
  unfold wpY_densest
  exact hy _ (ds_yweight G hn (ds_ysize hn ⟨_, hy2 _ ⟨rfl, I0⟩⟩))
theorem i_vc_excess {k : Nat} {u : SX} {v : SY} (I : i_Rel k u v) (hk : k + 4 ≤ 2049) (v1 : Int32) (v2 : Int32) : wpX_excess (fun r => wpY_excess (fun r' => r' = r ∧ i_Rel (k + 4) u v) v v1 v2) u v1 v2 := by
  have I0 : i_Rel (k + 4) u v := i_up I
  obtain ⟨n, g, p, b, w, m, rfl, rfl, h1, hn, G⟩ := I
  unfold wpX_excess
  by_cases P : ds_P v1 v2
  · refine ds_xgp (fun _ => br_f ds_n10 ?_) (fun h => absurd P h)
    obtain ⟨a, q, ha1, ha, hq, rfl, rfl⟩ := P
    obtain ⟨r, hx, hy⟩ := ds_ge (m := m) G hn ha1 ha hq
    exact hx _ (hy _ ⟨rfl, I0⟩)
  · refine ds_xgp (fun h => absurd h P) (fun _ => br_t rfl ?_)
    unfold wpY_excess
    exact ds_ygp (fun h => absurd h P) (fun _ => br_f ds_n10 ⟨rfl, I0⟩)
theorem i_vc_excessSet {k : Nat} {u : SX} {v : SY} (I : i_Rel k u v) (hk : k + 4 ≤ 2049) (v1 : Int32) (v2 : Int32) : wpX_excessSet (fun r => wpY_excessSet (fun r' => r' = r ∧ i_Rel (k + 4) u v) v v1 v2) u v1 v2 := by
  have I0 : i_Rel (k + 4) u v := i_up I
  obtain ⟨n, g, p, b, w, m, rfl, rfl, h1, hn, G⟩ := I
  have hN : 2 ^ n ≤ 2 ^ 10 := Nat.pow_le_pow_right (by decide) hn
  unfold wpX_excessSet
  by_cases P : ds_P v1 v2
  · refine ds_xgp (fun _ => br_f ds_n10 ?_) (fun h => absurd P h)
    obtain ⟨a, q, ha1, ha, hq, rfl, rfl⟩ := P
    obtain ⟨r, hx, hy⟩ := ds_ge (m := m) G hn ha1 ha hq
    obtain ⟨r2, hx2, hy2⟩ := ds_exset (m := m) G hn hN (ds_sh n (by omega)) (nI a) (nI q) r (2 ^ n) 0 0 (Nat.zero_add _)
    refine hx _ ⟨_, hx2 _ ?_⟩
    unfold wpY_excessSet
    exact ds_ygp (fun _ => br_t rfl (hy _ ⟨_, hy2 _ ⟨rfl, I0⟩⟩)) (fun h => absurd ⟨a, q, ha1, ha, hq, rfl, rfl⟩ h)
  · refine ds_xgp (fun h => absurd h P) (fun _ => br_t rfl ?_)
    unfold wpY_excessSet
    exact ds_ygp (fun h => absurd h P) (fun _ => br_f ds_n10 ⟨rfl, I0⟩)
