/-! the loops over all sets: component and reference in lockstep -/
theorem ds_some9 {g : Nat → Nat → Nat} {p b w m : Nat → Int32} (G : ds_G g p b w) {n N : Nat} (hn : n ≤ 10) (hN : N ≤ 1024) (eN : (1 : Int32) <<< (nI n &&& 31) = nI N) : ∀ d i x1 x2 x3 y2 y3, 1 ≤ i → i + d = N → (x1 = 0 ∨ ((∃ j, 1 ≤ j ∧ j < N ∧ x1 = nI j) ∧ x2 = y2 ∧ x3 = y3)) →
    ∃ r, (r = 0 ∨ ∃ j, 1 ≤ j ∧ j < N ∧ r = nI j) ∧ (∀ post : Int32 → Prop, post r → wX_someDensestSet_9 post (nI n) (nI N) p b m (d + 1) x1 x2 x3 (nI i)) ∧ (∀ post : Int32 → Prop, post r → wY_oneDensest_9 post (nI n) w m (d + 1) x1 y2 y3 (nI i)) := by
  intro d
  induction d with
  | zero =>
    intro i x1 x2 x3 y2 y3 hi0 hi hx
    have e : i = N := hi
    subst e
    have hle : nI i ≤ nI i := nI_le (Nat.le_refl _) (by omega)
    refine ⟨x1, hx.imp id (fun h => h.1), fun post hp => br_t hle hp, fun post hp => br_t (by rw [eN]; exact hle) hp⟩
  | succ d ih =>
    intro i x1 x2 x3 y2 y3 hi0 hi hx
    have hX : ¬ nI N ≤ nI i := nI_ge (by omega) (by omega)
    have hY : ¬ (1 : Int32) <<< (nI n &&& 31) ≤ nI i := by rw [eN]; exact hX
    by_cases A : ds_A m (nI i) n
    · have hnew : ∃ r, (r = 0 ∨ ∃ j, 1 ≤ j ∧ j < N ∧ r = nI j) ∧ (∀ post : Int32 → Prop, post r → wX_someDensestSet_9 post (nI n) (nI N) p b m (d + 1) (nI i) (nI (ds_wt g (nI i) n)) (nI (ds_sz (nI i) n)) (nI (i + 1))) ∧ (∀ post : Int32 → Prop, post r → wY_oneDensest_9 post (nI n) w m (d + 1) (nI i) (nI (ds_wt g (nI i) n)) (nI (ds_sz (nI i) n)) (nI (i + 1))) :=
        ih (i + 1) _ _ _ _ _ (by omega) (by omega) (Or.inr ⟨⟨i, hi0, by omega, rfl⟩, rfl, rfl⟩)
      by_cases z : x1 = 0
      · obtain ⟨r, hr, hx1, hy1⟩ := hnew
        refine ⟨r, hr, fun post hp => br_f hX (ds_xallow hn (fun _ => br_f ds_n10 (ds_xweight G hn (ds_xsize hn (br_t z (nm_r (nI_1 i) (hx1 post hp)))))) (fun h => absurd A h)), fun post hp => br_f hY (ds_yallow hn (fun _ => br_f ds_n10 (ds_yweight G hn (ds_ysize hn (br_t z (nm_r (nI_1 i) (hy1 post hp)))))) (fun h => absurd A h))⟩
      · obtain h | ⟨hj, rfl, rfl⟩ := hx
        · exact absurd h z
        by_cases c : nI (ds_wt g (nI i) n) * x3 ≤ x2 * nI (ds_sz (nI i) n)
        · obtain ⟨r, hr, hx1, hy1⟩ := ih (i + 1) x1 x2 x3 x2 x3 (by omega) (by omega) (Or.inr ⟨hj, rfl, rfl⟩)
          refine ⟨r, hr, fun post hp => br_f hX (ds_xallow hn (fun _ => br_f ds_n10 (ds_xweight G hn (ds_xsize hn (br_f z (br_t c (nm_r (nI_1 i) (hx1 post hp))))))) (fun h => absurd A h)), fun post hp => br_f hY (ds_yallow hn (fun _ => br_f ds_n10 (ds_yweight G hn (ds_ysize hn (br_f z (br_t c (nm_r (nI_1 i) (hy1 post hp))))))) (fun h => absurd A h))⟩
        · obtain ⟨r, hr, hx1, hy1⟩ := hnew
          refine ⟨r, hr, fun post hp => br_f hX (ds_xallow hn (fun _ => br_f ds_n10 (ds_xweight G hn (ds_xsize hn (br_f z (br_f c (nm_r (nI_1 i) (hx1 post hp))))))) (fun h => absurd A h)), fun post hp => br_f hY (ds_yallow hn (fun _ => br_f ds_n10 (ds_yweight G hn (ds_ysize hn (br_f z (br_f c (nm_r (nI_1 i) (hy1 post hp))))))) (fun h => absurd A h))⟩
    · obtain ⟨r, hr, hx1, hy1⟩ := ih (i + 1) x1 x2 x3 y2 y3 (by omega) (by omega) hx
      exact ⟨r, hr, fun post hp => br_f hX (ds_xallow hn (fun h => absurd h A) (fun _ => br_t rfl (nm_r (nI_1 i) (hx1 post hp)))), fun post hp => br_f hY (ds_yallow hn (fun h => absurd h A) (fun _ => br_t rfl (nm_r (nI_1 i) (hy1 post hp))))⟩
theorem ds_some {g : Nat → Nat → Nat} {p b w m : Nat → Int32} (G : ds_G g p b w) {n N : Nat} (hn : n ≤ 10) (h1 : 1 ≤ N) (hN : N ≤ 1024) (eN : (1 : Int32) <<< (nI n &&& 31) = nI N) :
    ∃ r, (r = 0 ∨ ∃ j, 1 ≤ j ∧ j < N ∧ r = nI j) ∧ (∀ post : Int32 → Prop, post r → wpX_someDensestSet post (nI n, nI N, p, b, m)) ∧ (∀ post : Int32 → Prop, post r → wpY_oneDensest post (nI n, w, m)) := by
  obtain ⟨r, hr, hx, hy⟩ := ds_some9 G hn hN eN (N - 1) 1 0 0 0 0 1 (Nat.le_refl 1) (by omega) (Or.inl rfl)
  exact ⟨r, hr, fun post hp => ⟨_, hx post hp⟩, fun post hp => ⟨_, hy post hp⟩⟩
theorem ds_dens23 {g : Nat → Nat → Nat} {p b w m : Nat → Int32} (G : ds_G g p b w) {n N : Nat} (hn : n ≤ 10) (hN : N ≤ 1024) (eN : (1 : Int32) <<< (nI n &&& 31) = nI N) (x2 x3 : Int32) : ∀ d i c, i + d = N →
    ∃ r, (∀ post : Int32 → Prop, post r → wX_densest_23 post x2 x3 (nI n) (nI N) p b m (d + 1) c (nI i)) ∧ (∀ post : Int32 → Prop, post r → wY_densest_23 post x2 x3 (nI n) w m (d + 1) c (nI i)) := by
  intro d
  induction d with
  | zero =>
    intro i c hi
    have e : i = N := hi
    subst e
    have hle : nI i ≤ nI i := nI_le (Nat.le_refl _) (by omega)
    exact ⟨c, fun post hp => br_t hle hp, fun post hp => br_t (by rw [eN]; exact hle) hp⟩
  | succ d ih =>
    intro i c hi
    have hX : ¬ nI N ≤ nI i := nI_ge (by omega) (by omega)
    have hY : ¬ (1 : Int32) <<< (nI n &&& 31) ≤ nI i := by rw [eN]; exact hX
    by_cases A : ds_A m (nI i) n
    · by_cases q : nI (ds_wt g (nI i) n) * x3 = x2 * nI (ds_sz (nI i) n)
      · obtain ⟨r, hx1, hy1⟩ := ih (i + 1) (c ||| nI i) (by omega)
        exact ⟨r, fun post hp => br_f hX (ds_xallow hn (fun _ => br_f ds_n10 (ds_xweight G hn (ds_xsize hn (br_t q (nm_e (nm_r (nI_1 i) (hx1 post hp))))))) (fun h => absurd A h)), fun post hp => br_f hY (ds_yallow hn (fun _ => br_f ds_n10 (ds_yweight G hn (ds_ysize hn (br_t q (nm_e (nm_r (nI_1 i) (hy1 post hp))))))) (fun h => absurd A h))⟩
      · obtain ⟨r, hx1, hy1⟩ := ih (i + 1) c (by omega)
        exact ⟨r, fun post hp => br_f hX (ds_xallow hn (fun _ => br_f ds_n10 (ds_xweight G hn (ds_xsize hn (br_f q (nm_r (nI_1 i) (hx1 post hp)))))) (fun h => absurd A h)), fun post hp => br_f hY (ds_yallow hn (fun _ => br_f ds_n10 (ds_yweight G hn (ds_ysize hn (br_f q (nm_r (nI_1 i) (hy1 post hp)))))) (fun h => absurd A h))⟩
    · obtain ⟨r, hx1, hy1⟩ := ih (i + 1) c (by omega)
      exact ⟨r, fun post hp => br_f hX (ds_xallow hn (fun h => absurd h A) (fun _ => br_t rfl (nm_r (nI_1 i) (hx1 post hp)))), fun post hp => br_f hY (ds_yallow hn (fun h => absurd h A) (fun _ => br_t rfl (nm_r (nI_1 i) (hy1 post hp))))⟩
/-- the value of a set at a gain c and a price q -/
def ds_v (g : Nat → Nat → Nat) (n : Nat) (c q x : Int32) : Int32 := c * nI (ds_wt g x n) - q * nI (ds_sz x n)
theorem ds_exset {g : Nat → Nat → Nat} {p b w m : Nat → Int32} (G : ds_G g p b w) {n N : Nat} (hn : n ≤ 10) (hN : N ≤ 1024) (eN : (1 : Int32) <<< (nI n &&& 31) = nI N) (c q x3 : Int32) : ∀ d i a, i + d = N →
    ∃ r, (∀ post : Int32 → Prop, post r → wX_excessSet_24 post c q x3 (nI n) (nI N) p b m (d + 1) a (nI i)) ∧ (∀ post : Int32 → Prop, post r → wY_excessSet_24 post c q x3 (nI n) w m (d + 1) a (nI i)) := by
  intro d
  induction d with
  | zero =>
    intro i a hi
    have e : i = N := hi
    subst e
    have hle : nI i ≤ nI i := nI_le (Nat.le_refl _) (by omega)
    exact ⟨a, fun post hp => br_t hle hp, fun post hp => br_t (by rw [eN]; exact hle) hp⟩
  | succ d ih =>
    intro i a hi
    have hX : ¬ nI N ≤ nI i := nI_ge (by omega) (by omega)
    have hY : ¬ (1 : Int32) <<< (nI n &&& 31) ≤ nI i := by rw [eN]; exact hX
    by_cases A : ds_A m (nI i) n
    · by_cases z : c * nI (ds_wt g (nI i) n) - q * nI (ds_sz (nI i) n) = x3
      · obtain ⟨r, hx1, hy1⟩ := ih (i + 1) (a ||| nI i) (by omega)
        exact ⟨r, fun post hp => br_f hX (ds_xallow hn (fun _ => br_f ds_n10 (ds_xex G hn (br_t z (nm_e (nm_r (nI_1 i) (hx1 post hp)))))) (fun h => absurd A h)), fun post hp => br_f hY (ds_yallow hn (fun _ => br_f ds_n10 (ds_yweight G hn (ds_ysize hn (nm_e (br_t z (nm_e (nm_r (nI_1 i) (hy1 post hp)))))))) (fun h => absurd A h))⟩
      · obtain ⟨r, hx1, hy1⟩ := ih (i + 1) a (by omega)
        exact ⟨r, fun post hp => br_f hX (ds_xallow hn (fun _ => br_f ds_n10 (ds_xex G hn (br_f z (nm_r (nI_1 i) (hx1 post hp))))) (fun h => absurd A h)), fun post hp => br_f hY (ds_yallow hn (fun _ => br_f ds_n10 (ds_yweight G hn (ds_ysize hn (nm_e (br_f z (nm_r (nI_1 i) (hy1 post hp))))))) (fun h => absurd A h))⟩
    · obtain ⟨r, hx1, hy1⟩ := ih (i + 1) a (by omega)
      exact ⟨r, fun post hp => br_f hX (ds_xallow hn (fun h => absurd h A) (fun _ => br_t rfl (nm_r (nI_1 i) (hx1 post hp)))), fun post hp => br_f hY (ds_yallow hn (fun h => absurd h A) (fun _ => br_t rfl (nm_r (nI_1 i) (hy1 post hp))))⟩
/-- what ties the two greatest values so far: they are one, or the component's is still the pinned set's, and that set is still to come -/
def ds_J (V : Int32) (P i : Nat) (x y : Int32) : Prop := x = y ∨ (y < x ∧ x = V ∧ i ≤ P)
theorem ds_Jn {V x y : Int32} {P i : Nat} (h : ds_J V P i x y) (hne : i ≠ P) : ds_J V P (i + 1) x y :=
  h.imp id (fun h => ⟨h.1, h.2.1, by omega⟩)
theorem ds_J1 {V x y z : Int32} {P i : Nat} (h : ds_J V P i x y) (hz : i = P → z = V) (hx : z ≤ x) (hy : z ≤ y) : ds_J V P (i + 1) x y := by
  obtain h | ⟨h1, h2, h3⟩ := h
  · exact Or.inl h
  · refine Or.inr ⟨h1, h2, ?_⟩
    by_cases e : i = P
    · have e2 := hz e
      rw [e2, ← h2] at hy
      exact absurd h1 (Int32.not_lt.mpr hy)
    · omega
theorem ds_J2 {V x y z : Int32} {P i : Nat} (h : ds_J V P i x y) (hz : i = P → z = V) (hx : z ≤ x) (hy : ¬ z ≤ y) : ds_J V P (i + 1) x z := by
  obtain h | ⟨h1, h2, h3⟩ := h
  · exact absurd (h ▸ hx) hy
  · by_cases e : x = z
    · exact Or.inl e
    · refine Or.inr ⟨?_, h2, ?_⟩
      · rw [Int32.lt_iff_toInt_lt]
        rw [Int32.le_iff_toInt_le] at hx
        have : x.toInt ≠ z.toInt := fun h => e (Int32.toInt_inj.mp h)
        omega
      · have : i ≠ P := fun h => e (h2.trans (hz h).symm)
        omega
theorem ds_J3 {V x y z : Int32} {P i : Nat} (h : ds_J V P i x y) (hx : ¬ z ≤ x) (hy : z ≤ y) : False := by
  obtain h | ⟨h1, h2, h3⟩ := h
  · exact hx (h ▸ hy)
  · rw [Int32.lt_iff_toInt_lt] at h1
    rw [Int32.le_iff_toInt_le] at hx hy
    omega
theorem ds_ex17 {g : Nat → Nat → Nat} {p b w m : Nat → Int32} (G : ds_G g p b w) {n N P : Nat} (hn : n ≤ 10) (hN : N ≤ 1024) (eN : (1 : Int32) <<< (nI n &&& 31) = nI N) (hP : P < N) (hA : ds_A m (nI P) n) (c q : Int32) : ∀ d i x y, i + d = N → ds_J (ds_v g n c q (nI P)) P i x y →
    ∃ r, (∀ post : Int32 → Prop, post r → wX_greatestExcess_17 post c q (nI n) (nI N) p b m (d + 1) x (nI i)) ∧ (∀ post : Int32 → Prop, post r → wY_excess_18 post c q (nI n) w m (d + 1) y (nI i)) := by
  intro d
  induction d with
  | zero =>
    intro i x y hi hJ
    have e : i = N := hi
    subst e
    have hle : nI i ≤ nI i := nI_le (Nat.le_refl _) (by omega)
    have exy : x = y := hJ.elim id (fun h => absurd h.2.2 (by omega))
    subst exy
    exact ⟨x, fun post hp => br_t hle hp, fun post hp => br_t (by rw [eN]; exact hle) hp⟩
  | succ d ih =>
    intro i x y hi hJ
    have hX : ¬ nI N ≤ nI i := nI_ge (by omega) (by omega)
    have hY : ¬ (1 : Int32) <<< (nI n &&& 31) ≤ nI i := by rw [eN]; exact hX
    by_cases A : ds_A m (nI i) n
    · have hz : i = P → ds_v g n c q (nI i) = ds_v g n c q (nI P) := fun e => by rw [e]
      by_cases h1 : ds_v g n c q (nI i) ≤ x
      · by_cases h2 : ds_v g n c q (nI i) ≤ y
        · obtain ⟨r, hx1, hy1⟩ := ih (i + 1) x y (by omega) (ds_J1 hJ hz h1 h2)
          exact ⟨r, fun post hp => br_f hX (ds_xallow hn (fun _ => br_f ds_n10 (ds_xex G hn (br_t h1 (nm_r (nI_1 i) (hx1 post hp))))) (fun h => absurd A h)), fun post hp => br_f hY (ds_yallow hn (fun _ => br_f ds_n10 (ds_yweight G hn (ds_ysize hn (nm_e (br_t h2 (nm_r (nI_1 i) (hy1 post hp))))))) (fun h => absurd A h))⟩
        · obtain ⟨r, hx1, hy1⟩ := ih (i + 1) x (ds_v g n c q (nI i)) (by omega) (ds_J2 hJ hz h1 h2)
          exact ⟨r, fun post hp => br_f hX (ds_xallow hn (fun _ => br_f ds_n10 (ds_xex G hn (br_t h1 (nm_r (nI_1 i) (hx1 post hp))))) (fun h => absurd A h)), fun post hp => br_f hY (ds_yallow hn (fun _ => br_f ds_n10 (ds_yweight G hn (ds_ysize hn (nm_e (br_f h2 (nm_r (nI_1 i) (hy1 post hp))))))) (fun h => absurd A h))⟩
      · by_cases h2 : ds_v g n c q (nI i) ≤ y
        · exact (ds_J3 hJ h1 h2).elim
        · obtain ⟨r, hx1, hy1⟩ := ih (i + 1) (ds_v g n c q (nI i)) (ds_v g n c q (nI i)) (by omega) (Or.inl rfl)
          exact ⟨r, fun post hp => br_f hX (ds_xallow hn (fun _ => br_f ds_n10 (ds_xex G hn (br_f h1 (nm_r (nI_1 i) (hx1 post hp))))) (fun h => absurd A h)), fun post hp => br_f hY (ds_yallow hn (fun _ => br_f ds_n10 (ds_yweight G hn (ds_ysize hn (nm_e (br_f h2 (nm_r (nI_1 i) (hy1 post hp))))))) (fun h => absurd A h))⟩
    · have hne : i ≠ P := fun e => A (by rw [e]; exact hA)
      obtain ⟨r, hx1, hy1⟩ := ih (i + 1) x y (by omega) (ds_Jn hJ hne)
      exact ⟨r, fun post hp => br_f hX (ds_xallow hn (fun h => absurd h A) (fun _ => br_t rfl (nm_r (nI_1 i) (hx1 post hp)))), fun post hp => br_f hY (ds_yallow hn (fun h => absurd h A) (fun _ => br_t rfl (nm_r (nI_1 i) (hy1 post hp))))⟩
theorem ds_vB {g : Nat → Nat → Nat} (hg : ∀ i j, g i j ≤ 20) {n a q : Nat} (hn : n ≤ 10) (ha : a ≤ 20) (hq : q ≤ 2000) (x : Int32) : (-1000000 : Int32) < ds_v g n (nI a) (nI q) x := by
  have h1 := ds_wtB (x := x) hg n hn
  have h2 := ds_szB (x := x) n
  have h3 : a * ds_wt g x n ≤ 20 * 2200 := Nat.mul_le_mul ha (by omega)
  have h4 : q * ds_sz x n ≤ 2000 * 10 := Nat.mul_le_mul hq (by omega)
  unfold ds_v
  rw [pk_mul, pk_mul, Int32.lt_iff_toInt_lt, pk_sub_toInt (by omega) (by omega), show (-1000000 : Int32).toInt = -1000000 from by decide]
  omega
