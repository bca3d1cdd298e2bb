/-! the reference's own methods, each with the same value -/
theorem ds_yw15 {g : Nat → Nat → Nat} {p b w m : Nat → Int32} (G : ds_G g p b w) {f1 : Int32} {post : Int32 → Prop} {J : Int32 → Int32 → Prop} {x : Int32} {u c : Nat} (hu : u < 10) (hb : ds_b x u = true) (hp : J (nI (c + ds_lo g x u (u + 1))) (nI (u + 1))) : ∀ d k, k + d = u + 1 → wY_weight_15 post J x (nI u) f1 w m (d + 1) (nI (c + ds_lo g x u k)) (nI k) := by
  intro d
  induction d with
  | zero =>
    intro k hk
    have e : k = u + 1 := hk
    subst e
    exact br_t (nI_lt (by omega) (by omega)) (nm_r (nI_1 u) hp)
  | succ d ih =>
    intro k hk
    have hx := ih (k + 1) (by omega)
    refine br_f (nI_nlt (by omega) (by omega)) (br_t (ds_bT hb) ?_)
    cases hk2 : ds_b x k
    · refine br_f (ds_bF hk2) (nm_r (nI_1 k) ?_)
      rw [ds_loF hk2] at hx; exact hx
    · refine br_t (ds_bT hk2) ?_
      rw [ds_cell]
      refine ⟨vp_in_nI (by omega) (by decide), nm_r ?_ (nm_r (nI_1 k) hx)⟩
      rw [nI_clamp (by omega), G.2.2.1 u k hu (by omega), nI_add, ds_loT hk2, Nat.add_assoc]
theorem ds_yw15F {w m : Nat → Int32} {f1 : Int32} {post : Int32 → Prop} {J : Int32 → Int32 → Prop} {x : Int32} {u : Nat} {y : Int32} (hu : u < 10) (hb : ds_b x u = false) (hp : J y (nI (u + 1))) : ∀ d k, k + d = u + 1 → wY_weight_15 post J x (nI u) f1 w m (d + 1) y (nI k) := by
  intro d
  induction d with
  | zero =>
    intro k hk
    have e : k = u + 1 := hk
    subst e
    exact br_t (nI_lt (by omega) (by omega)) (nm_r (nI_1 u) hp)
  | succ d ih =>
    intro k hk
    exact br_f (nI_nlt (by omega) (by omega)) (br_f (ds_bF hb) (nm_r (nI_1 k) (ih (k + 1) (by omega))))
theorem ds_yweight4 {g : Nat → Nat → Nat} {p b w m : Nat → Int32} (G : ds_G g p b w) {n : Nat} (hn : n ≤ 10) {post : Int32 → Prop} {x : Int32} (hp : post (nI (ds_wt g x n))) : ∀ d k, k + d = n → wY_weight_4 post x (nI n) w m (d + 1) (nI (ds_wt g x k)) (nI k) := by
  intro d
  induction d with
  | zero =>
    intro k hk
    have e : k = n := hk
    subst e
    exact br_t (nI_le (Nat.le_refl _) (by omega)) hp
  | succ d ih =>
    intro k hk
    have hx := ih (k + 1) (by omega)
    refine br_f (nI_ge (by omega) (by omega)) ⟨k + 2, ?_⟩
    cases hb : ds_b x k
    · rw [ds_wtF hb] at hx
      exact ds_yw15F (by omega) hb hx (k + 1) 0 (by omega)
    · rw [ds_wtT hb, ← ds_loT hb] at hx
      exact ds_yw15 G (by omega) hb hx (k + 1) 0 (by omega)
theorem ds_yweight {g : Nat → Nat → Nat} {p b w m : Nat → Int32} (G : ds_G g p b w) {n : Nat} (hn : n ≤ 10) {post : Int32 → Prop} {x : Int32} (hp : post (nI (ds_wt g x n))) : wpY_weight post (nI n, w, m) x :=
  ⟨n + 1, ds_yweight4 G hn hp n 0 (Nat.zero_add n)⟩
theorem ds_ysize4 {w m : Nat → Int32} {n : Nat} (hn : n ≤ 10) {post : Int32 → Prop} {x : Int32} (hp : post (nI (ds_sz x n))) : ∀ d k, k + d = n → wY_size_4 post x (nI n) w m (d + 1) (nI (ds_sz x k)) (nI k) := by
  intro d
  induction d with
  | zero =>
    intro k hk
    have e : k = n := hk
    subst e
    exact br_t (nI_le (Nat.le_refl _) (by omega)) hp
  | succ d ih =>
    intro k hk
    have hx := ih (k + 1) (by omega)
    refine br_f (nI_ge (by omega) (by omega)) (nm_r ?_ (nm_r (nI_1 k) hx))
    cases hb : ds_b x k
    · rw [ds_bF0 hb, ds_szF hb, ← nI_0, nI_add]; rfl
    · rw [ds_bT hb, ds_szT hb, nI_1]
theorem ds_ysize {w m : Nat → Int32} {n : Nat} (hn : n ≤ 10) {post : Int32 → Prop} {x : Int32} (hp : post (nI (ds_sz x n))) : wpY_size post (nI n, w, m) x :=
  ⟨n + 1, ds_ysize4 hn hp n 0 (Nat.zero_add n)⟩
theorem ds_yallow2 {w m : Nat → Int32} {n : Nat} (hn : n ≤ 10) {post : Int32 → Prop} {x : Int32} (h1 : ds_A m x n → post 1) (h0 : ¬ ds_A m x n → post 0) : ∀ d k, k + d = n → ds_A m x k → wY_allowed_2 post x (nI n) w m (d + 1) (nI k) := by
  intro d
  induction d with
  | zero =>
    intro k hk hA
    have e : k = n := hk
    subst e
    exact br_t (nI_le (Nat.le_refl _) (by omega)) (h1 hA)
  | succ d ih =>
    intro k hk hA
    have hi : vp_in (nI k) 10 := vp_in_nI (by omega) (by decide)
    have hc : (nI k).toNatClampNeg = k := nI_clamp (by omega)
    refine br_f (nI_ge (by omega) (by omega)) ?_
    cases hb : ds_b x k
    · refine br_f (ds_bF hb) (br_t rfl (br_t rfl ⟨hi, ?_⟩))
      rw [hc]
      exact br_c (fun z => h0 (fun hn => hn k (by omega) (by rw [hb]; exact z))) (fun z => nm_r (nI_1 k) (ih (k + 1) (by omega) (lt_s hA (by rw [hb]; exact z))))
    · refine br_t (ds_bT hb) (br_f ds_n10 ⟨hi, ?_⟩)
      rw [hc]
      exact br_c (fun z => h0 (fun hn => hn k (by omega) (by rw [hb]; exact z))) (fun z => br_f ds_n10 (nm_r (nI_1 k) (ih (k + 1) (by omega) (lt_s hA (by rw [hb]; exact z)))))
theorem ds_yallow {w m : Nat → Int32} {n : Nat} (hn : n ≤ 10) {post : Int32 → Prop} {x : Int32} (h1 : ds_A m x n → post 1) (h0 : ¬ ds_A m x n → post 0) : wpY_allowed post (nI n, w, m) x :=
  ⟨n + 1, ds_yallow2 hn h1 h0 n 0 (Nat.zero_add n) (fun _ h => absurd h (Nat.not_lt_zero _))⟩
theorem ds_ycd16 {f1 : Int32} {w m : Nat → Int32} {t s : Nat} (ht : t < 2 ^ 31) (hs : s < 2 ^ 31) {post : Int32 → Prop} : ∀ k, k < 2 ^ 31 → post (nI (ds_cd t s k)) → wY_common_16 post (nI t) (nI s) f1 w m (k + 1) (nI k) := by
  intro k
  induction k with
  | zero => intro _ hp; exact br_t (nI_le (a := 0) (b := 1) (by decide) (by decide)) hp
  | succ k ih =>
    intro hk hp
    cases k with
    | zero => exact br_t (nI_le (a := 1) (b := 1) (by decide) (by decide)) hp
    | succ k =>
      have h0 : ¬ nI (k + 2) = 0 := nI_ne0 (by omega) hk
      rw [ds_cd] at hp
      refine br_f (nI_ge (a := 1) (b := k + 2) (by omega) hk) ⟨h0, br_c (fun z1 => ⟨h0, br_c (fun z2 => ?_) (fun z2 => nm_r (pk_m1 (k + 1)) (ih (by omega) ?_))⟩) (fun z1 => nm_r (pk_m1 (k + 1)) (ih (by omega) ?_))⟩
      · rw [pk_rem ht (by omega) hk, ← nI_0, nI_eq (Nat.lt_of_le_of_lt (Nat.mod_le _ _) ht) (by decide)] at z1
        rw [pk_rem hs (by omega) hk, ← nI_0, nI_eq (Nat.lt_of_le_of_lt (Nat.mod_le _ _) hs) (by decide)] at z2
        rw [if_pos ⟨z1, z2⟩] at hp
        exact hp
      · rw [pk_rem hs (by omega) hk, ← nI_0, nI_eq (Nat.lt_of_le_of_lt (Nat.mod_le _ _) hs) (by decide)] at z2
        rw [if_neg (fun z => z2 z.2)] at hp
        exact hp
      · rw [pk_rem ht (by omega) hk, ← nI_0, nI_eq (Nat.lt_of_le_of_lt (Nat.mod_le _ _) ht) (by decide)] at z1
        rw [if_neg (fun z => z1 z.1)] at hp
        exact hp
theorem ds_ycd {g : Nat → Nat → Nat} {p b w m : Nat → Int32} (G : ds_G g p b w) {n : Nat} (hn : n ≤ 10) {post : Int32 → Prop} {x : Int32} (hs : 1 ≤ ds_sz x n) (hp : post (nI (ds_cd (ds_wt g x n) (ds_sz x n) (ds_sz x n)))) : wpY_common post (nI n, w, m) x := by
  unfold wpY_common
  have h1 := ds_szB (x := x) n
  have h2 := ds_wtB (x := x) G.1 n hn
  refine ds_yweight G hn (ds_ysize hn ⟨11, ds_ycd16 (by omega) (by omega) 10 (by decide) ?_⟩)
  have e : ds_cd (ds_wt g x n) (ds_sz x n) 10 = ds_cd (ds_wt g x n) (ds_sz x n) (ds_sz x n) := by
    obtain ⟨e, he⟩ : ∃ e, 10 = ds_sz x n + e := ⟨10 - ds_sz x n, by omega⟩
    have h := ds_cdUp (t := ds_wt g x n) hs e
    rw [← he] at h
    exact h
  rw [e]; exact hp
