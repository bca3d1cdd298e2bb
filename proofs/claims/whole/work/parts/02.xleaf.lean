/-! the component's own methods, each with its value -/
theorem ds_xcon {post : Int32 → Prop} {u : SX} {x : Int32} {v : Nat} (h1 : ds_b x v = true → post 1) (h0 : ds_b x v = false → post 0) : wpX_contains post u x (nI v) := by
  obtain ⟨f1, f2, p, b, m⟩ := u
  exact ⟨fun h => h1 (decide_eq_true h), fun h => h0 (decide_eq_false h)⟩
theorem ds_cell (i j : Nat) : nI i * 10 + nI j = nI (i * 10 + j) := by
  show nI i * nI 10 + nI j = _
  rw [pk_mul, nI_add]
theorem ds_xpc {post : Int32 → Prop} {u : SX} {i j : Nat} (hij : i < j) (hj : j < 10) (h : post (nI (i * 10 + j))) : wpX_pairCell post u (nI i) (nI j) := by
  obtain ⟨f1, f2, p, b, m⟩ := u
  exact br_f (nI_ge hij (by omega)) (by rw [ds_cell]; exact h)
theorem ds_xpc2 {post : Int32 → Prop} {u : SX} {i j : Nat} (hij : j < i) (hi : i < 10) (h : post (nI (j * 10 + i))) : wpX_pairCell post u (nI i) (nI j) := by
  obtain ⟨f1, f2, p, b, m⟩ := u
  exact br_t (nI_le (by omega) (by omega)) (by rw [ds_cell]; exact h)
theorem ds_xlo5 {g : Nat → Nat → Nat} {p b w m : Nat → Int32} (G : ds_G g p b w) {f1 f2 : Int32} {post : Int32 → Prop} {x : Int32} {v : Nat} (hv : v < 10) (hp : post (nI (ds_lo g x v v))) : ∀ d k, k + d = v → wX_weightToLowerVertices_5 post x (nI v) f1 f2 p b m (d + 1) (nI (ds_lo g x v k)) (nI k) := by
  intro d
  induction d with
  | zero =>
    intro k hk
    have e : k = v := hk
    subst e
    exact br_t (nI_le (Nat.le_refl _) (by omega)) hp
  | succ d ih =>
    intro k hk
    have hn := ih (k + 1) (by omega)
    refine br_f (nI_ge (by omega) (by omega)) (ds_xcon (fun hb => br_f ds_n10 (ds_xpc (by omega) hv ⟨vp_in_nI (by omega) (by decide), nm_r ?_ (nm_r (nI_1 k) hn)⟩)) (fun hb => br_t rfl (nm_r (nI_1 k) ?_)))
    · rw [nI_clamp (by omega), G.2.2.2.2 k v (by omega) hv, G.2.1 k v, nI_add, ds_loT hb]
    · rw [ds_loF hb] at hn; exact hn
theorem ds_xlo {g : Nat → Nat → Nat} {p b w m : Nat → Int32} (G : ds_G g p b w) {f1 f2 : Int32} {post : Int32 → Prop} {x : Int32} {v : Nat} (hv : v < 10) (hp : post (nI (ds_lo g x v v))) : wpX_weightToLowerVertices post (f1, f2, p, b, m) x (nI v) :=
  ⟨v + 1, ds_xlo5 G hv hp v 0 (Nat.zero_add v)⟩
theorem ds_xweight4 {g : Nat → Nat → Nat} {p b w m : Nat → Int32} (G : ds_G g p b w) {n : Nat} (hn : n ≤ 10) {f2 : Int32} {post : Int32 → Prop} {x : Int32} (hp : post (nI (ds_wt g x n))) : ∀ d k, k + d = n → wX_weight_4 post x (nI n) f2 p b m (d + 1) (nI (ds_wt g x k)) (nI k) := by
  intro d
  induction d with
  | zero =>
    intro k hk
    have e : k = n := hk
    subst e
    exact br_t (nI_le (Nat.le_refl _) (by omega)) hp
  | succ d ih =>
    intro k hk
    have hx := ih (k + 1) (by omega)
    refine br_f (nI_ge (by omega) (by omega)) (ds_xcon (fun hb => br_f ds_n10 ⟨vp_in_nI (by omega) (by decide), ds_xlo G (by omega) (nm_r ?_ (nm_r (nI_1 k) hx))⟩) (fun hb => br_t rfl (nm_r (nI_1 k) ?_)))
    · rw [nI_clamp (by omega), G.2.2.2.1 k (by omega), nI_add, nI_add, ds_wtT hb, Nat.add_comm (g k k)]
    · rw [ds_wtF hb] at hx; exact hx
theorem ds_xweight {g : Nat → Nat → Nat} {p b w m : Nat → Int32} (G : ds_G g p b w) {n : Nat} (hn : n ≤ 10) {f2 : Int32} {post : Int32 → Prop} {x : Int32} (hp : post (nI (ds_wt g x n))) : wpX_weight post (nI n, f2, p, b, m) x :=
  ⟨n + 1, ds_xweight4 G hn hp n 0 (Nat.zero_add n)⟩
theorem ds_xsize4 {p b m : Nat → Int32} {n : Nat} (hn : n ≤ 10) {f2 : Int32} {post : Int32 → Prop} {x : Int32} (hp : post (nI (ds_sz x n))) : ∀ d k, k + d = n → wX_sizeOf_4 post x (nI n) f2 p b m (d + 1) (nI (ds_sz x k)) (nI k) := by
  intro d
  induction d with
  | zero =>
    intro k hk
    have e : k = n := hk
    subst e
    exact br_t (nI_le (Nat.le_refl _) (by omega)) hp
  | succ d ih =>
    intro k hk
    have hx := ih (k + 1) (by omega)
    refine br_f (nI_ge (by omega) (by omega)) (ds_xcon (fun hb => br_f ds_n10 (nm_r ?_ (nm_r (nI_1 k) hx))) (fun hb => br_t rfl (nm_r (nI_1 k) ?_)))
    · rw [nI_1, ds_szT hb]
    · rw [ds_szF hb] at hx; exact hx
theorem ds_xsize {p b m : Nat → Int32} {n : Nat} (hn : n ≤ 10) {f2 : Int32} {post : Int32 → Prop} {x : Int32} (hp : post (nI (ds_sz x n))) : wpX_sizeOf post (nI n, f2, p, b, m) x :=
  ⟨n + 1, ds_xsize4 hn hp n 0 (Nat.zero_add n)⟩
theorem ds_xallow2 {p b m : Nat → Int32} {n : Nat} (hn : n ≤ 10) {f2 : Int32} {post : Int32 → Prop} {x : Int32} (h1 : ds_A m x n → post 1) (h0 : ¬ ds_A m x n → post 0) : ∀ d k, k + d = n → ds_A m x k → wX_isAllowed_2 post x (nI n) f2 p b m (d + 1) (nI k) := by
  intro d
  induction d with
  | zero =>
    intro k hk hA
    have e : k = n := hk
    subst e
    exact br_t (nI_le (Nat.le_refl _) (by omega)) (h1 hA)
  | succ d ih =>
    intro k hk hA
    have hi : vp_in (nI k) 10 := vp_in_nI (by omega) (by decide)
    have hc : (nI k).toNatClampNeg = k := nI_clamp (by omega)
    refine br_f (nI_ge (by omega) (by omega)) (ds_xcon (fun hb => br_f ds_n10 ⟨hi, ?_⟩) (fun hb => br_t rfl ⟨hi, ?_⟩))
    · rw [hc]
      refine br_c (fun z => h0 (fun hn => hn k (by omega) (by rw [hb]; exact z))) (fun z => nm_r (nI_1 k) (ih (k + 1) (by omega) (lt_s hA (by rw [hb]; exact z))))
    · rw [hc]
      refine br_c (fun z => h0 (fun hn => hn k (by omega) (by rw [hb]; exact z))) (fun z => nm_r (nI_1 k) (ih (k + 1) (by omega) (lt_s hA (by rw [hb]; exact z))))
theorem ds_xallow {p b m : Nat → Int32} {n : Nat} (hn : n ≤ 10) {f2 : Int32} {post : Int32 → Prop} {x : Int32} (h1 : ds_A m x n → post 1) (h0 : ¬ ds_A m x n → post 0) : wpX_isAllowed post (nI n, f2, p, b, m) x :=
  ⟨n + 1, ds_xallow2 hn h1 h0 n 0 (Nat.zero_add n) (fun _ h => absurd h (Nat.not_lt_zero _))⟩
theorem ds_xpin4 {p b m : Nat → Int32} {n : Nat} (hn : n ≤ 10) {f2 : Int32} {post : Int32 → Prop} (hp : post (nI (ds_pin m n))) : ∀ d k, k + d = n → wX_pinnedSet_4 post (nI n) f2 p b m (d + 1) (nI (ds_pin m k)) (nI k) := by
  intro d
  induction d with
  | zero =>
    intro k hk
    have e : k = n := hk
    subst e
    exact br_t (nI_le (Nat.le_refl _) (by omega)) hp
  | succ d ih =>
    intro k hk
    have hx := ih (k + 1) (by omega)
    have hi : vp_in (nI k) 10 := vp_in_nI (by omega) (by decide)
    have hc : (nI k).toNatClampNeg = k := nI_clamp (by omega)
    refine br_f (nI_ge (by omega) (by omega)) ⟨hi, ?_⟩
    rw [hc]
    refine br_c (fun z => nm_r ?_ (nm_r (nI_1 k) hx)) (fun z => nm_r (nI_1 k) ?_)
    · rw [ds_sh k (by omega), ds_or, ds_pin, if_pos z]
    · rw [ds_pin, if_neg z] at hx; exact hx
theorem ds_xpin {p b m : Nat → Int32} {n : Nat} (hn : n ≤ 10) {f2 : Int32} {post : Int32 → Prop} (hp : post (nI (ds_pin m n))) : wpX_pinnedSet post (nI n, f2, p, b, m) :=
  ⟨n + 1, ds_xpin4 hn hp n 0 (Nat.zero_add n)⟩
theorem ds_xcd2 {f1 f2 : Int32} {p b m : Nat → Int32} {t s : Nat} (ht : t < 2 ^ 31) (hs : s < 2 ^ 31) {post : Int32 → Prop} : ∀ k, k < 2 ^ 31 → post (nI (ds_cd t s k)) → wX_commonDivisor_2 post (nI t) (nI s) f1 f2 p b m (k + 1) (nI k) := by
  intro k
  induction k with
  | zero => intro _ hp; exact br_t (nI_le (a := 0) (b := 1) (by decide) (by decide)) hp
  | succ k ih =>
    intro hk hp
    cases k with
    | zero => exact br_t (nI_le (a := 1) (b := 1) (by decide) (by decide)) hp
    | succ k =>
      have h0 : ¬ nI (k + 2) = 0 := nI_ne0 (by omega) hk
      rw [ds_cd] at hp
      refine br_f (nI_ge (a := 1) (b := k + 2) (by omega) hk) ⟨h0, br_c (fun z1 => ⟨h0, br_c (fun z2 => ?_) (fun z2 => nm_r (pk_m1 (k + 1)) (ih (by omega) ?_))⟩) (fun z1 => nm_r (pk_m1 (k + 1)) (ih (by omega) ?_))⟩
      · rw [pk_rem ht (by omega) hk, ← nI_0, nI_eq (Nat.lt_of_le_of_lt (Nat.mod_le _ _) ht) (by decide)] at z1
        rw [pk_rem hs (by omega) hk, ← nI_0, nI_eq (Nat.lt_of_le_of_lt (Nat.mod_le _ _) hs) (by decide)] at z2
        rw [if_pos ⟨z1, z2⟩] at hp
        exact hp
      · rw [pk_rem hs (by omega) hk, ← nI_0, nI_eq (Nat.lt_of_le_of_lt (Nat.mod_le _ _) hs) (by decide)] at z2
        rw [if_neg (fun z => z2 z.2)] at hp
        exact hp
      · rw [pk_rem ht (by omega) hk, ← nI_0, nI_eq (Nat.lt_of_le_of_lt (Nat.mod_le _ _) ht) (by decide)] at z1
        rw [if_neg (fun z => z1 z.1)] at hp
        exact hp
theorem ds_xcd {f1 f2 : Int32} {p b m : Nat → Int32} {t s : Nat} (ht : t < 2 ^ 31) (hs : s < 2 ^ 31) {post : Int32 → Prop} (hp : post (nI (ds_cd t s s))) : wpX_commonDivisor post (f1, f2, p, b, m) (nI t) (nI s) :=
  ⟨s + 1, ds_xcd2 ht hs s hs hp⟩
theorem ds_xex {g : Nat → Nat → Nat} {p b w m : Nat → Int32} (G : ds_G g p b w) {n : Nat} (hn : n ≤ 10) {f2 : Int32} {post : Int32 → Prop} {x c q : Int32} (hp : post (c * nI (ds_wt g x n) - q * nI (ds_sz x n))) : wpX_excessOf post (nI n, f2, p, b, m) x c q := by
  unfold wpX_excessOf
  exact ds_xweight G hn (ds_xsize hn hp)
