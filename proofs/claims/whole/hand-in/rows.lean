section
theorem pk_us {f : Nat → Int32} {k : Nat} {x : Int32} : upd f k x k = x := if_pos rfl
theorem pk_un {f : Nat → Int32} {k j : Nat} {x : Int32} (h : j ≠ k) : upd f k x j = f j := if_neg h
theorem pk_sub {a b : Nat} (h : b ≤ a) : nI a - nI b = nI (a - b) := by
  obtain ⟨c, rfl⟩ : ∃ c, a = c + b := ⟨a - b, by omega⟩
  rw [← nI_add, Int32.add_sub_cancel, Nat.add_sub_cancel]
theorem pk_m1 (n : Nat) : nI (n + 1) + (-1) = nI n := by
  rw [← nI_1, Int32.add_assoc, show (1 : Int32) + (-1) = 0 from rfl, Int32.add_zero]
theorem pk_mul (a b : Nat) : nI a * nI b = nI (a * b) := (Int32.ofNat_mul a b).symm
theorem pk_div {a d : Nat} (ha : a < 2 ^ 31) (h0 : 0 < d) (hd : d < 2 ^ 31) : nI a / nI d = nI (a / d) := by
  apply Int32.toInt_inj.mp
  rw [lg_idiv_nonneg (by rw [nI_toInt ha]; omega) (by rw [nI_toInt hd]; omega), nI_toInt ha, nI_toInt hd, nI_toInt (Nat.lt_of_le_of_lt (Nat.div_le_self a d) ha)]
  first | rfl | exact (Int.natCast_ediv _ _).symm
theorem pk_rem {a d : Nat} (ha : a < 2 ^ 31) (h0 : 0 < d) (hd : d < 2 ^ 31) : nI a - nI a / nI d * nI d = nI (a % d) := by
  rw [pk_div ha h0 hd, pk_mul, pk_sub (Nat.div_mul_le_self a d)]
  exact congrArg nI (by have := Nat.div_add_mod' a d; omega)
theorem pk_sub_toInt {a b : Nat} (ha : a < 2 ^ 30) (hb : b < 2 ^ 30) : (nI a - nI b).toInt = (a : Int) - b := by
  rw [Int32.toInt_sub, nI_toInt (by omega), nI_toInt (by omega)]
  exact Int.bmod_eq_of_le (by omega) (by omega)
theorem pk_tn {n : Nat} (h : n < 2 ^ 32) : (nI n).toBitVec.toNat = n := Nat.mod_eq_of_lt h
theorem pk_and (x : Int32) {m : Int32} (k : Nat) (hm : m.toBitVec.toNat = 2 ^ k - 1) : x &&& m = nI (x.toBitVec.toNat % 2 ^ k) := by
  apply Int32.toBitVec_inj.mp
  apply BitVec.eq_of_toNat_eq
  rw [Int32.toBitVec_and, BitVec.toNat_and, hm, Nat.and_two_pow_sub_one_eq_mod]
  show _ = (BitVec.ofNat 32 _).toNat
  rw [BitVec.toNat_ofNat]
  exact (Nat.mod_eq_of_lt (Nat.lt_of_le_of_lt (Nat.mod_le _ _) x.toBitVec.isLt)).symm
theorem pk_andN {n : Nat} (h : n < 2 ^ 32) {m : Int32} (k : Nat) (hm : m.toBitVec.toNat = 2 ^ k - 1) : nI n &&& m = nI (n % 2 ^ k) := by
  rw [pk_and _ k hm, pk_tn h]
theorem pk_shl (a s : Int32) (k : Nat) (hs : (s.toBitVec.smod 32).toNat = k) : (a <<< s).toBitVec.toNat = a.toBitVec.toNat * 2 ^ k % 2 ^ 32 := by
  show (a.toBitVec <<< (s.toBitVec.smod 32).toNat).toNat = _
  rw [hs, BitVec.toNat_shiftLeft, Nat.shiftLeft_eq]
theorem pk_shlN {n : Nat} (s : Int32) (k : Nat) (hs : (s.toBitVec.smod 32).toNat = k) (h : n * 2 ^ k < 2 ^ 32) : nI n <<< s = nI (n * 2 ^ k) := by
  apply Int32.toBitVec_inj.mp
  apply BitVec.eq_of_toNat_eq
  have hn : n < 2 ^ 32 := Nat.lt_of_le_of_lt (Nat.le_mul_of_pos_right n (Nat.two_pow_pos k)) h
  rw [pk_shl _ _ k hs, pk_tn hn, pk_tn h, Nat.mod_eq_of_lt h]
theorem pk_shr (a s : Int32) (k : Nat) (hs : (s.toBitVec.smod 32).toNat = k) : (a >>> s).toInt = a.toInt >>> k := by
  show (a.toBitVec.sshiftRight (s.toBitVec.smod 32).toNat).toInt = _
  rw [hs, BitVec.toInt_sshiftRight]
  rfl
theorem pk_shrN {n : Nat} (h : n < 2 ^ 31) (s : Int32) (k : Nat) (hs : (s.toBitVec.smod 32).toNat = k) : nI n >>> s = nI (n / 2 ^ k) := by
  apply Int32.toInt_inj.mp
  have h2 : n / 2 ^ k ≤ n := Nat.div_le_self _ _
  rw [pk_shr _ _ k hs, nI_toInt h, nI_toInt (by omega), Int.shiftRight_eq_div_pow]
  rfl
/-! the pure pictures: bits of a set, the sums over it, what the modes forbid -/
theorem ds_or (a b : Nat) : nI a ||| nI b = nI (a ||| b) := by
  apply Int32.toBitVec_inj.1
  show BitVec.ofNat 32 a ||| BitVec.ofNat 32 b = BitVec.ofNat 32 (a ||| b)
  apply BitVec.eq_of_getLsbD_eq
  intro i hi
  simp [hi]
theorem ds_sm : ∀ n, n < 32 → ((nI n &&& 31).toBitVec.smod 32).toNat = n := by decide +kernel
theorem ds_sh : ∀ n, n < 11 → (1 : Int32) <<< (nI n &&& 31) = nI (2 ^ n) := by decide +kernel
theorem ds_n10 : ¬ (1 : Int32) = 0 := by decide
def ds_b (x : Int32) (v : Nat) : Bool := decide ((x >>> (nI v &&& 31)) &&& 1 = 1)
theorem ds_bT {x : Int32} {v : Nat} (h : ds_b x v = true) : (x >>> (nI v &&& 31)) &&& 1 = 1 := of_decide_eq_true h
theorem ds_bF {x : Int32} {v : Nat} (h : ds_b x v = false) : ¬ (x >>> (nI v &&& 31)) &&& 1 = 1 := of_decide_eq_false h
theorem ds_bF0 {x : Int32} {v : Nat} (h : ds_b x v = false) : (x >>> (nI v &&& 31)) &&& 1 = 0 := by
  have h1 := ds_bF h
  have e := pk_and (x >>> (nI v &&& 31)) (m := 1) 1 (by decide)
  rw [e] at h1 ⊢
  have hl : (x >>> (nI v &&& 31)).toBitVec.toNat % 2 ^ 1 < 2 := Nat.mod_lt _ (by decide)
  generalize (x >>> (nI v &&& 31)).toBitVec.toNat % 2 ^ 1 = q at h1 hl ⊢
  have hq : q = 0 := by
    have : q ≠ 1 := fun z => h1 (by rw [z]; rfl)
    omega
  rw [hq]; exact nI_0
theorem ds_bN {j v : Nat} (hj : j < 2 ^ 31) (hv : v < 32) : ds_b (nI j) v = j.testBit v := by
  unfold ds_b
  rw [pk_shrN hj _ v (ds_sm v hv), pk_andN (Nat.lt_of_le_of_lt (Nat.div_le_self _ _) (by omega)) (m := 1) 1 (by decide), Nat.testBit_eq_decide_div_mod_eq]
  have hl : j / 2 ^ v % 2 ^ 1 < 2 := Nat.mod_lt _ (by decide)
  have e1 : (1 : Int32) = nI 1 := rfl
  rw [e1]
  exact decide_eq_decide.mpr (nI_eq (by omega) (by decide))
def ds_lo (g : Nat → Nat → Nat) (x : Int32) (v : Nat) : Nat → Nat
  | 0 => 0
  | k + 1 => ds_lo g x v k + (if ds_b x k then g v k else 0)
def ds_wt (g : Nat → Nat → Nat) (x : Int32) : Nat → Nat
  | 0 => 0
  | k + 1 => ds_wt g x k + (if ds_b x k then ds_lo g x k k + g k k else 0)
def ds_sz (x : Int32) : Nat → Nat
  | 0 => 0
  | k + 1 => ds_sz x k + (if ds_b x k then 1 else 0)
def ds_A (m : Nat → Int32) (x : Int32) (n : Nat) : Prop := ∀ v, v < n → ¬ m v = (if ds_b x v then 2 else 1)
def ds_G (g : Nat → Nat → Nat) (p b w : Nat → Int32) : Prop :=
  (∀ i j, g i j ≤ 20) ∧ (∀ i j, g i j = g j i) ∧ (∀ i j, i < 10 → j < 10 → w (i * 10 + j) = nI (g i j)) ∧ (∀ i, i < 10 → b i = nI (g i i)) ∧ (∀ i j, i < j → j < 10 → p (i * 10 + j) = nI (g i j))
theorem ds_loT {g : Nat → Nat → Nat} {x : Int32} {v k : Nat} (h : ds_b x k = true) : ds_lo g x v (k + 1) = ds_lo g x v k + g v k := by simp [ds_lo, h]
theorem ds_loF {g : Nat → Nat → Nat} {x : Int32} {v k : Nat} (h : ds_b x k = false) : ds_lo g x v (k + 1) = ds_lo g x v k := by simp [ds_lo, h]
theorem ds_wtT {g : Nat → Nat → Nat} {x : Int32} {k : Nat} (h : ds_b x k = true) : ds_wt g x (k + 1) = ds_wt g x k + (ds_lo g x k k + g k k) := by simp [ds_wt, h]
theorem ds_wtF {g : Nat → Nat → Nat} {x : Int32} {k : Nat} (h : ds_b x k = false) : ds_wt g x (k + 1) = ds_wt g x k := by simp [ds_wt, h]
theorem ds_szT {x : Int32} {k : Nat} (h : ds_b x k = true) : ds_sz x (k + 1) = ds_sz x k + 1 := by simp [ds_sz, h]
theorem ds_szF {x : Int32} {k : Nat} (h : ds_b x k = false) : ds_sz x (k + 1) = ds_sz x k := by simp [ds_sz, h]
theorem ds_loB {g : Nat → Nat → Nat} {x : Int32} (hg : ∀ i j, g i j ≤ 20) (v : Nat) : ∀ k, ds_lo g x v k ≤ 20 * k := by
  intro k
  induction k with
  | zero => exact Nat.le_refl 0
  | succ k ih =>
    have := hg v k
    cases h : ds_b x k
    · rw [ds_loF h]; omega
    · rw [ds_loT h]; omega
theorem ds_wtB {g : Nat → Nat → Nat} {x : Int32} (hg : ∀ i j, g i j ≤ 20) : ∀ k, k ≤ 10 → ds_wt g x k ≤ 220 * k := by
  intro k
  induction k with
  | zero => intro _; exact Nat.le_refl 0
  | succ k ih =>
    intro hk
    have h1 := ih (by omega)
    have h2 := hg k k
    have h3 := ds_loB (x := x) hg k k
    cases h : ds_b x k
    · rw [ds_wtF h]; omega
    · rw [ds_wtT h]; omega
theorem ds_szB {x : Int32} : ∀ k, ds_sz x k ≤ k := by
  intro k
  induction k with
  | zero => exact Nat.le_refl 0
  | succ k ih =>
    cases h : ds_b x k
    · rw [ds_szF h]; omega
    · rw [ds_szT h]; omega
theorem ds_sz1 {x : Int32} {v : Nat} (h : ds_b x v = true) : ∀ k, v < k → 1 ≤ ds_sz x k := by
  intro k
  induction k with
  | zero => intro hk; omega
  | succ k ih =>
    intro hk
    by_cases e : v = k
    · subst e; rw [ds_szT h]; omega
    · have := ih (by omega)
      cases h2 : ds_b x k
      · rw [ds_szF h2]; omega
      · rw [ds_szT h2]; omega
theorem ds_szP {n j : Nat} (hn : n ≤ 10) (h1 : 1 ≤ j) (hj : j < 2 ^ n) : 1 ≤ ds_sz (nI j) n := by
  have hN : 2 ^ n ≤ 2 ^ 10 := Nat.pow_le_pow_right (by decide) hn
  have hj31 : j < 2 ^ 31 := by omega
  by_cases h : ∃ v, v < n ∧ ds_b (nI j) v = true
  · obtain ⟨v, hv, hb⟩ := h
    exact ds_sz1 hb n hv
  · exfalso
    have hz : j = 0 := by
      apply Nat.eq_of_testBit_eq
      intro v
      rw [Nat.zero_testBit]
      by_cases hv : v < n
      · cases hb : ds_b (nI j) v
        · rw [← ds_bN hj31 (by omega)]; exact hb
        · exact absurd ⟨v, hv, hb⟩ h
      · exact Nat.testBit_lt_two_pow (Nat.lt_of_lt_of_le hj (Nat.pow_le_pow_right (by decide) (by omega)))
    omega
/-- the pinned vertices below k, as a number -/
def ds_pin (m : Nat → Int32) : Nat → Nat
  | 0 => 0
  | k + 1 => if m k = 1 then ds_pin m k ||| 2 ^ k else ds_pin m k
theorem ds_pinLt {m : Nat → Int32} : ∀ k, ds_pin m k < 2 ^ k := by
  intro k
  induction k with
  | zero => exact Nat.one_pos
  | succ k ih =>
    have h1 : ds_pin m k < 2 ^ (k + 1) := Nat.lt_of_lt_of_le ih (Nat.pow_le_pow_right (by decide) (by omega))
    unfold ds_pin
    split
    · exact Nat.or_lt_two_pow h1 (Nat.pow_lt_pow_right (by decide) (by omega))
    · exact h1
theorem ds_pinBit {m : Nat → Int32} (v : Nat) : ∀ k, (ds_pin m k).testBit v = (decide (v < k) && decide (m v = 1)) := by
  intro k
  induction k with
  | zero => simp [ds_pin]
  | succ k ih =>
    unfold ds_pin
    split
    case isTrue h =>
      rw [Nat.testBit_or, ih, Nat.testBit_two_pow]
      by_cases e : k = v
      · subst e; simp [h]
      · by_cases l : v < k
        · simp [e, l, show v < k + 1 by omega]
        · simp [e, l, show ¬ v < k + 1 by omega]
    case isFalse h =>
      rw [ih]
      by_cases e : k = v
      · subst e; simp [h]
      · by_cases l : v < k
        · simp [l, show v < k + 1 by omega]
        · simp [l, show ¬ v < k + 1 by omega]
theorem ds_pinA {m : Nat → Int32} {n : Nat} (hn : n ≤ 10) : ds_A m (nI (ds_pin m n)) n := by
  intro v hv
  have hN : 2 ^ n ≤ 2 ^ 10 := Nat.pow_le_pow_right (by decide) hn
  have hp := ds_pinLt (m := m) n
  rw [ds_bN (by omega) (by omega), ds_pinBit]
  by_cases h : m v = 1
  · simp [h, hv]
  · simp [h]
/-- the greatest common divisor from k downwards, as both sides look for it -/
def ds_cd (t s : Nat) : Nat → Nat
  | 0 => 1
  | 1 => 1
  | k + 2 => if t % (k + 2) = 0 ∧ s % (k + 2) = 0 then k + 2 else ds_cd t s (k + 1)
theorem ds_cdUp {t s : Nat} (hs : 1 ≤ s) : ∀ e, ds_cd t s (s + e) = ds_cd t s s := by
  intro e
  induction e with
  | zero => rfl
  | succ e ih =>
    obtain ⟨q, hq⟩ : ∃ q, s + (e + 1) = q + 2 := ⟨s + e - 1, by omega⟩
    have hm : ¬ s % (q + 2) = 0 := by rw [Nat.mod_eq_of_lt (by omega)]; omega
    have e2 : q + 1 = s + e := by omega
    rw [hq, ds_cd, if_neg (fun z => hm z.2), e2, ih]
theorem ds_cdB {t s : Nat} : ∀ k, k ≤ 10 → 1 ≤ ds_cd t s k ∧ ds_cd t s k ≤ 10 := by
  intro k
  induction k with
  | zero => intro _; exact ⟨Nat.le_refl 1, show 1 ≤ 10 by decide⟩
  | succ k ih =>
    intro hk
    cases k with
    | zero => exact ⟨Nat.le_refl 1, show 1 ≤ 10 by decide⟩
    | succ k =>
      rw [ds_cd]
      split
      · omega
      · exact ih (by omega)
end
section
/-! the component's own methods, each with its value -/
theorem ds_xcon {post : Int32 → Prop} {u : SX} {x : Int32} {v : Nat} (h1 : ds_b x v = true → post 1) (h0 : ds_b x v = false → post 0) : wpX_contains post u x (nI v) := by
  obtain ⟨f1, f2, p, b, m⟩ := u
  exact ⟨fun h => h1 (decide_eq_true h), fun h => h0 (decide_eq_false h)⟩
theorem ds_cell (i j : Nat) : nI i * 10 + nI j = nI (i * 10 + j) := by
  show nI i * nI 10 + nI j = _
  rw [pk_mul, nI_add]
theorem ds_xpc {post : Int32 → Prop} {u : SX} {i j : Nat} (hij : i < j) (hj : j < 10) (h : post (nI (i * 10 + j))) : wpX_pairCell post u (nI i) (nI j) := by
  obtain ⟨f1, f2, p, b, m⟩ := u
  exact br_f (nI_ge hij (by omega)) (by rw [ds_cell]; exact h)
theorem ds_xpc2 {post : Int32 → Prop} {u : SX} {i j : Nat} (hij : j < i) (hi : i < 10) (h : post (nI (j * 10 + i))) : wpX_pairCell post u (nI i) (nI j) := by
  obtain ⟨f1, f2, p, b, m⟩ := u
  exact br_t (nI_le (by omega) (by omega)) (by rw [ds_cell]; exact h)
theorem ds_xlo5 {g : Nat → Nat → Nat} {p b w m : Nat → Int32} (G : ds_G g p b w) {f1 f2 : Int32} {post : Int32 → Prop} {x : Int32} {v : Nat} (hv : v < 10) (hp : post (nI (ds_lo g x v v))) : ∀ d k, k + d = v → wX_weightToLowerVertices_5 post x (nI v) f1 f2 p b m (d + 1) (nI (ds_lo g x v k)) (nI k) := by
  intro d
  induction d with
  | zero =>
    intro k hk
    have e : k = v := hk
    subst e
    exact br_t (nI_le (Nat.le_refl _) (by omega)) hp
  | succ d ih =>
    intro k hk
    have hn := ih (k + 1) (by omega)
    refine br_f (nI_ge (by omega) (by omega)) (ds_xcon (fun hb => br_f ds_n10 (ds_xpc (by omega) hv ⟨vp_in_nI (by omega) (by decide), nm_r ?_ (nm_r (nI_1 k) hn)⟩)) (fun hb => br_t rfl (nm_r (nI_1 k) ?_)))
    · rw [nI_clamp (by omega), G.2.2.2.2 k v (by omega) hv, G.2.1 k v, nI_add, ds_loT hb]
    · rw [ds_loF hb] at hn; exact hn
theorem ds_xlo {g : Nat → Nat → Nat} {p b w m : Nat → Int32} (G : ds_G g p b w) {f1 f2 : Int32} {post : Int32 → Prop} {x : Int32} {v : Nat} (hv : v < 10) (hp : post (nI (ds_lo g x v v))) : wpX_weightToLowerVertices post (f1, f2, p, b, m) x (nI v) :=
  ⟨v + 1, ds_xlo5 G hv hp v 0 (Nat.zero_add v)⟩
theorem ds_xweight4 {g : Nat → Nat → Nat} {p b w m : Nat → Int32} (G : ds_G g p b w) {n : Nat} (hn : n ≤ 10) {f2 : Int32} {post : Int32 → Prop} {x : Int32} (hp : post (nI (ds_wt g x n))) : ∀ d k, k + d = n → wX_weight_4 post x (nI n) f2 p b m (d + 1) (nI (ds_wt g x k)) (nI k) := by
  intro d
  induction d with
  | zero =>
    intro k hk
    have e : k = n := hk
    subst e
    exact br_t (nI_le (Nat.le_refl _) (by omega)) hp
  | succ d ih =>
    intro k hk
    have hx := ih (k + 1) (by omega)
    refine br_f (nI_ge (by omega) (by omega)) (ds_xcon (fun hb => br_f ds_n10 ⟨vp_in_nI (by omega) (by decide), ds_xlo G (by omega) (nm_r ?_ (nm_r (nI_1 k) hx))⟩) (fun hb => br_t rfl (nm_r (nI_1 k) ?_)))
    · rw [nI_clamp (by omega), G.2.2.2.1 k (by omega), nI_add, nI_add, ds_wtT hb, Nat.add_comm (g k k)]
    · rw [ds_wtF hb] at hx; exact hx
theorem ds_xweight {g : Nat → Nat → Nat} {p b w m : Nat → Int32} (G : ds_G g p b w) {n : Nat} (hn : n ≤ 10) {f2 : Int32} {post : Int32 → Prop} {x : Int32} (hp : post (nI (ds_wt g x n))) : wpX_weight post (nI n, f2, p, b, m) x :=
  ⟨n + 1, ds_xweight4 G hn hp n 0 (Nat.zero_add n)⟩
theorem ds_xsize4 {p b m : Nat → Int32} {n : Nat} (hn : n ≤ 10) {f2 : Int32} {post : Int32 → Prop} {x : Int32} (hp : post (nI (ds_sz x n))) : ∀ d k, k + d = n → wX_sizeOf_4 post x (nI n) f2 p b m (d + 1) (nI (ds_sz x k)) (nI k) := by
  intro d
  induction d with
  | zero =>
    intro k hk
    have e : k = n := hk
    subst e
    exact br_t (nI_le (Nat.le_refl _) (by omega)) hp
  | succ d ih =>
    intro k hk
    have hx := ih (k + 1) (by omega)
    refine br_f (nI_ge (by omega) (by omega)) (ds_xcon (fun hb => br_f ds_n10 (nm_r ?_ (nm_r (nI_1 k) hx))) (fun hb => br_t rfl (nm_r (nI_1 k) ?_)))
    · rw [nI_1, ds_szT hb]
    · rw [ds_szF hb] at hx; exact hx
theorem ds_xsize {p b m : Nat → Int32} {n : Nat} (hn : n ≤ 10) {f2 : Int32} {post : Int32 → Prop} {x : Int32} (hp : post (nI (ds_sz x n))) : wpX_sizeOf post (nI n, f2, p, b, m) x :=
  ⟨n + 1, ds_xsize4 hn hp n 0 (Nat.zero_add n)⟩
theorem ds_xallow2 {p b m : Nat → Int32} {n : Nat} (hn : n ≤ 10) {f2 : Int32} {post : Int32 → Prop} {x : Int32} (h1 : ds_A m x n → post 1) (h0 : ¬ ds_A m x n → post 0) : ∀ d k, k + d = n → ds_A m x k → wX_isAllowed_2 post x (nI n) f2 p b m (d + 1) (nI k) := by
  intro d
  induction d with
  | zero =>
    intro k hk hA
    have e : k = n := hk
    subst e
    exact br_t (nI_le (Nat.le_refl _) (by omega)) (h1 hA)
  | succ d ih =>
    intro k hk hA
    have hi : vp_in (nI k) 10 := vp_in_nI (by omega) (by decide)
    have hc : (nI k).toNatClampNeg = k := nI_clamp (by omega)
    refine br_f (nI_ge (by omega) (by omega)) (ds_xcon (fun hb => br_f ds_n10 ⟨hi, ?_⟩) (fun hb => br_t rfl ⟨hi, ?_⟩))
    · rw [hc]
      refine br_c (fun z => h0 (fun hn => hn k (by omega) (by rw [hb]; exact z))) (fun z => nm_r (nI_1 k) (ih (k + 1) (by omega) (lt_s hA (by rw [hb]; exact z))))
    · rw [hc]
      refine br_c (fun z => h0 (fun hn => hn k (by omega) (by rw [hb]; exact z))) (fun z => nm_r (nI_1 k) (ih (k + 1) (by omega) (lt_s hA (by rw [hb]; exact z))))
theorem ds_xallow {p b m : Nat → Int32} {n : Nat} (hn : n ≤ 10) {f2 : Int32} {post : Int32 → Prop} {x : Int32} (h1 : ds_A m x n → post 1) (h0 : ¬ ds_A m x n → post 0) : wpX_isAllowed post (nI n, f2, p, b, m) x :=
  ⟨n + 1, ds_xallow2 hn h1 h0 n 0 (Nat.zero_add n) (fun _ h => absurd h (Nat.not_lt_zero _))⟩
theorem ds_xpin4 {p b m : Nat → Int32} {n : Nat} (hn : n ≤ 10) {f2 : Int32} {post : Int32 → Prop} (hp : post (nI (ds_pin m n))) : ∀ d k, k + d = n → wX_pinnedSet_4 post (nI n) f2 p b m (d + 1) (nI (ds_pin m k)) (nI k) := by
  intro d
  induction d with
  | zero =>
    intro k hk
    have e : k = n := hk
    subst e
    exact br_t (nI_le (Nat.le_refl _) (by omega)) hp
  | succ d ih =>
    intro k hk
    have hx := ih (k + 1) (by omega)
    have hi : vp_in (nI k) 10 := vp_in_nI (by omega) (by decide)
    have hc : (nI k).toNatClampNeg = k := nI_clamp (by omega)
    refine br_f (nI_ge (by omega) (by omega)) ⟨hi, ?_⟩
    rw [hc]
    refine br_c (fun z => nm_r ?_ (nm_r (nI_1 k) hx)) (fun z => nm_r (nI_1 k) ?_)
    · rw [ds_sh k (by omega), ds_or, ds_pin, if_pos z]
    · rw [ds_pin, if_neg z] at hx; exact hx
theorem ds_xpin {p b m : Nat → Int32} {n : Nat} (hn : n ≤ 10) {f2 : Int32} {post : Int32 → Prop} (hp : post (nI (ds_pin m n))) : wpX_pinnedSet post (nI n, f2, p, b, m) :=
  ⟨n + 1, ds_xpin4 hn hp n 0 (Nat.zero_add n)⟩
theorem ds_xcd2 {f1 f2 : Int32} {p b m : Nat → Int32} {t s : Nat} (ht : t < 2 ^ 31) (hs : s < 2 ^ 31) {post : Int32 → Prop} : ∀ k, k < 2 ^ 31 → post (nI (ds_cd t s k)) → wX_commonDivisor_2 post (nI t) (nI s) f1 f2 p b m (k + 1) (nI k) := by
  intro k
  induction k with
  | zero => intro _ hp; exact br_t (nI_le (a := 0) (b := 1) (by decide) (by decide)) hp
  | succ k ih =>
    intro hk hp
    cases k with
    | zero => exact br_t (nI_le (a := 1) (b := 1) (by decide) (by decide)) hp
    | succ k =>
      have h0 : ¬ nI (k + 2) = 0 := nI_ne0 (by omega) hk
      rw [ds_cd] at hp
      refine br_f (nI_ge (a := 1) (b := k + 2) (by omega) hk) ⟨h0, br_c (fun z1 => ⟨h0, br_c (fun z2 => ?_) (fun z2 => nm_r (pk_m1 (k + 1)) (ih (by omega) ?_))⟩) (fun z1 => nm_r (pk_m1 (k + 1)) (ih (by omega) ?_))⟩
      · rw [pk_rem ht (by omega) hk, ← nI_0, nI_eq (Nat.lt_of_le_of_lt (Nat.mod_le _ _) ht) (by decide)] at z1
        rw [pk_rem hs (by omega) hk, ← nI_0, nI_eq (Nat.lt_of_le_of_lt (Nat.mod_le _ _) hs) (by decide)] at z2
        rw [if_pos ⟨z1, z2⟩] at hp
        exact hp
      · rw [pk_rem hs (by omega) hk, ← nI_0, nI_eq (Nat.lt_of_le_of_lt (Nat.mod_le _ _) hs) (by decide)] at z2
        rw [if_neg (fun z => z2 z.2)] at hp
        exact hp
      · rw [pk_rem ht (by omega) hk, ← nI_0, nI_eq (Nat.lt_of_le_of_lt (Nat.mod_le _ _) ht) (by decide)] at z1
        rw [if_neg (fun z => z1 z.1)] at hp
        exact hp
theorem ds_xcd {f1 f2 : Int32} {p b m : Nat → Int32} {t s : Nat} (ht : t < 2 ^ 31) (hs : s < 2 ^ 31) {post : Int32 → Prop} (hp : post (nI (ds_cd t s s))) : wpX_commonDivisor post (f1, f2, p, b, m) (nI t) (nI s) :=
  ⟨s + 1, ds_xcd2 ht hs s hs hp⟩
theorem ds_xex {g : Nat → Nat → Nat} {p b w m : Nat → Int32} (G : ds_G g p b w) {n : Nat} (hn : n ≤ 10) {f2 : Int32} {post : Int32 → Prop} {x c q : Int32} (hp : post (c * nI (ds_wt g x n) - q * nI (ds_sz x n))) : wpX_excessOf post (nI n, f2, p, b, m) x c q := by
  unfold wpX_excessOf
  exact ds_xweight G hn (ds_xsize hn hp)
end
section
/-! the reference's own methods, each with the same value -/
theorem ds_yw15 {g : Nat → Nat → Nat} {p b w m : Nat → Int32} (G : ds_G g p b w) {f1 : Int32} {post : Int32 → Prop} {J : Int32 → Int32 → Prop} {x : Int32} {u c : Nat} (hu : u < 10) (hb : ds_b x u = true) (hp : J (nI (c + ds_lo g x u (u + 1))) (nI (u + 1))) : ∀ d k, k + d = u + 1 → wY_weight_15 post J x (nI u) f1 w m (d + 1) (nI (c + ds_lo g x u k)) (nI k) := by
  intro d
  induction d with
  | zero =>
    intro k hk
    have e : k = u + 1 := hk
    subst e
    exact br_t (nI_lt (by omega) (by omega)) (nm_r (nI_1 u) hp)
  | succ d ih =>
    intro k hk
    have hx := ih (k + 1) (by omega)
    refine br_f (nI_nlt (by omega) (by omega)) (br_t (ds_bT hb) ?_)
    cases hk2 : ds_b x k
    · refine br_f (ds_bF hk2) (nm_r (nI_1 k) ?_)
      rw [ds_loF hk2] at hx; exact hx
    · refine br_t (ds_bT hk2) ?_
      rw [ds_cell]
      refine ⟨vp_in_nI (by omega) (by decide), nm_r ?_ (nm_r (nI_1 k) hx)⟩
      rw [nI_clamp (by omega), G.2.2.1 u k hu (by omega), nI_add, ds_loT hk2, Nat.add_assoc]
theorem ds_yw15F {w m : Nat → Int32} {f1 : Int32} {post : Int32 → Prop} {J : Int32 → Int32 → Prop} {x : Int32} {u : Nat} {y : Int32} (hu : u < 10) (hb : ds_b x u = false) (hp : J y (nI (u + 1))) : ∀ d k, k + d = u + 1 → wY_weight_15 post J x (nI u) f1 w m (d + 1) y (nI k) := by
  intro d
  induction d with
  | zero =>
    intro k hk
    have e : k = u + 1 := hk
    subst e
    exact br_t (nI_lt (by omega) (by omega)) (nm_r (nI_1 u) hp)
  | succ d ih =>
    intro k hk
    exact br_f (nI_nlt (by omega) (by omega)) (br_f (ds_bF hb) (nm_r (nI_1 k) (ih (k + 1) (by omega))))
theorem ds_yweight4 {g : Nat → Nat → Nat} {p b w m : Nat → Int32} (G : ds_G g p b w) {n : Nat} (hn : n ≤ 10) {post : Int32 → Prop} {x : Int32} (hp : post (nI (ds_wt g x n))) : ∀ d k, k + d = n → wY_weight_4 post x (nI n) w m (d + 1) (nI (ds_wt g x k)) (nI k) := by
  intro d
  induction d with
  | zero =>
    intro k hk
    have e : k = n := hk
    subst e
    exact br_t (nI_le (Nat.le_refl _) (by omega)) hp
  | succ d ih =>
    intro k hk
    have hx := ih (k + 1) (by omega)
    refine br_f (nI_ge (by omega) (by omega)) ⟨k + 2, ?_⟩
    cases hb : ds_b x k
    · rw [ds_wtF hb] at hx
      exact ds_yw15F (by omega) hb hx (k + 1) 0 (by omega)
    · rw [ds_wtT hb, ← ds_loT hb] at hx
      exact ds_yw15 G (by omega) hb hx (k + 1) 0 (by omega)
theorem ds_yweight {g : Nat → Nat → Nat} {p b w m : Nat → Int32} (G : ds_G g p b w) {n : Nat} (hn : n ≤ 10) {post : Int32 → Prop} {x : Int32} (hp : post (nI (ds_wt g x n))) : wpY_weight post (nI n, w, m) x :=
  ⟨n + 1, ds_yweight4 G hn hp n 0 (Nat.zero_add n)⟩
theorem ds_ysize4 {w m : Nat → Int32} {n : Nat} (hn : n ≤ 10) {post : Int32 → Prop} {x : Int32} (hp : post (nI (ds_sz x n))) : ∀ d k, k + d = n → wY_size_4 post x (nI n) w m (d + 1) (nI (ds_sz x k)) (nI k) := by
  intro d
  induction d with
  | zero =>
    intro k hk
    have e : k = n := hk
    subst e
    exact br_t (nI_le (Nat.le_refl _) (by omega)) hp
  | succ d ih =>
    intro k hk
    have hx := ih (k + 1) (by omega)
    refine br_f (nI_ge (by omega) (by omega)) (nm_r ?_ (nm_r (nI_1 k) hx))
    cases hb : ds_b x k
    · rw [ds_bF0 hb, ds_szF hb, ← nI_0, nI_add]; rfl
    · rw [ds_bT hb, ds_szT hb, nI_1]
theorem ds_ysize {w m : Nat → Int32} {n : Nat} (hn : n ≤ 10) {post : Int32 → Prop} {x : Int32} (hp : post (nI (ds_sz x n))) : wpY_size post (nI n, w, m) x :=
  ⟨n + 1, ds_ysize4 hn hp n 0 (Nat.zero_add n)⟩
theorem ds_yallow2 {w m : Nat → Int32} {n : Nat} (hn : n ≤ 10) {post : Int32 → Prop} {x : Int32} (h1 : ds_A m x n → post 1) (h0 : ¬ ds_A m x n → post 0) : ∀ d k, k + d = n → ds_A m x k → wY_allowed_2 post x (nI n) w m (d + 1) (nI k) := by
  intro d
  induction d with
  | zero =>
    intro k hk hA
    have e : k = n := hk
    subst e
    exact br_t (nI_le (Nat.le_refl _) (by omega)) (h1 hA)
  | succ d ih =>
    intro k hk hA
    have hi : vp_in (nI k) 10 := vp_in_nI (by omega) (by decide)
    have hc : (nI k).toNatClampNeg = k := nI_clamp (by omega)
    refine br_f (nI_ge (by omega) (by omega)) ?_
    cases hb : ds_b x k
    · refine br_f (ds_bF hb) (br_t rfl (br_t rfl ⟨hi, ?_⟩))
      rw [hc]
      exact br_c (fun z => h0 (fun hn => hn k (by omega) (by rw [hb]; exact z))) (fun z => nm_r (nI_1 k) (ih (k + 1) (by omega) (lt_s hA (by rw [hb]; exact z))))
    · refine br_t (ds_bT hb) (br_f ds_n10 ⟨hi, ?_⟩)
      rw [hc]
      exact br_c (fun z => h0 (fun hn => hn k (by omega) (by rw [hb]; exact z))) (fun z => br_f ds_n10 (nm_r (nI_1 k) (ih (k + 1) (by omega) (lt_s hA (by rw [hb]; exact z)))))
theorem ds_yallow {w m : Nat → Int32} {n : Nat} (hn : n ≤ 10) {post : Int32 → Prop} {x : Int32} (h1 : ds_A m x n → post 1) (h0 : ¬ ds_A m x n → post 0) : wpY_allowed post (nI n, w, m) x :=
  ⟨n + 1, ds_yallow2 hn h1 h0 n 0 (Nat.zero_add n) (fun _ h => absurd h (Nat.not_lt_zero _))⟩
theorem ds_ycd16 {f1 : Int32} {w m : Nat → Int32} {t s : Nat} (ht : t < 2 ^ 31) (hs : s < 2 ^ 31) {post : Int32 → Prop} : ∀ k, k < 2 ^ 31 → post (nI (ds_cd t s k)) → wY_common_16 post (nI t) (nI s) f1 w m (k + 1) (nI k) := by
  intro k
  induction k with
  | zero => intro _ hp; exact br_t (nI_le (a := 0) (b := 1) (by decide) (by decide)) hp
  | succ k ih =>
    intro hk hp
    cases k with
    | zero => exact br_t (nI_le (a := 1) (b := 1) (by decide) (by decide)) hp
    | succ k =>
      have h0 : ¬ nI (k + 2) = 0 := nI_ne0 (by omega) hk
      rw [ds_cd] at hp
      refine br_f (nI_ge (a := 1) (b := k + 2) (by omega) hk) ⟨h0, br_c (fun z1 => ⟨h0, br_c (fun z2 => ?_) (fun z2 => nm_r (pk_m1 (k + 1)) (ih (by omega) ?_))⟩) (fun z1 => nm_r (pk_m1 (k + 1)) (ih (by omega) ?_))⟩
      · rw [pk_rem ht (by omega) hk, ← nI_0, nI_eq (Nat.lt_of_le_of_lt (Nat.mod_le _ _) ht) (by decide)] at z1
        rw [pk_rem hs (by omega) hk, ← nI_0, nI_eq (Nat.lt_of_le_of_lt (Nat.mod_le _ _) hs) (by decide)] at z2
        rw [if_pos ⟨z1, z2⟩] at hp
        exact hp
      · rw [pk_rem hs (by omega) hk, ← nI_0, nI_eq (Nat.lt_of_le_of_lt (Nat.mod_le _ _) hs) (by decide)] at z2
        rw [if_neg (fun z => z2 z.2)] at hp
        exact hp
      · rw [pk_rem ht (by omega) hk, ← nI_0, nI_eq (Nat.lt_of_le_of_lt (Nat.mod_le _ _) ht) (by decide)] at z1
        rw [if_neg (fun z => z1 z.1)] at hp
        exact hp
theorem ds_ycd {g : Nat → Nat → Nat} {p b w m : Nat → Int32} (G : ds_G g p b w) {n : Nat} (hn : n ≤ 10) {post : Int32 → Prop} {x : Int32} (hs : 1 ≤ ds_sz x n) (hp : post (nI (ds_cd (ds_wt g x n) (ds_sz x n) (ds_sz x n)))) : wpY_common post (nI n, w, m) x := by
  unfold wpY_common
  have h1 := ds_szB (x := x) n
  have h2 := ds_wtB (x := x) G.1 n hn
  refine ds_yweight G hn (ds_ysize hn ⟨11, ds_ycd16 (by omega) (by omega) 10 (by decide) ?_⟩)
  have e : ds_cd (ds_wt g x n) (ds_sz x n) 10 = ds_cd (ds_wt g x n) (ds_sz x n) (ds_sz x n) := by
    obtain ⟨e, he⟩ : ∃ e, 10 = ds_sz x n + e := ⟨10 - ds_sz x n, by omega⟩
    have h := ds_cdUp (t := ds_wt g x n) hs e
    rw [← he] at h
    exact h
  rw [e]; exact hp
end
section
/-! the loops over all sets: component and reference in lockstep -/
theorem ds_some9 {g : Nat → Nat → Nat} {p b w m : Nat → Int32} (G : ds_G g p b w) {n N : Nat} (hn : n ≤ 10) (hN : N ≤ 1024) (eN : (1 : Int32) <<< (nI n &&& 31) = nI N) : ∀ d i x1 x2 x3 y2 y3, 1 ≤ i → i + d = N → (x1 = 0 ∨ ((∃ j, 1 ≤ j ∧ j < N ∧ x1 = nI j) ∧ x2 = y2 ∧ x3 = y3)) →
    ∃ r, (r = 0 ∨ ∃ j, 1 ≤ j ∧ j < N ∧ r = nI j) ∧ (∀ post : Int32 → Prop, post r → wX_someDensestSet_9 post (nI n) (nI N) p b m (d + 1) x1 x2 x3 (nI i)) ∧ (∀ post : Int32 → Prop, post r → wY_oneDensest_9 post (nI n) w m (d + 1) x1 y2 y3 (nI i)) := by
  intro d
  induction d with
  | zero =>
    intro i x1 x2 x3 y2 y3 hi0 hi hx
    have e : i = N := hi
    subst e
    have hle : nI i ≤ nI i := nI_le (Nat.le_refl _) (by omega)
    refine ⟨x1, hx.imp id (fun h => h.1), fun post hp => br_t hle hp, fun post hp => br_t (by rw [eN]; exact hle) hp⟩
  | succ d ih =>
    intro i x1 x2 x3 y2 y3 hi0 hi hx
    have hX : ¬ nI N ≤ nI i := nI_ge (by omega) (by omega)
    have hY : ¬ (1 : Int32) <<< (nI n &&& 31) ≤ nI i := by rw [eN]; exact hX
    by_cases A : ds_A m (nI i) n
    · have hnew : ∃ r, (r = 0 ∨ ∃ j, 1 ≤ j ∧ j < N ∧ r = nI j) ∧ (∀ post : Int32 → Prop, post r → wX_someDensestSet_9 post (nI n) (nI N) p b m (d + 1) (nI i) (nI (ds_wt g (nI i) n)) (nI (ds_sz (nI i) n)) (nI (i + 1))) ∧ (∀ post : Int32 → Prop, post r → wY_oneDensest_9 post (nI n) w m (d + 1) (nI i) (nI (ds_wt g (nI i) n)) (nI (ds_sz (nI i) n)) (nI (i + 1))) :=
        ih (i + 1) _ _ _ _ _ (by omega) (by omega) (Or.inr ⟨⟨i, hi0, by omega, rfl⟩, rfl, rfl⟩)
      by_cases z : x1 = 0
      · obtain ⟨r, hr, hx1, hy1⟩ := hnew
        refine ⟨r, hr, fun post hp => br_f hX (ds_xallow hn (fun _ => br_f ds_n10 (ds_xweight G hn (ds_xsize hn (br_t z (nm_r (nI_1 i) (hx1 post hp)))))) (fun h => absurd A h)), fun post hp => br_f hY (ds_yallow hn (fun _ => br_f ds_n10 (ds_yweight G hn (ds_ysize hn (br_t z (nm_r (nI_1 i) (hy1 post hp)))))) (fun h => absurd A h))⟩
      · obtain h | ⟨hj, rfl, rfl⟩ := hx
        · exact absurd h z
        by_cases c : nI (ds_wt g (nI i) n) * x3 ≤ x2 * nI (ds_sz (nI i) n)
        · obtain ⟨r, hr, hx1, hy1⟩ := ih (i + 1) x1 x2 x3 x2 x3 (by omega) (by omega) (Or.inr ⟨hj, rfl, rfl⟩)
          refine ⟨r, hr, fun post hp => br_f hX (ds_xallow hn (fun _ => br_f ds_n10 (ds_xweight G hn (ds_xsize hn (br_f z (br_t c (nm_r (nI_1 i) (hx1 post hp))))))) (fun h => absurd A h)), fun post hp => br_f hY (ds_yallow hn (fun _ => br_f ds_n10 (ds_yweight G hn (ds_ysize hn (br_f z (br_t c (nm_r (nI_1 i) (hy1 post hp))))))) (fun h => absurd A h))⟩
        · obtain ⟨r, hr, hx1, hy1⟩ := hnew
          refine ⟨r, hr, fun post hp => br_f hX (ds_xallow hn (fun _ => br_f ds_n10 (ds_xweight G hn (ds_xsize hn (br_f z (br_f c (nm_r (nI_1 i) (hx1 post hp))))))) (fun h => absurd A h)), fun post hp => br_f hY (ds_yallow hn (fun _ => br_f ds_n10 (ds_yweight G hn (ds_ysize hn (br_f z (br_f c (nm_r (nI_1 i) (hy1 post hp))))))) (fun h => absurd A h))⟩
    · obtain ⟨r, hr, hx1, hy1⟩ := ih (i + 1) x1 x2 x3 y2 y3 (by omega) (by omega) hx
      exact ⟨r, hr, fun post hp => br_f hX (ds_xallow hn (fun h => absurd h A) (fun _ => br_t rfl (nm_r (nI_1 i) (hx1 post hp)))), fun post hp => br_f hY (ds_yallow hn (fun h => absurd h A) (fun _ => br_t rfl (nm_r (nI_1 i) (hy1 post hp))))⟩
theorem ds_some {g : Nat → Nat → Nat} {p b w m : Nat → Int32} (G : ds_G g p b w) {n N : Nat} (hn : n ≤ 10) (h1 : 1 ≤ N) (hN : N ≤ 1024) (eN : (1 : Int32) <<< (nI n &&& 31) = nI N) :
    ∃ r, (r = 0 ∨ ∃ j, 1 ≤ j ∧ j < N ∧ r = nI j) ∧ (∀ post : Int32 → Prop, post r → wpX_someDensestSet post (nI n, nI N, p, b, m)) ∧ (∀ post : Int32 → Prop, post r → wpY_oneDensest post (nI n, w, m)) := by
  obtain ⟨r, hr, hx, hy⟩ := ds_some9 G hn hN eN (N - 1) 1 0 0 0 0 1 (Nat.le_refl 1) (by omega) (Or.inl rfl)
  exact ⟨r, hr, fun post hp => ⟨_, hx post hp⟩, fun post hp => ⟨_, hy post hp⟩⟩
theorem ds_dens23 {g : Nat → Nat → Nat} {p b w m : Nat → Int32} (G : ds_G g p b w) {n N : Nat} (hn : n ≤ 10) (hN : N ≤ 1024) (eN : (1 : Int32) <<< (nI n &&& 31) = nI N) (x2 x3 : Int32) : ∀ d i c, i + d = N →
    ∃ r, (∀ post : Int32 → Prop, post r → wX_densest_23 post x2 x3 (nI n) (nI N) p b m (d + 1) c (nI i)) ∧ (∀ post : Int32 → Prop, post r → wY_densest_23 post x2 x3 (nI n) w m (d + 1) c (nI i)) := by
  intro d
  induction d with
  | zero =>
    intro i c hi
    have e : i = N := hi
    subst e
    have hle : nI i ≤ nI i := nI_le (Nat.le_refl _) (by omega)
    exact ⟨c, fun post hp => br_t hle hp, fun post hp => br_t (by rw [eN]; exact hle) hp⟩
  | succ d ih =>
    intro i c hi
    have hX : ¬ nI N ≤ nI i := nI_ge (by omega) (by omega)
    have hY : ¬ (1 : Int32) <<< (nI n &&& 31) ≤ nI i := by rw [eN]; exact hX
    by_cases A : ds_A m (nI i) n
    · by_cases q : nI (ds_wt g (nI i) n) * x3 = x2 * nI (ds_sz (nI i) n)
      · obtain ⟨r, hx1, hy1⟩ := ih (i + 1) (c ||| nI i) (by omega)
        exact ⟨r, fun post hp => br_f hX (ds_xallow hn (fun _ => br_f ds_n10 (ds_xweight G hn (ds_xsize hn (br_t q (nm_e (nm_r (nI_1 i) (hx1 post hp))))))) (fun h => absurd A h)), fun post hp => br_f hY (ds_yallow hn (fun _ => br_f ds_n10 (ds_yweight G hn (ds_ysize hn (br_t q (nm_e (nm_r (nI_1 i) (hy1 post hp))))))) (fun h => absurd A h))⟩
      · obtain ⟨r, hx1, hy1⟩ := ih (i + 1) c (by omega)
        exact ⟨r, fun post hp => br_f hX (ds_xallow hn (fun _ => br_f ds_n10 (ds_xweight G hn (ds_xsize hn (br_f q (nm_r (nI_1 i) (hx1 post hp)))))) (fun h => absurd A h)), fun post hp => br_f hY (ds_yallow hn (fun _ => br_f ds_n10 (ds_yweight G hn (ds_ysize hn (br_f q (nm_r (nI_1 i) (hy1 post hp)))))) (fun h => absurd A h))⟩
    · obtain ⟨r, hx1, hy1⟩ := ih (i + 1) c (by omega)
      exact ⟨r, fun post hp => br_f hX (ds_xallow hn (fun h => absurd h A) (fun _ => br_t rfl (nm_r (nI_1 i) (hx1 post hp)))), fun post hp => br_f hY (ds_yallow hn (fun h => absurd h A) (fun _ => br_t rfl (nm_r (nI_1 i) (hy1 post hp))))⟩
/-- the value of a set at a gain c and a price q -/
def ds_v (g : Nat → Nat → Nat) (n : Nat) (c q x : Int32) : Int32 := c * nI (ds_wt g x n) - q * nI (ds_sz x n)
theorem ds_exset {g : Nat → Nat → Nat} {p b w m : Nat → Int32} (G : ds_G g p b w) {n N : Nat} (hn : n ≤ 10) (hN : N ≤ 1024) (eN : (1 : Int32) <<< (nI n &&& 31) = nI N) (c q x3 : Int32) : ∀ d i a, i + d = N →
    ∃ r, (∀ post : Int32 → Prop, post r → wX_excessSet_24 post c q x3 (nI n) (nI N) p b m (d + 1) a (nI i)) ∧ (∀ post : Int32 → Prop, post r → wY_excessSet_24 post c q x3 (nI n) w m (d + 1) a (nI i)) := by
  intro d
  induction d with
  | zero =>
    intro i a hi
    have e : i = N := hi
    subst e
    have hle : nI i ≤ nI i := nI_le (Nat.le_refl _) (by omega)
    exact ⟨a, fun post hp => br_t hle hp, fun post hp => br_t (by rw [eN]; exact hle) hp⟩
  | succ d ih =>
    intro i a hi
    have hX : ¬ nI N ≤ nI i := nI_ge (by omega) (by omega)
    have hY : ¬ (1 : Int32) <<< (nI n &&& 31) ≤ nI i := by rw [eN]; exact hX
    by_cases A : ds_A m (nI i) n
    · by_cases z : c * nI (ds_wt g (nI i) n) - q * nI (ds_sz (nI i) n) = x3
      · obtain ⟨r, hx1, hy1⟩ := ih (i + 1) (a ||| nI i) (by omega)
        exact ⟨r, fun post hp => br_f hX (ds_xallow hn (fun _ => br_f ds_n10 (ds_xex G hn (br_t z (nm_e (nm_r (nI_1 i) (hx1 post hp)))))) (fun h => absurd A h)), fun post hp => br_f hY (ds_yallow hn (fun _ => br_f ds_n10 (ds_yweight G hn (ds_ysize hn (nm_e (br_t z (nm_e (nm_r (nI_1 i) (hy1 post hp)))))))) (fun h => absurd A h))⟩
      · obtain ⟨r, hx1, hy1⟩ := ih (i + 1) a (by omega)
        exact ⟨r, fun post hp => br_f hX (ds_xallow hn (fun _ => br_f ds_n10 (ds_xex G hn (br_f z (nm_r (nI_1 i) (hx1 post hp))))) (fun h => absurd A h)), fun post hp => br_f hY (ds_yallow hn (fun _ => br_f ds_n10 (ds_yweight G hn (ds_ysize hn (nm_e (br_f z (nm_r (nI_1 i) (hy1 post hp))))))) (fun h => absurd A h))⟩
    · obtain ⟨r, hx1, hy1⟩ := ih (i + 1) a (by omega)
      exact ⟨r, fun post hp => br_f hX (ds_xallow hn (fun h => absurd h A) (fun _ => br_t rfl (nm_r (nI_1 i) (hx1 post hp)))), fun post hp => br_f hY (ds_yallow hn (fun h => absurd h A) (fun _ => br_t rfl (nm_r (nI_1 i) (hy1 post hp))))⟩
/-- what ties the two greatest values so far: they are one, or the component's is still the pinned set's, and that set is still to come -/
def ds_J (V : Int32) (P i : Nat) (x y : Int32) : Prop := x = y ∨ (y < x ∧ x = V ∧ i ≤ P)
theorem ds_Jn {V x y : Int32} {P i : Nat} (h : ds_J V P i x y) (hne : i ≠ P) : ds_J V P (i + 1) x y :=
  h.imp id (fun h => ⟨h.1, h.2.1, by omega⟩)
theorem ds_J1 {V x y z : Int32} {P i : Nat} (h : ds_J V P i x y) (hz : i = P → z = V) (hx : z ≤ x) (hy : z ≤ y) : ds_J V P (i + 1) x y := by
  obtain h | ⟨h1, h2, h3⟩ := h
  · exact Or.inl h
  · refine Or.inr ⟨h1, h2, ?_⟩
    by_cases e : i = P
    · have e2 := hz e
      rw [e2, ← h2] at hy
      exact absurd h1 (Int32.not_lt.mpr hy)
    · omega
theorem ds_J2 {V x y z : Int32} {P i : Nat} (h : ds_J V P i x y) (hz : i = P → z = V) (hx : z ≤ x) (hy : ¬ z ≤ y) : ds_J V P (i + 1) x z := by
  obtain h | ⟨h1, h2, h3⟩ := h
  · exact absurd (h ▸ hx) hy
  · by_cases e : x = z
    · exact Or.inl e
    · refine Or.inr ⟨?_, h2, ?_⟩
      · rw [Int32.lt_iff_toInt_lt]
        rw [Int32.le_iff_toInt_le] at hx
        have : x.toInt ≠ z.toInt := fun h => e (Int32.toInt_inj.mp h)
        omega
      · have : i ≠ P := fun h => e (h2.trans (hz h).symm)
        omega
theorem ds_J3 {V x y z : Int32} {P i : Nat} (h : ds_J V P i x y) (hx : ¬ z ≤ x) (hy : z ≤ y) : False := by
  obtain h | ⟨h1, h2, h3⟩ := h
  · exact hx (h ▸ hy)
  · rw [Int32.lt_iff_toInt_lt] at h1
    rw [Int32.le_iff_toInt_le] at hx hy
    omega
theorem ds_ex17 {g : Nat → Nat → Nat} {p b w m : Nat → Int32} (G : ds_G g p b w) {n N P : Nat} (hn : n ≤ 10) (hN : N ≤ 1024) (eN : (1 : Int32) <<< (nI n &&& 31) = nI N) (hP : P < N) (hA : ds_A m (nI P) n) (c q : Int32) : ∀ d i x y, i + d = N → ds_J (ds_v g n c q (nI P)) P i x y →
    ∃ r, (∀ post : Int32 → Prop, post r → wX_greatestExcess_17 post c q (nI n) (nI N) p b m (d + 1) x (nI i)) ∧ (∀ post : Int32 → Prop, post r → wY_excess_18 post c q (nI n) w m (d + 1) y (nI i)) := by
  intro d
  induction d with
  | zero =>
    intro i x y hi hJ
    have e : i = N := hi
    subst e
    have hle : nI i ≤ nI i := nI_le (Nat.le_refl _) (by omega)
    have exy : x = y := hJ.elim id (fun h => absurd h.2.2 (by omega))
    subst exy
    exact ⟨x, fun post hp => br_t hle hp, fun post hp => br_t (by rw [eN]; exact hle) hp⟩
  | succ d ih =>
    intro i x y hi hJ
    have hX : ¬ nI N ≤ nI i := nI_ge (by omega) (by omega)
    have hY : ¬ (1 : Int32) <<< (nI n &&& 31) ≤ nI i := by rw [eN]; exact hX
    by_cases A : ds_A m (nI i) n
    · have hz : i = P → ds_v g n c q (nI i) = ds_v g n c q (nI P) := fun e => by rw [e]
      by_cases h1 : ds_v g n c q (nI i) ≤ x
      · by_cases h2 : ds_v g n c q (nI i) ≤ y
        · obtain ⟨r, hx1, hy1⟩ := ih (i + 1) x y (by omega) (ds_J1 hJ hz h1 h2)
          exact ⟨r, fun post hp => br_f hX (ds_xallow hn (fun _ => br_f ds_n10 (ds_xex G hn (br_t h1 (nm_r (nI_1 i) (hx1 post hp))))) (fun h => absurd A h)), fun post hp => br_f hY (ds_yallow hn (fun _ => br_f ds_n10 (ds_yweight G hn (ds_ysize hn (nm_e (br_t h2 (nm_r (nI_1 i) (hy1 post hp))))))) (fun h => absurd A h))⟩
        · obtain ⟨r, hx1, hy1⟩ := ih (i + 1) x (ds_v g n c q (nI i)) (by omega) (ds_J2 hJ hz h1 h2)
          exact ⟨r, fun post hp => br_f hX (ds_xallow hn (fun _ => br_f ds_n10 (ds_xex G hn (br_t h1 (nm_r (nI_1 i) (hx1 post hp))))) (fun h => absurd A h)), fun post hp => br_f hY (ds_yallow hn (fun _ => br_f ds_n10 (ds_yweight G hn (ds_ysize hn (nm_e (br_f h2 (nm_r (nI_1 i) (hy1 post hp))))))) (fun h => absurd A h))⟩
      · by_cases h2 : ds_v g n c q (nI i) ≤ y
        · exact (ds_J3 hJ h1 h2).elim
        · obtain ⟨r, hx1, hy1⟩ := ih (i + 1) (ds_v g n c q (nI i)) (ds_v g n c q (nI i)) (by omega) (Or.inl rfl)
          exact ⟨r, fun post hp => br_f hX (ds_xallow hn (fun _ => br_f ds_n10 (ds_xex G hn (br_f h1 (nm_r (nI_1 i) (hx1 post hp))))) (fun h => absurd A h)), fun post hp => br_f hY (ds_yallow hn (fun _ => br_f ds_n10 (ds_yweight G hn (ds_ysize hn (nm_e (br_f h2 (nm_r (nI_1 i) (hy1 post hp))))))) (fun h => absurd A h))⟩
    · have hne : i ≠ P := fun e => A (by rw [e]; exact hA)
      obtain ⟨r, hx1, hy1⟩ := ih (i + 1) x y (by omega) (ds_Jn hJ hne)
      exact ⟨r, fun post hp => br_f hX (ds_xallow hn (fun h => absurd h A) (fun _ => br_t rfl (nm_r (nI_1 i) (hx1 post hp)))), fun post hp => br_f hY (ds_yallow hn (fun h => absurd h A) (fun _ => br_t rfl (nm_r (nI_1 i) (hy1 post hp))))⟩
theorem ds_vB {g : Nat → Nat → Nat} (hg : ∀ i j, g i j ≤ 20) {n a q : Nat} (hn : n ≤ 10) (ha : a ≤ 20) (hq : q ≤ 2000) (x : Int32) : (-1000000 : Int32) < ds_v g n (nI a) (nI q) x := by
  have h1 := ds_wtB (x := x) hg n hn
  have h2 := ds_szB (x := x) n
  have h3 : a * ds_wt g x n ≤ 20 * 2200 := Nat.mul_le_mul ha (by omega)
  have h4 : q * ds_sz x n ≤ 2000 * 10 := Nat.mul_le_mul hq (by omega)
  unfold ds_v
  rw [pk_mul, pk_mul, Int32.lt_iff_toInt_lt, pk_sub_toInt (by omega) (by omega), show (-1000000 : Int32).toInt = -1000000 from by decide]
  omega
end
section
/-! which arguments are refused, and what edge and bonus do to the pictures -/
def ds_V (n : Nat) (x : Int32) : Prop := ∃ j, j < n ∧ x = nI j
def ds_R (K : Nat) (x : Int32) : Prop := ∃ q, q ≤ K ∧ x = nI q
def ds_P (x y : Int32) : Prop := ∃ a q, 1 ≤ a ∧ a ≤ 20 ∧ q ≤ 2000 ∧ x = nI a ∧ y = nI q
theorem ds_xisv {p b m : Nat → Int32} {f2 : Int32} {n : Nat} (hn : n ≤ 10) {post : Int32 → Prop} {x : Int32} (h1 : ds_V n x → post 1) (h0 : ¬ ds_V n x → post 0) : wpX_isVertex post (nI n, f2, p, b, m) x := by
  refine br_c (fun z => h0 ?_) (fun z => br_c (fun z2 => h0 ?_) (fun z2 => h1 ?_))
  · intro ⟨j, hj, e⟩
    subst e
    exact nI_pos (by omega) z
  · intro ⟨j, hj, e⟩
    subst e
    exact nI_ge hj (by omega) z2
  · obtain ⟨j, hj, e⟩ := nI_of z
    subst e
    refine ⟨j, ?_, rfl⟩
    rw [nI_leI (by omega) hj] at z2
    omega
theorem ds_ybad {w m : Nat → Int32} {n : Nat} (hn : n ≤ 10) {post : Int32 → Prop} {x : Int32} (h1 : ds_V n x → post 0) (h0 : ¬ ds_V n x → post 1) : wpY_bad post (nI n, w, m) x := by
  refine br_c (fun z => h0 ?_) (fun z => br_c (fun z2 => h1 ?_) (fun z2 => h0 ?_))
  · intro ⟨j, hj, e⟩
    subst e
    exact nI_pos (by omega) z
  · obtain ⟨j, hj, e⟩ := nI_of z
    subst e
    refine ⟨j, ?_, rfl⟩
    rw [nI_ltI hj (by omega)] at z2
    omega
  · intro ⟨j, hj, e⟩
    subst e
    exact z2 (nI_lt hj (by omega))
theorem ds_xisw {u : SX} {post : Int32 → Prop} {x : Int32} (h1 : ds_R 20 x → post 1) (h0 : ¬ ds_R 20 x → post 0) : wpX_isWeight post u x := by
  obtain ⟨f1, f2, p, b, m⟩ := u
  refine br_c (fun z => h0 ?_) (fun z => br_c (fun z2 => h0 ?_) (fun z2 => h1 ?_))
  · intro ⟨j, hj, e⟩
    subst e
    exact nI_pos (by omega) z
  · intro ⟨j, hj, e⟩
    subst e
    exact nI_nlt hj (by decide) z2
  · exact nI_of2 (M := 20) (n := 20) (by decide) z (Int32.not_lt.mp z2)
theorem ds_rng (K : Nat) (hK : K < 2 ^ 31) {A B : Prop} {x : Int32} (h1 : ds_R K x → A) (h0 : ¬ ds_R K x → B) : (x < 0 → B) ∧ (¬ x < 0 → ((x ≤ nI K → A) ∧ (¬ x ≤ nI K → B))) := by
  refine br_c (fun z => h0 ?_) (fun z => br_c (fun z2 => h1 ?_) (fun z2 => h0 ?_))
  · intro ⟨j, hj, e⟩
    subst e
    exact nI_pos (by omega) z
  · exact nI_of2 (nI_toInt hK) z z2
  · intro ⟨j, hj, e⟩
    subst e
    exact z2 (nI_le hj hK)
theorem ds_pOf {x y : Int32} (h1 : ¬ x < 1) (h2 : x ≤ 20) (h3 : ¬ y < 0) (h4 : y ≤ 2000) : ds_P x y := by
  have h0 : ¬ x < 0 := by
    rw [Int32.lt_iff_toInt_lt] at h1 ⊢
    rw [show (1 : Int32).toInt = 1 from by decide] at h1
    rw [show (0 : Int32).toInt = 0 from by decide]
    omega
  obtain ⟨a, ha, e⟩ := nI_of2 (M := 20) (n := 20) (by decide) h0 h2
  obtain ⟨q, hq, e2⟩ := nI_of2 (M := 2000) (n := 2000) (by decide) h3 h4
  subst e
  refine ⟨a, q, ?_, ha, hq, rfl, e2⟩
  have h : ¬ a < 1 := fun z => h1 (nI_lt z (by decide))
  omega
theorem ds_pNo {x y : Int32} (h : ds_P x y) : ¬ x < 1 ∧ ¬ 20 < x ∧ ¬ y < 0 ∧ ¬ 2000 < y := by
  obtain ⟨a, q, h1, h2, h3, rfl, rfl⟩ := h
  exact ⟨nI_nlt h1 (by omega), nI_nlt h2 (by decide), nI_pos (by omega), nI_nlt h3 (by decide)⟩
theorem ds_xgp {u : SX} {post : Int32 → Prop} {x y : Int32} (h1 : ds_P x y → post 1) (h0 : ¬ ds_P x y → post 0) : wpX_isGainAndPrice post u x y := by
  obtain ⟨f1, f2, p, b, m⟩ := u
  exact br_c (fun z => h0 (fun h => (ds_pNo h).1 z)) (fun z1 => br_c (fun z => h0 (fun h => (ds_pNo h).2.1 z)) (fun z2 => br_c (fun z => h0 (fun h => (ds_pNo h).2.2.1 z)) (fun z3 => br_c (fun z => h0 (fun h => (ds_pNo h).2.2.2 z)) (fun z4 => h1 (ds_pOf z1 (Int32.not_lt.mp z2) z3 (Int32.not_lt.mp z4))))))
theorem ds_ygp {v : SY} {post : Int32 → Prop} {x y : Int32} (h1 : ds_P x y → post 0) (h0 : ¬ ds_P x y → post 1) : wpY_badPrice post v x y := by
  obtain ⟨f1, w, m⟩ := v
  exact br_c (fun z => h0 (fun h => (ds_pNo h).1 z)) (fun z1 => br_c (fun z => h0 (fun h => (ds_pNo h).2.1 z)) (fun z2 => br_c (fun z => h0 (fun h => (ds_pNo h).2.2.1 z)) (fun z3 => br_c (fun z4 => h1 (ds_pOf z1 (Int32.not_lt.mp z2) z3 z4)) (fun z => h0 (fun h => z (Int32.not_lt.mp (ds_pNo h).2.2.2))))))
theorem ds_G0 : ds_G (fun _ _ => 0) (fun _ => 0) (fun _ => 0) (fun _ => 0) :=
  ⟨fun _ _ => Nat.zero_le _, fun _ _ => rfl, fun _ _ _ _ => rfl, fun _ _ => rfl, fun _ _ _ _ => rfl⟩
theorem ds_Gb {g : Nat → Nat → Nat} {p b w : Nat → Int32} (G : ds_G g p b w) {i q : Nat} (hi : i < 10) (hq : q ≤ 20) : ds_G (fun a c => if a = i ∧ c = i then q else g a c) p (upd b i (nI q)) (upd w (i * 10 + i) (nI q)) := by
  obtain ⟨g1, g2, g3, g4, g5⟩ := G
  refine ⟨?_, ?_, ?_, ?_, ?_⟩
  · intro a c
    dsimp only
    split
    · exact hq
    · exact g1 a c
  · intro a c
    dsimp only
    by_cases h : a = i ∧ c = i
    · rw [if_pos h, if_pos ⟨h.2, h.1⟩]
    · rw [if_neg h, if_neg (fun z => h ⟨z.2, z.1⟩)]; exact g2 a c
  · intro a c ha hc
    dsimp only
    by_cases h : a = i ∧ c = i
    · obtain ⟨rfl, rfl⟩ := h
      rw [if_pos ⟨rfl, rfl⟩, pk_us]
    · rw [if_neg h, pk_un (by omega)]; exact g3 a c ha hc
  · intro a ha
    dsimp only
    by_cases h : a = i
    · subst h
      rw [if_pos ⟨rfl, rfl⟩, pk_us]
    · rw [if_neg (fun z => h z.1), pk_un h]; exact g4 a ha
  · intro a c hac hc
    dsimp only
    rw [if_neg (by omega)]
    exact g5 a c hac hc
theorem ds_Ge {g : Nat → Nat → Nat} {p b w : Nat → Int32} (G : ds_G g p b w) {i j q : Nat} (hi : i < j) (hj : j < 10) (hq : q ≤ 20) : ds_G (fun a c => if (a = i ∧ c = j) ∨ (a = j ∧ c = i) then q else g a c) (upd p (i * 10 + j) (nI q)) b (upd (upd w (i * 10 + j) (nI q)) (j * 10 + i) (nI q)) := by
  obtain ⟨g1, g2, g3, g4, g5⟩ := G
  refine ⟨?_, ?_, ?_, ?_, ?_⟩
  · intro a c
    dsimp only
    split
    · exact hq
    · exact g1 a c
  · intro a c
    dsimp only
    by_cases h : (a = i ∧ c = j) ∨ (a = j ∧ c = i)
    · rw [if_pos h, if_pos (by omega)]
    · rw [if_neg h, if_neg (by omega)]; exact g2 a c
  · intro a c ha hc
    dsimp only
    by_cases h2 : a = j ∧ c = i
    · obtain ⟨rfl, rfl⟩ := h2
      rw [if_pos (Or.inr ⟨rfl, rfl⟩), pk_us]
    · rw [pk_un (k := j * 10 + i) (by omega)]
      by_cases h1 : a = i ∧ c = j
      · obtain ⟨rfl, rfl⟩ := h1
        rw [if_pos (Or.inl ⟨rfl, rfl⟩), pk_us]
      · rw [if_neg (by omega), pk_un (by omega)]; exact g3 a c ha hc
  · intro a ha
    dsimp only
    rw [if_neg (by omega)]; exact g4 a ha
  · intro a c hac hc
    dsimp only
    by_cases h1 : a = i ∧ c = j
    · obtain ⟨rfl, rfl⟩ := h1
      rw [if_pos (Or.inl ⟨rfl, rfl⟩), pk_us]
    · rw [if_neg (by omega), pk_un (by omega)]; exact g5 a c hac hc
/-- the two stores of a pair's weight commute -/
theorem ds_uc {w : Nat → Int32} {a c : Nat} {z : Int32} : upd (upd w a z) c z = upd (upd w c z) a z := by
  funext k
  unfold upd
  split
  · split <;> rfl
  · rfl
theorem ds_ge {g : Nat → Nat → Nat} {p b w m : Nat → Int32} (G : ds_G g p b w) {n a q : Nat} (hn : n ≤ 10) (h1 : 1 ≤ a) (ha : a ≤ 20) (hq : q ≤ 2000) :
    ∃ r, (∀ post : Int32 → Prop, post r → wpX_greatestExcess post (nI n, nI (2 ^ n), p, b, m) (nI a) (nI q)) ∧ (∀ post : Int32 → Prop, post r → wpY_excess post (nI n, w, m) (nI a) (nI q)) := by
  have hN : 2 ^ n ≤ 2 ^ 10 := Nat.pow_le_pow_right (by decide) hn
  obtain ⟨r, hx, hy⟩ := ds_ex17 G hn hN (ds_sh n (by omega)) (ds_pinLt (m := m) n) (ds_pinA (m := m) hn) (nI a) (nI q) (2 ^ n) 0 (ds_v g n (nI a) (nI q) (nI (ds_pin m n))) (-1000000) (Nat.zero_add _) (Or.inr ⟨ds_vB G.1 hn ha hq _, rfl, Nat.zero_le _⟩)
  refine ⟨r, fun post hp => ?_, fun post hp => ?_⟩
  · unfold wpX_greatestExcess
    exact ds_xpin hn (ds_xex G hn ⟨_, hx post hp⟩)
  · unfold wpY_excess
    exact ds_ygp (fun _ => br_t rfl ⟨_, hy post hp⟩) (fun h => absurd ⟨a, q, h1, ha, hq, rfl, rfl⟩ h)
end
section
/-- both sides hold one graph: n vertices, the weights g (the diagonal holds the bonuses), the same modes -/
def i_Rel (k : Nat) (u : SX) (v : SY) : Prop :=
  ∃ (n : Nat) (g : Nat → Nat → Nat) (p b w m : Nat → Int32), u = (nI n, nI (2 ^ n), p, b, m) ∧ v = (nI n, w, m) ∧ 1 ≤ n ∧ n ≤ 10 ∧ ds_G g p b w
theorem i_up {k : Nat} {u : SX} {v : SY} (h : i_Rel k u v) : i_Rel (k + 4) u v := h
theorem ds_i0 {n : Nat} (h1 : 1 ≤ n) (hn : n ≤ 10) : i_Rel 1 (nI n, nI (2 ^ n), (fun _ => 0), (fun _ => 0), (fun _ => 0)) (nI n, (fun _ => 0), (fun _ => 0)) :=
  ⟨n, _, _, _, _, _, rfl, rfl, h1, hn, ds_G0⟩
theorem i_vc0 (k0 : Int32) : wpX_init (fun u => wpY_init (fun v => i_Rel 1 u v) k0) k0 := by
  unfold wpX_init wpX_clampVertices
  by_cases h1 : 1 ≤ k0
  · refine br_t h1 ?_
    by_cases h10 : k0 ≤ 10
    · have h0 : ¬ k0 < 0 := by
        rw [Int32.lt_iff_toInt_lt]
        rw [Int32.le_iff_toInt_le, show (1 : Int32).toInt = 1 from by decide] at h1
        rw [show (0 : Int32).toInt = 0 from by decide]
        omega
      obtain ⟨j, hj, e⟩ := nI_of2 (M := 10) (n := 10) (by decide) h0 h10
      subst e
      have hj1 : 1 ≤ j := (nI_leI (a := 1) (b := j) (by decide) (by omega)).mp h1
      exact br_t h10 (nm_r (ds_sh j (by omega)) (br_t h1 (br_t h10 (ds_i0 hj1 hj))))
    · exact br_f h10 (nm_r (ds_sh 10 (by decide)) (br_t h1 (br_f h10 (ds_i0 (n := 10) (by decide) (by decide)))))
  · exact br_f h1 (nm_r (ds_sh 1 (by decide)) (br_f h1 (br_t (by decide) (ds_i0 (n := 1) (by decide) (by decide)))))
theorem i_vc_edge {k : Nat} {u : SX} {v : SY} (I : i_Rel k u v) (hk : k + 4 ≤ 2049) (v1 : Int32) (v2 : Int32) (v3 : Int32) : wpX_edge (fun r u' => wpY_edge (fun r' v' => r' = r ∧ i_Rel (k + 4) u' v') v v1 v2 v3) u v1 v2 v3 := by
  have I0 : i_Rel (k + 4) u v := i_up I
  obtain ⟨n, g, p, b, w, m, rfl, rfl, h1, hn, G⟩ := I
  unfold wpX_edge
  by_cases V1 : ds_V n v1
  · refine ds_xisv hn (fun _ => br_f ds_n10 ?_) (fun h => absurd V1 h)
    by_cases V2 : ds_V n v2
    · refine ds_xisv hn (fun _ => br_f ds_n10 ?_) (fun h => absurd V2 h)
      by_cases E : v1 = v2
      · refine br_t E ?_
        unfold wpY_edge
        exact ds_ybad hn (fun _ => br_t rfl (ds_ybad hn (fun _ => br_t rfl (br_t E ⟨rfl, I0⟩)) (fun h => absurd V2 h))) (fun h => absurd V1 h)
      · refine br_f E ?_
        by_cases W : ds_R 20 v3
        · refine ds_xisw (fun _ => br_f ds_n10 ?_) (fun h => absurd W h)
          obtain ⟨i, hi, rfl⟩ := V1
          obtain ⟨j, hj, rfl⟩ := V2
          obtain ⟨q, hq, rfl⟩ := W
          by_cases l : i < j
          · refine ds_xpc l (by omega) ⟨vp_in_nI (by omega) (by decide), nm_e ⟨vp_in_nI (by omega) (by decide), nm_e ?_⟩⟩
            unfold wpY_edge
            refine ds_ybad hn (fun _ => br_t rfl (ds_ybad hn (fun _ => br_t rfl (br_f E (ds_rng 20 (by decide) (fun _ => ?_) (fun h => absurd ⟨q, hq, rfl⟩ h)))) (fun h => absurd ⟨j, hj, rfl⟩ h))) (fun h => absurd ⟨i, hi, rfl⟩ h)
            rw [ds_cell, ds_cell, nI_clamp (n := i * 10 + j) (by omega), nI_clamp (n := j * 10 + i) (by omega)]
            refine ⟨vp_in_nI (by omega) (by decide), nm_e ⟨vp_in_nI (by omega) (by decide), nm_e ⟨vp_in_nI (by omega) (by decide), nm_e ⟨?_, ?_⟩⟩⟩⟩
            · rw [G.2.2.1 i j (by omega) (by omega), G.2.2.2.2 i j l (by omega)]
            · exact ⟨n, _, _, _, _, _, rfl, rfl, h1, hn, ds_Ge G l (by omega) hq⟩
          · have l2 : j < i := by
              have : i ≠ j := fun z => E (by rw [z])
              omega
            refine ds_xpc2 l2 (by omega) ⟨vp_in_nI (by omega) (by decide), nm_e ⟨vp_in_nI (by omega) (by decide), nm_e ?_⟩⟩
            unfold wpY_edge
            refine ds_ybad hn (fun _ => br_t rfl (ds_ybad hn (fun _ => br_t rfl (br_f E (ds_rng 20 (by decide) (fun _ => ?_) (fun h => absurd ⟨q, hq, rfl⟩ h)))) (fun h => absurd ⟨j, hj, rfl⟩ h))) (fun h => absurd ⟨i, hi, rfl⟩ h)
            rw [ds_cell, ds_cell, nI_clamp (n := i * 10 + j) (by omega), nI_clamp (n := j * 10 + i) (by omega)]
            refine ⟨vp_in_nI (by omega) (by decide), nm_e ⟨vp_in_nI (by omega) (by decide), nm_e ⟨vp_in_nI (by omega) (by decide), nm_e ⟨?_, ?_⟩⟩⟩⟩
            · rw [G.2.2.1 i j (by omega) (by omega), G.2.2.2.2 j i l2 (by omega), G.2.1 i j]
            · rw [ds_uc]
              exact ⟨n, _, _, _, _, _, rfl, rfl, h1, hn, ds_Ge G l2 (by omega) hq⟩
        · refine ds_xisw (fun h => absurd h W) (fun _ => br_t rfl ?_)
          unfold wpY_edge
          exact ds_ybad hn (fun _ => br_t rfl (ds_ybad hn (fun _ => br_t rfl (br_f E (ds_rng 20 (by decide) (fun h => absurd h W) (fun _ => ⟨rfl, I0⟩)))) (fun h => absurd V2 h))) (fun h => absurd V1 h)
    · refine ds_xisv hn (fun h => absurd h V2) (fun _ => br_t rfl ?_)
      unfold wpY_edge
      exact ds_ybad hn (fun _ => br_t rfl (ds_ybad hn (fun h => absurd h V2) (fun _ => br_f ds_n10 ⟨rfl, I0⟩))) (fun h => absurd V1 h)
  · refine ds_xisv hn (fun h => absurd h V1) (fun _ => br_t rfl ?_)
    unfold wpY_edge
    exact ds_ybad hn (fun h => absurd h V1) (fun _ => br_f ds_n10 ⟨rfl, I0⟩)
theorem i_vc_bonus {k : Nat} {u : SX} {v : SY} (I : i_Rel k u v) (hk : k + 4 ≤ 2049) (v1 : Int32) (v2 : Int32) : wpX_bonus (fun r u' => wpY_bonus (fun r' v' => r' = r ∧ i_Rel (k + 4) u' v') v v1 v2) u v1 v2 := by
  have I0 : i_Rel (k + 4) u v := i_up I
  obtain ⟨n, g, p, b, w, m, rfl, rfl, h1, hn, G⟩ := I
  unfold wpX_bonus
  by_cases V1 : ds_V n v1
  · refine ds_xisv hn (fun _ => br_f ds_n10 ?_) (fun h => absurd V1 h)
    by_cases W : ds_R 20 v2
    · refine ds_xisw (fun _ => br_f ds_n10 ?_) (fun h => absurd W h)
      obtain ⟨i, hi, rfl⟩ := V1
      obtain ⟨q, hq, rfl⟩ := W
      refine ⟨vp_in_nI (by omega) (by decide), nm_e ⟨vp_in_nI (by omega) (by decide), nm_e ?_⟩⟩
      unfold wpY_bonus
      refine ds_ybad hn (fun _ => br_t rfl (ds_rng 20 (by decide) (fun _ => ?_) (fun h => absurd ⟨q, hq, rfl⟩ h))) (fun h => absurd ⟨i, hi, rfl⟩ h)
      rw [ds_cell, nI_clamp (n := i * 10 + i) (by omega), nI_clamp (n := i) (by omega)]
      refine ⟨vp_in_nI (by omega) (by decide), nm_e ⟨vp_in_nI (by omega) (by decide), nm_e ⟨?_, ?_⟩⟩⟩
      · rw [G.2.2.1 i i (by omega) (by omega), G.2.2.2.1 i (by omega)]
      · exact ⟨n, _, _, _, _, _, rfl, rfl, h1, hn, ds_Gb G (by omega) hq⟩
    · refine ds_xisw (fun h => absurd h W) (fun _ => br_t rfl ?_)
      unfold wpY_bonus
      exact ds_ybad hn (fun _ => br_t rfl (ds_rng 20 (by decide) (fun h => absurd h W) (fun _ => ⟨rfl, I0⟩))) (fun h => absurd V1 h)
  · refine ds_xisv hn (fun h => absurd h V1) (fun _ => br_t rfl ?_)
    unfold wpY_bonus
    exact ds_ybad hn (fun h => absurd h V1) (fun _ => br_f ds_n10 ⟨rfl, I0⟩)
theorem i_vc_mode {k : Nat} {u : SX} {v : SY} (I : i_Rel k u v) (hk : k + 4 ≤ 2049) (v1 : Int32) (v2 : Int32) : wpX_mode (fun r u' => wpY_mode (fun r' v' => r' = r ∧ i_Rel (k + 4) u' v') v v1 v2) u v1 v2 := by
  have I0 : i_Rel (k + 4) u v := i_up I
  obtain ⟨n, g, p, b, w, m, rfl, rfl, h1, hn, G⟩ := I
  unfold wpX_mode
  by_cases V1 : ds_V n v1
  · refine ds_xisv hn (fun _ => br_f ds_n10 ?_) (fun h => absurd V1 h)
    obtain ⟨i, hi, rfl⟩ := V1
    have hin : vp_in (nI i) 10 := vp_in_nI (by omega) (by decide)
    by_cases W : ds_R 2 v2
    · refine ds_rng 2 (by decide) (fun _ => ⟨hin, nm_e ⟨hin, nm_e ?_⟩⟩) (fun h => absurd W h)
      unfold wpY_mode
      exact ds_ybad hn (fun _ => br_t rfl (ds_rng 2 (by decide) (fun _ => ⟨hin, nm_e ⟨hin, nm_e ⟨rfl, n, g, p, b, w, _, rfl, rfl, h1, hn, G⟩⟩⟩) (fun h => absurd W h))) (fun h => absurd ⟨i, hi, rfl⟩ h)
    · refine ds_rng 2 (by decide) (fun h => absurd h W) (fun _ => ?_)
      unfold wpY_mode
      exact ds_ybad hn (fun _ => br_t rfl (ds_rng 2 (by decide) (fun h => absurd h W) (fun _ => ⟨rfl, I0⟩))) (fun h => absurd ⟨i, hi, rfl⟩ h)
  · refine ds_xisv hn (fun h => absurd h V1) (fun _ => br_t rfl ?_)
    unfold wpY_mode
    exact ds_ybad hn (fun h => absurd h V1) (fun _ => br_f ds_n10 ⟨rfl, I0⟩)
theorem i_vc_weight {k : Nat} {u : SX} {v : SY} (I : i_Rel k u v) (hk : k + 4 ≤ 2049) (v1 : Int32) : wpX_weight (fun r => wpY_weight (fun r' => r' = r ∧ i_Rel (k + 4) u v) v v1) u v1 := by
  have I0 : i_Rel (k + 4) u v := i_up I
  obtain ⟨n, g, p, b, w, m, rfl, rfl, h1, hn, G⟩ := I
  exact ds_xweight G hn (ds_yweight G hn ⟨rfl, I0⟩)
theorem i_vc_densityTop {k : Nat} {u : SX} {v : SY} (I : i_Rel k u v) (hk : k + 4 ≤ 2049) : wpX_densityTop (fun r => wpY_densityTop (fun r' => r' = r ∧ i_Rel (k + 4) u v) v) u := by
  have I0 : i_Rel (k + 4) u v := i_up I
  obtain ⟨n, g, p, b, w, m, rfl, rfl, h1, hn, G⟩ := I
  have hN : 2 ^ n ≤ 2 ^ 10 := Nat.pow_le_pow_right (by decide) hn
  obtain ⟨r, hr, hx, hy⟩ := ds_some (m := m) G hn Nat.one_le_two_pow hN (ds_sh n (by omega))
  unfold wpX_densityTop
  refine hx _ ?_
  obtain z | ⟨j, hj1, hj2, e⟩ := hr
  · refine br_t z ?_
    unfold wpY_densityTop
    exact hy _ (br_t z ⟨rfl, I0⟩)
  · have z : ¬ r = 0 := by rw [e]; exact nI_ne0 (by omega) (by omega)
    have hs1 : 1 ≤ ds_sz r n := by rw [e]; exact ds_szP hn hj1 hj2
    have hs2 := ds_szB (x := r) n
    have ht := ds_wtB (x := r) G.1 n hn
    have hd := ds_cdB (t := ds_wt g r n) (s := ds_sz r n) (ds_sz r n) (by omega)
    refine br_f z (ds_xweight G hn (ds_xsize hn (ds_xcd (by omega) (by omega) ⟨nI_ne0 (by omega) (by omega), ?_⟩)))
    unfold wpY_densityTop
    refine hy _ (br_f z (ds_yweight G hn (ds_ycd G hn hs1 ?_)))
    generalize ds_cd (ds_wt g r n) (ds_sz r n) (ds_sz r n) = c at hd ⊢
    by_cases h : c = 1
    · subst h
      refine br_t (nI_le (a := 1) (b := 1) (by decide) (by decide)) ⟨?_, I0⟩
      rw [pk_div (by omega) (by decide) (by decide), Nat.div_one]
    · exact br_f (nI_ge (a := 1) (b := c) (by omega) (by omega)) ⟨nI_ne0 (by omega) (by omega), rfl, I0⟩
theorem i_vc_densityBottom {k : Nat} {u : SX} {v : SY} (I : i_Rel k u v) (hk : k + 4 ≤ 2049) : wpX_densityBottom (fun r => wpY_densityBottom (fun r' => r' = r ∧ i_Rel (k + 4) u v) v) u := by
  have I0 : i_Rel (k + 4) u v := i_up I
  obtain ⟨n, g, p, b, w, m, rfl, rfl, h1, hn, G⟩ := I
  have hN : 2 ^ n ≤ 2 ^ 10 := Nat.pow_le_pow_right (by decide) hn
  obtain ⟨r, hr, hx, hy⟩ := ds_some (m := m) G hn Nat.one_le_two_pow hN (ds_sh n (by omega))
  unfold wpX_densityBottom
  refine hx _ ?_
  obtain z | ⟨j, hj1, hj2, e⟩ := hr
  · refine br_t z ?_
    unfold wpY_densityBottom
    exact hy _ (br_t z ⟨rfl, I0⟩)
  · have z : ¬ r = 0 := by rw [e]; exact nI_ne0 (by omega) (by omega)
    have hs1 : 1 ≤ ds_sz r n := by rw [e]; exact ds_szP hn hj1 hj2
    have hs2 := ds_szB (x := r) n
    have ht := ds_wtB (x := r) G.1 n hn
    have hd := ds_cdB (t := ds_wt g r n) (s := ds_sz r n) (ds_sz r n) (by omega)
    refine br_f z (ds_xweight G hn (ds_xsize hn (ds_xcd (by omega) (by omega) ⟨nI_ne0 (by omega) (by omega), ?_⟩)))
    unfold wpY_densityBottom
    refine hy _ (br_f z (ds_ysize hn (ds_ycd G hn hs1 ?_)))
    generalize ds_cd (ds_wt g r n) (ds_sz r n) (ds_sz r n) = c at hd ⊢
    by_cases h : c = 1
    · subst h
      refine br_t (nI_le (a := 1) (b := 1) (by decide) (by decide)) ⟨?_, I0⟩
      rw [pk_div (by omega) (by decide) (by decide), Nat.div_one]
    · exact br_f (nI_ge (a := 1) (b := c) (by omega) (by omega)) ⟨nI_ne0 (by omega) (by omega), rfl, I0⟩
theorem i_vc_densest {k : Nat} {u : SX} {v : SY} (I : i_Rel k u v) (hk : k + 4 ≤ 2049) : wpX_densest (fun r => wpY_densest (fun r' => r' = r ∧ i_Rel (k + 4) u v) v) u := by
  have I0 : i_Rel (k + 4) u v := i_up I
  obtain ⟨n, g, p, b, w, m, rfl, rfl, h1, hn, G⟩ := I
  have hN : 2 ^ n ≤ 2 ^ 10 := Nat.pow_le_pow_right (by decide) hn
  have h1N : 1 ≤ 2 ^ n := Nat.one_le_two_pow
  obtain ⟨r, hr, hx, hy⟩ := ds_some (m := m) G hn h1N hN (ds_sh n (by omega))
  obtain ⟨r2, hx2, hy2⟩ := ds_dens23 (m := m) G hn hN (ds_sh n (by omega)) (nI (ds_wt g r n)) (nI (ds_sz r n)) (2 ^ n - 1) 1 0 (by omega)
  unfold wpX_densest
  refine hx _ (ds_xweight G hn (ds_xsize hn ⟨_, hx2 _ ?_⟩))
  unfold wpY_densest
  exact hy _ (ds_yweight G hn (ds_ysize hn ⟨_, hy2 _ ⟨rfl, I0⟩⟩))
theorem i_vc_excess {k : Nat} {u : SX} {v : SY} (I : i_Rel k u v) (hk : k + 4 ≤ 2049) (v1 : Int32) (v2 : Int32) : wpX_excess (fun r => wpY_excess (fun r' => r' = r ∧ i_Rel (k + 4) u v) v v1 v2) u v1 v2 := by
  have I0 : i_Rel (k + 4) u v := i_up I
  obtain ⟨n, g, p, b, w, m, rfl, rfl, h1, hn, G⟩ := I
  unfold wpX_excess
  by_cases P : ds_P v1 v2
  · refine ds_xgp (fun _ => br_f ds_n10 ?_) (fun h => absurd P h)
    obtain ⟨a, q, ha1, ha, hq, rfl, rfl⟩ := P
    obtain ⟨r, hx, hy⟩ := ds_ge (m := m) G hn ha1 ha hq
    exact hx _ (hy _ ⟨rfl, I0⟩)
  · refine ds_xgp (fun h => absurd h P) (fun _ => br_t rfl ?_)
    unfold wpY_excess
    exact ds_ygp (fun h => absurd h P) (fun _ => br_f ds_n10 ⟨rfl, I0⟩)
theorem i_vc_excessSet {k : Nat} {u : SX} {v : SY} (I : i_Rel k u v) (hk : k + 4 ≤ 2049) (v1 : Int32) (v2 : Int32) : wpX_excessSet (fun r => wpY_excessSet (fun r' => r' = r ∧ i_Rel (k + 4) u v) v v1 v2) u v1 v2 := by
  have I0 : i_Rel (k + 4) u v := i_up I
  obtain ⟨n, g, p, b, w, m, rfl, rfl, h1, hn, G⟩ := I
  have hN : 2 ^ n ≤ 2 ^ 10 := Nat.pow_le_pow_right (by decide) hn
  unfold wpX_excessSet
  by_cases P : ds_P v1 v2
  · refine ds_xgp (fun _ => br_f ds_n10 ?_) (fun h => absurd P h)
    obtain ⟨a, q, ha1, ha, hq, rfl, rfl⟩ := P
    obtain ⟨r, hx, hy⟩ := ds_ge (m := m) G hn ha1 ha hq
    obtain ⟨r2, hx2, hy2⟩ := ds_exset (m := m) G hn hN (ds_sh n (by omega)) (nI a) (nI q) r (2 ^ n) 0 0 (Nat.zero_add _)
    refine hx _ ⟨_, hx2 _ ?_⟩
    unfold wpY_excessSet
    exact ds_ygp (fun _ => br_t rfl (hy _ ⟨_, hy2 _ ⟨rfl, I0⟩⟩)) (fun h => absurd ⟨a, q, ha1, ha, hq, rfl, rfl⟩ h)
  · refine ds_xgp (fun h => absurd h P) (fun _ => br_t rfl ?_)
    unfold wpY_excessSet
    exact ds_ygp (fun h => absurd h P) (fun _ => br_f ds_n10 ⟨rfl, I0⟩)
end
