section
theorem pk_us {f : Nat → Int32} {k : Nat} {x : Int32} : upd f k x k = x := if_pos rfl
theorem pk_un {f : Nat → Int32} {k j : Nat} {x : Int32} (h : j ≠ k) : upd f k x j = f j := if_neg h
theorem pk_sub {a b : Nat} (h : b ≤ a) : nI a - nI b = nI (a - b) := by
  obtain ⟨c, rfl⟩ : ∃ c, a = c + b := ⟨a - b, by omega⟩
  rw [← nI_add, Int32.add_sub_cancel, Nat.add_sub_cancel]
theorem pk_m1 (n : Nat) : nI (n + 1) + (-1) = nI n := by
  rw [← nI_1, Int32.add_assoc, show (1 : Int32) + (-1) = 0 from rfl, Int32.add_zero]
theorem pk_mul (a b : Nat) : nI a * nI b = nI (a * b) := (Int32.ofNat_mul a b).symm
theorem pk_div {a d : Nat} (ha : a < 2 ^ 31) (h0 : 0 < d) (hd : d < 2 ^ 31) : nI a / nI d = nI (a / d) := by
  apply Int32.toInt_inj.mp
  rw [lg_idiv_nonneg (by rw [nI_toInt ha]; omega) (by rw [nI_toInt hd]; omega), nI_toInt ha, nI_toInt hd, nI_toInt (Nat.lt_of_le_of_lt (Nat.div_le_self a d) ha)]
  first | rfl | exact (Int.natCast_ediv _ _).symm
theorem pk_rem {a d : Nat} (ha : a < 2 ^ 31) (h0 : 0 < d) (hd : d < 2 ^ 31) : nI a - nI a / nI d * nI d = nI (a % d) := by
  rw [pk_div ha h0 hd, pk_mul, pk_sub (Nat.div_mul_le_self a d)]
  exact congrArg nI (by have := Nat.div_add_mod' a d; omega)
theorem pk_sub_toInt {a b : Nat} (ha : a < 2 ^ 30) (hb : b < 2 ^ 30) : (nI a - nI b).toInt = (a : Int) - b := by
  rw [Int32.toInt_sub, nI_toInt (by omega), nI_toInt (by omega)]
  exact Int.bmod_eq_of_le (by omega) (by omega)
theorem pk_tn {n : Nat} (h : n < 2 ^ 32) : (nI n).toBitVec.toNat = n := Nat.mod_eq_of_lt h
theorem pk_and (x : Int32) {m : Int32} (k : Nat) (hm : m.toBitVec.toNat = 2 ^ k - 1) : x &&& m = nI (x.toBitVec.toNat % 2 ^ k) := by
  apply Int32.toBitVec_inj.mp
  apply BitVec.eq_of_toNat_eq
  rw [Int32.toBitVec_and, BitVec.toNat_and, hm, Nat.and_two_pow_sub_one_eq_mod]
  show _ = (BitVec.ofNat 32 _).toNat
  rw [BitVec.toNat_ofNat]
  exact (Nat.mod_eq_of_lt (Nat.lt_of_le_of_lt (Nat.mod_le _ _) x.toBitVec.isLt)).symm
theorem pk_andN {n : Nat} (h : n < 2 ^ 32) {m : Int32} (k : Nat) (hm : m.toBitVec.toNat = 2 ^ k - 1) : nI n &&& m = nI (n % 2 ^ k) := by
  rw [pk_and _ k hm, pk_tn h]
theorem pk_shl (a s : Int32) (k : Nat) (hs : (s.toBitVec.smod 32).toNat = k) : (a <<< s).toBitVec.toNat = a.toBitVec.toNat * 2 ^ k % 2 ^ 32 := by
  show (a.toBitVec <<< (s.toBitVec.smod 32).toNat).toNat = _
  rw [hs, BitVec.toNat_shiftLeft, Nat.shiftLeft_eq]
theorem pk_shlN {n : Nat} (s : Int32) (k : Nat) (hs : (s.toBitVec.smod 32).toNat = k) (h : n * 2 ^ k < 2 ^ 32) : nI n <<< s = nI (n * 2 ^ k) := by
  apply Int32.toBitVec_inj.mp
  apply BitVec.eq_of_toNat_eq
  have hn : n < 2 ^ 32 := Nat.lt_of_le_of_lt (Nat.le_mul_of_pos_right n (Nat.two_pow_pos k)) h
  rw [pk_shl _ _ k hs, pk_tn hn, pk_tn h, Nat.mod_eq_of_lt h]
theorem pk_shr (a s : Int32) (k : Nat) (hs : (s.toBitVec.smod 32).toNat = k) : (a >>> s).toInt = a.toInt >>> k := by
  show (a.toBitVec.sshiftRight (s.toBitVec.smod 32).toNat).toInt = _
  rw [hs, BitVec.toInt_sshiftRight]
  rfl
theorem pk_shrN {n : Nat} (h : n < 2 ^ 31) (s : Int32) (k : Nat) (hs : (s.toBitVec.smod 32).toNat = k) : nI n >>> s = nI (n / 2 ^ k) := by
  apply Int32.toInt_inj.mp
  have h2 : n / 2 ^ k ≤ n := Nat.div_le_self _ _
  rw [pk_shr _ _ k hs, nI_toInt h, nI_toInt (by omega), Int.shiftRight_eq_div_pow]
  rfl
/-! the pure pictures: bits of a set, the sums over it, what the modes forbid -/
theorem ds_or (a b : Nat) : nI a ||| nI b = nI (a ||| b) := by
  apply Int32.toBitVec_inj.1
  show BitVec.ofNat 32 a ||| BitVec.ofNat 32 b = BitVec.ofNat 32 (a ||| b)
  apply BitVec.eq_of_getLsbD_eq
  intro i hi
  simp [hi]
theorem ds_sm : ∀ n, n < 32 → ((nI n &&& 31).toBitVec.smod 32).toNat = n := by decide +kernel
theorem ds_sh : ∀ n, n < 11 → (1 : Int32) <<< (nI n &&& 31) = nI (2 ^ n) := by decide +kernel
theorem ds_n10 : ¬ (1 : Int32) = 0 := by decide
def ds_b (x : Int32) (v : Nat) : Bool := decide ((x >>> (nI v &&& 31)) &&& 1 = 1)
theorem ds_bT {x : Int32} {v : Nat} (h : ds_b x v = true) : (x >>> (nI v &&& 31)) &&& 1 = 1 := of_decide_eq_true h
theorem ds_bF {x : Int32} {v : Nat} (h : ds_b x v = false) : ¬ (x >>> (nI v &&& 31)) &&& 1 = 1 := of_decide_eq_false h
theorem ds_bF0 {x : Int32} {v : Nat} (h : ds_b x v = false) : (x >>> (nI v &&& 31)) &&& 1 = 0 := by
  have h1 := ds_bF h
  have e := pk_and (x >>> (nI v &&& 31)) (m := 1) 1 (by decide)
  rw [e] at h1 ⊢
  have hl : (x >>> (nI v &&& 31)).toBitVec.toNat % 2 ^ 1 < 2 := Nat.mod_lt _ (by decide)
  generalize (x >>> (nI v &&& 31)).toBitVec.toNat % 2 ^ 1 = q at h1 hl ⊢
  have hq : q = 0 := by
    have : q ≠ 1 := fun z => h1 (by rw [z]; rfl)
    omega
  rw [hq]; exact nI_0
theorem ds_bN {j v : Nat} (hj : j < 2 ^ 31) (hv : v < 32) : ds_b (nI j) v = j.testBit v := by
  unfold ds_b
  rw [pk_shrN hj _ v (ds_sm v hv), pk_andN (Nat.lt_of_le_of_lt (Nat.div_le_self _ _) (by omega)) (m := 1) 1 (by decide), Nat.testBit_eq_decide_div_mod_eq]
  have hl : j / 2 ^ v % 2 ^ 1 < 2 := Nat.mod_lt _ (by decide)
  have e1 : (1 : Int32) = nI 1 := rfl
  rw [e1]
  exact decide_eq_decide.mpr (nI_eq (by omega) (by decide))
def ds_lo (g : Nat → Nat → Nat) (x : Int32) (v : Nat) : Nat → Nat
  | 0 => 0
  | k + 1 => ds_lo g x v k + (if ds_b x k then g v k else 0)
def ds_wt (g : Nat → Nat → Nat) (x : Int32) : Nat → Nat
  | 0 => 0
  | k + 1 => ds_wt g x k + (if ds_b x k then ds_lo g x k k + g k k else 0)
def ds_sz (x : Int32) : Nat → Nat
  | 0 => 0
  | k + 1 => ds_sz x k + (if ds_b x k then 1 else 0)
def ds_A (m : Nat → Int32) (x : Int32) (n : Nat) : Prop := ∀ v, v < n → ¬ m v = (if ds_b x v then 2 else 1)
def ds_G (g : Nat → Nat → Nat) (p b w : Nat → Int32) : Prop :=
  (∀ i j, g i j ≤ 20) ∧ (∀ i j, g i j = g j i) ∧ (∀ i j, i < 10 → j < 10 → w (i * 10 + j) = nI (g i j)) ∧ (∀ i, i < 10 → b i = nI (g i i)) ∧ (∀ i j, i < j → j < 10 → p (i * 10 + j) = nI (g i j))
theorem ds_loT {g : Nat → Nat → Nat} {x : Int32} {v k : Nat} (h : ds_b x k = true) : ds_lo g x v (k + 1) = ds_lo g x v k + g v k := by simp [ds_lo, h]
theorem ds_loF {g : Nat → Nat → Nat} {x : Int32} {v k : Nat} (h : ds_b x k = false) : ds_lo g x v (k + 1) = ds_lo g x v k := by simp [ds_lo, h]
theorem ds_wtT {g : Nat → Nat → Nat} {x : Int32} {k : Nat} (h : ds_b x k = true) : ds_wt g x (k + 1) = ds_wt g x k + (ds_lo g x k k + g k k) := by simp [ds_wt, h]
theorem ds_wtF {g : Nat → Nat → Nat} {x : Int32} {k : Nat} (h : ds_b x k = false) : ds_wt g x (k + 1) = ds_wt g x k := by simp [ds_wt, h]
theorem ds_szT {x : Int32} {k : Nat} (h : ds_b x k = true) : ds_sz x (k + 1) = ds_sz x k + 1 := by simp [ds_sz, h]
theorem ds_szF {x : Int32} {k : Nat} (h : ds_b x k = false) : ds_sz x (k + 1) = ds_sz x k := by simp [ds_sz, h]
theorem ds_loB {g : Nat → Nat → Nat} {x : Int32} (hg : ∀ i j, g i j ≤ 20) (v : Nat) : ∀ k, ds_lo g x v k ≤ 20 * k := by
  intro k
  induction k with
  | zero => exact Nat.le_refl 0
  | succ k ih =>
    have := hg v k
    cases h : ds_b x k
    · rw [ds_loF h]; omega
    · rw [ds_loT h]; omega
theorem ds_wtB {g : Nat → Nat → Nat} {x : Int32} (hg : ∀ i j, g i j ≤ 20) : ∀ k, k ≤ 10 → ds_wt g x k ≤ 220 * k := by
  intro k
  induction k with
  | zero => intro _; exact Nat.le_refl 0
  | succ k ih =>
    intro hk
    have h1 := ih (by omega)
    have h2 := hg k k
    have h3 := ds_loB (x := x) hg k k
    cases h : ds_b x k
    · rw [ds_wtF h]; omega
    · rw [ds_wtT h]; omega
theorem ds_szB {x : Int32} : ∀ k, ds_sz x k ≤ k := by
  intro k
  induction k with
  | zero => exact Nat.le_refl 0
  | succ k ih =>
    cases h : ds_b x k
    · rw [ds_szF h]; omega
    · rw [ds_szT h]; omega
theorem ds_sz1 {x : Int32} {v : Nat} (h : ds_b x v = true) : ∀ k, v < k → 1 ≤ ds_sz x k := by
  intro k
  induction k with
  | zero => intro hk; omega
  | succ k ih =>
    intro hk
    by_cases e : v = k
    · subst e; rw [ds_szT h]; omega
    · have := ih (by omega)
      cases h2 : ds_b x k
      · rw [ds_szF h2]; omega
      · rw [ds_szT h2]; omega
theorem ds_szP {n j : Nat} (hn : n ≤ 10) (h1 : 1 ≤ j) (hj : j < 2 ^ n) : 1 ≤ ds_sz (nI j) n := by
  have hN : 2 ^ n ≤ 2 ^ 10 := Nat.pow_le_pow_right (by decide) hn
  have hj31 : j < 2 ^ 31 := by omega
  by_cases h : ∃ v, v < n ∧ ds_b (nI j) v = true
  · obtain ⟨v, hv, hb⟩ := h
    exact ds_sz1 hb n hv
  · exfalso
    have hz : j = 0 := by
      apply Nat.eq_of_testBit_eq
      intro v
      rw [Nat.zero_testBit]
      by_cases hv : v < n
      · cases hb : ds_b (nI j) v
        · rw [← ds_bN hj31 (by omega)]; exact hb
        · exact absurd ⟨v, hv, hb⟩ h
      · exact Nat.testBit_lt_two_pow (Nat.lt_of_lt_of_le hj (Nat.pow_le_pow_right (by decide) (by omega)))
    omega
/-- the pinned vertices below k, as a number -/
def ds_pin (m : Nat → Int32) : Nat → Nat
  | 0 => 0
  | k + 1 => if m k = 1 then ds_pin m k ||| 2 ^ k else ds_pin m k
theorem ds_pinLt {m : Nat → Int32} : ∀ k, ds_pin m k < 2 ^ k := by
  intro k
  induction k with
  | zero => exact Nat.one_pos
  | succ k ih =>
    have h1 : ds_pin m k < 2 ^ (k + 1) := Nat.lt_of_lt_of_le ih (Nat.pow_le_pow_right (by decide) (by omega))
    unfold ds_pin
    split
    · exact Nat.or_lt_two_pow h1 (Nat.pow_lt_pow_right (by decide) (by omega))
    · exact h1
theorem ds_pinBit {m : Nat → Int32} (v : Nat) : ∀ k, (ds_pin m k).testBit v = (decide (v < k) && decide (m v = 1)) := by
  intro k
  induction k with
  | zero => simp [ds_pin]
  | succ k ih =>
    unfold ds_pin
    split
    case isTrue h =>
      rw [Nat.testBit_or, ih, Nat.testBit_two_pow]
      by_cases e : k = v
      · subst e; simp [h]
      · by_cases l : v < k
        · simp [e, l, show v < k + 1 by omega]
        · simp [e, l, show ¬ v < k + 1 by omega]
    case isFalse h =>
      rw [ih]
      by_cases e : k = v
      · subst e; simp [h]
      · by_cases l : v < k
        · simp [l, show v < k + 1 by omega]
        · simp [l, show ¬ v < k + 1 by omega]
theorem ds_pinA {m : Nat → Int32} {n : Nat} (hn : n ≤ 10) : ds_A m (nI (ds_pin m n)) n := by
  intro v hv
  have hN : 2 ^ n ≤ 2 ^ 10 := Nat.pow_le_pow_right (by decide) hn
  have hp := ds_pinLt (m := m) n
  rw [ds_bN (by omega) (by omega), ds_pinBit]
  by_cases h : m v = 1
  · simp [h, hv]
  · simp [h]
/-- the greatest common divisor from k downwards, as both sides look for it -/
def ds_cd (t s : Nat) : Nat → Nat
  | 0 => 1
  | 1 => 1
  | k + 2 => if t % (k + 2) = 0 ∧ s % (k + 2) = 0 then k + 2 else ds_cd t s (k + 1)
theorem ds_cdUp {t s : Nat} (hs : 1 ≤ s) : ∀ e, ds_cd t s (s + e) = ds_cd t s s := by
  intro e
  induction e with
  | zero => rfl
  | succ e ih =>
    obtain ⟨q, hq⟩ : ∃ q, s + (e + 1) = q + 2 := ⟨s + e - 1, by omega⟩
    have hm : ¬ s % (q + 2) = 0 := by rw [Nat.mod_eq_of_lt (by omega)]; omega
    have e2 : q + 1 = s + e := by omega
    rw [hq, ds_cd, if_neg (fun z => hm z.2), e2, ih]
theorem ds_cdB {t s : Nat} : ∀ k, k ≤ 10 → 1 ≤ ds_cd t s k ∧ ds_cd t s k ≤ 10 := by
  intro k
  induction k with
  | zero => intro _; exact ⟨Nat.le_refl 1, show 1 ≤ 10 by decide⟩
  | succ k ih =>
    intro hk
    cases k with
    | zero => exact ⟨Nat.le_refl 1, show 1 ≤ 10 by decide⟩
    | succ k =>
      rw [ds_cd]
      split
      · omega
      · exact ih (by omega)
end
section
/-! the component's own methods, each with its value -/
theorem ds_xcon {post : Int32 → Prop} {u : SX} {x : Int32} {v : Nat} (h1 : ds_b x v = true → post 1) (h0 : ds_b x v = false → post 0) : wpX_contains post u x (nI v) := by
  obtain ⟨f1, f2, p, b, m⟩ := u
  exact ⟨fun h => h1 (decide_eq_true h), fun h => h0 (decide_eq_false h)⟩
theorem ds_cell (i j : Nat) : nI i * 10 + nI j = nI (i * 10 + j) := by
  show nI i * nI 10 + nI j = _
  rw [pk_mul, nI_add]
theorem ds_xpc {post : Int32 → Prop} {u : SX} {i j : Nat} (hij : i < j) (hj : j < 10) (h : post (nI (i * 10 + j))) : wpX_pairCell post u (nI i) (nI j) := by
  obtain ⟨f1, f2, p, b, m⟩ := u
  exact br_f (nI_ge hij (by omega)) (by rw [ds_cell]; exact h)
theorem ds_xpc2 {post : Int32 → Prop} {u : SX} {i j : Nat} (hij : j < i) (hi : i < 10) (h : post (nI (j * 10 + i))) : wpX_pairCell post u (nI i) (nI j) := by
  obtain ⟨f1, f2, p, b, m⟩ := u
  exact br_t (nI_le (by omega) (by omega)) (by rw [ds_cell]; exact h)
theorem ds_xlo5 {g : Nat → Nat → Nat} {p b w m : Nat → Int32} (G : ds_G g p b w) {f1 f2 : Int32} {post : Int32 → Prop} {x : Int32} {v : Nat} (hv : v < 10) (hp : post (nI (ds_lo g x v v))) : ∀ d k, k + d = v → wX_weightToLowerVertices_5 post x (nI v) f1 f2 p b m (d + 1) (nI (ds_lo g x v k)) (nI k) := by
  intro d
  induction d with
  | zero =>
    intro k hk
    have e : k = v := hk
    subst e
    exact br_t (nI_le (Nat.le_refl _) (by omega)) hp
  | succ d ih =>
    intro k hk
    have hn := ih (k + 1) (by omega)
    refine br_f (nI_ge (by omega) (by omega)) (ds_xcon (fun hb => br_f ds_n10 (ds_xpc (by omega) hv ⟨vp_in_nI (by omega) (by decide), nm_r ?_ (nm_r (nI_1 k) hn)⟩)) (fun hb => br_t rfl (nm_r (nI_1 k) ?_)))
    · rw [nI_clamp (by omega), G.2.2.2.2 k v (by omega) hv, G.2.1 k v, nI_add, ds_loT hb]
    · rw [ds_loF hb] at hn; exact hn
theorem ds_xlo {g : Nat → Nat → Nat} {p b w m : Nat → Int32} (G : ds_G g p b w) {f1 f2 : Int32} {post : Int32 → Prop} {x : Int32} {v : Nat} (hv : v < 10) (hp : post (nI (ds_lo g x v v))) : wpX_weightToLowerVertices post (f1, f2, p, b, m) x (nI v) :=
  ⟨v + 1, ds_xlo5 G hv hp v 0 (Nat.zero_add v)⟩
theorem ds_xweight4 {g : Nat → Nat → Nat} {p b w m : Nat → Int32} (G : ds_G g p b w) {n : Nat} (hn : n ≤ 10) {f2 : Int32} {post : Int32 → Prop} {x : Int32} (hp : post (nI (ds_wt g x n))) : ∀ d k, k + d = n → wX_weight_4 post x (nI n) f2 p b m (d + 1) (nI (ds_wt g x k)) (nI k) := by
  intro d
  induction d with
  | zero =>
    intro k hk
    have e : k = n := hk
    subst e
    exact br_t (nI_le (Nat.le_refl _) (by omega)) hp
  | succ d ih =>
    intro k hk
    have hx := ih (k + 1) (by omega)
    refine br_f (nI_ge (by omega) (by omega)) (ds_xcon (fun hb => br_f ds_n10 ⟨vp_in_nI (by omega) (by decide), ds_xlo G (by omega) (nm_r ?_ (nm_r (nI_1 k) hx))⟩) (fun hb => br_t rfl (nm_r (nI_1 k) ?_)))
    · rw [nI_clamp (by omega), G.2.2.2.1 k (by omega), nI_add, nI_add, ds_wtT hb, Nat.add_comm (g k k)]
    · rw [ds_wtF hb] at hx; exact hx
theorem ds_xweight {g : Nat → Nat → Nat} {p b w m : Nat → Int32} (G : ds_G g p b w) {n : Nat} (hn : n ≤ 10) {f2 : Int32} {post : Int32 → Prop} {x : Int32} (hp : post (nI (ds_wt g x n))) : wpX_weight post (nI n, f2, p, b, m) x :=
  ⟨n + 1, ds_xweight4 G hn hp n 0 (Nat.zero_add n)⟩
theorem ds_xsize4 {p b m : Nat → Int32} {n : Nat} (hn : n ≤ 10) {f2 : Int32} {post : Int32 → Prop} {x : Int32} (hp : post (nI (ds_sz x n))) : ∀ d k, k + d = n → wX_sizeOf_4 post x (nI n) f2 p b m (d + 1) (nI (ds_sz x k)) (nI k) := by
  intro d
  induction d with
  | zero =>
    intro k hk
    have e : k = n := hk
    subst e
    exact br_t (nI_le (Nat.le_refl _) (by omega)) hp
  | succ d ih =>
    intro k hk
    have hx := ih (k + 1) (by omega)
    refine br_f (nI_ge (by omega) (by omega)) (ds_xcon (fun hb => br_f ds_n10 (nm_r ?_ (nm_r (nI_1 k) hx))) (fun hb => br_t rfl (nm_r (nI_1 k) ?_)))
    · rw [nI_1, ds_szT hb]
    · rw [ds_szF hb] at hx; exact hx
theorem ds_xsize {p b m : Nat → Int32} {n : Nat} (hn : n ≤ 10) {f2 : Int32} {post : Int32 → Prop} {x : Int32} (hp : post (nI (ds_sz x n))) : wpX_sizeOf post (nI n, f2, p, b, m) x :=
  ⟨n + 1, ds_xsize4 hn hp n 0 (Nat.zero_add n)⟩
theorem ds_xallow2 {p b m : Nat → Int32} {n : Nat} (hn : n ≤ 10) {f2 : Int32} {post : Int32 → Prop} {x : Int32} (h1 : ds_A m x n → post 1) (h0 : ¬ ds_A m x n → post 0) : ∀ d k, k + d = n → ds_A m x k → wX_isAllowed_2 post x (nI n) f2 p b m (d + 1) (nI k) := by
  intro d
  induction d with
  | zero =>
    intro k hk hA
    have e : k = n := hk
    subst e
    exact br_t (nI_le (Nat.le_refl _) (by omega)) (h1 hA)
  | succ d ih =>
    intro k hk hA
    have hi : vp_in (nI k) 10 := vp_in_nI (by omega) (by decide)
    have hc : (nI k).toNatClampNeg = k := nI_clamp (by omega)
    refine br_f (nI_ge (by omega) (by omega)) (ds_xcon (fun hb => br_f ds_n10 ⟨hi, ?_⟩) (fun hb => br_t rfl ⟨hi, ?_⟩))
    · rw [hc]
      refine br_c (fun z => h0 (fun hn => hn k (by omega) (by rw [hb]; exact z))) (fun z => nm_r (nI_1 k) (ih (k + 1) (by omega) (lt_s hA (by rw [hb]; exact z))))
    · rw [hc]
      refine br_c (fun z => h0 (fun hn => hn k (by omega) (by rw [hb]; exact z))) (fun z => nm_r (nI_1 k) (ih (k + 1) (by omega) (lt_s hA (by rw [hb]; exact z))))
theorem ds_xallow {p b m : Nat → Int32} {n : Nat} (hn : n ≤ 10) {f2 : Int32} {post : Int32 → Prop} {x : Int32} (h1 : ds_A m x n → post 1) (h0 : ¬ ds_A m x n → post 0) : wpX_isAllowed post (nI n, f2, p, b, m) x :=
  ⟨n + 1, ds_xallow2 hn h1 h0 n 0 (Nat.zero_add n) (fun _ h => absurd h (Nat.not_lt_zero _))⟩
theorem ds_xpin4 {p b m : Nat → Int32} {n : Nat} (hn : n ≤ 10) {f2 : Int32} {post : Int32 → Prop} (hp : post (nI (ds_pin m n))) : ∀ d k, k + d = n → wX_pinnedSet_4 post (nI n) f2 p b m (d + 1) (nI (ds_pin m k)) (nI k) := by
  intro d
  induction d with
  | zero =>
    intro k hk
    have e : k = n := hk
    subst e
    exact br_t (nI_le (Nat.le_refl _) (by omega)) hp
  | succ d ih =>
    intro k hk
    have hx := ih (k + 1) (by omega)
    have hi : vp_in (nI k) 10 := vp_in_nI (by omega) (by decide)
    have hc : (nI k).toNatClampNeg = k := nI_clamp (by omega)
    refine br_f (nI_ge (by omega) (by omega)) ⟨hi, ?_⟩
    rw [hc]
    refine br_c (fun z => nm_r ?_ (nm_r (nI_1 k) hx)) (fun z => nm_r (nI_1 k) ?_)
    · rw [ds_sh k (by omega), ds_or, ds_pin, if_pos z]
    · rw [ds_pin, if_neg z] at hx; exact hx
theorem ds_xpin {p b m : Nat → Int32} {n : Nat} (hn : n ≤ 10) {f2 : Int32} {post : Int32 → Prop} (hp : post (nI (ds_pin m n))) : wpX_pinnedSet post (nI n, f2, p, b, m) :=
  ⟨n + 1, ds_xpin4 hn hp n 0 (Nat.zero_add n)⟩
theorem ds_xcd2 {f1 f2 : Int32} {p b m : Nat → Int32} {t s : Nat} (ht : t < 2 ^ 31) (hs : s < 2 ^ 31) {post : Int32 → Prop} : ∀ k, k < 2 ^ 31 → post (nI (ds_cd t s k)) → wX_commonDivisor_2 post (nI t) (nI s) f1 f2 p b m (k + 1) (nI k) := by
  intro k
  induction k with
  | zero => intro _ hp; exact br_t (nI_le (a := 0) (b := 1) (by decide) (by decide)) hp
  | succ k ih =>
    intro hk hp
    cases k with
    | zero => exact br_t (nI_le (a := 1) (b := 1) (by decide) (by decide)) hp
    | succ k =>
      have h0 : ¬ nI (k + 2) = 0 := nI_ne0 (by omega) hk
      rw [ds_cd] at hp
      refine br_f (nI_ge (a := 1) (b := k + 2) (by omega) hk) ⟨h0, br_c (fun z1 => ⟨h0, br_c (fun z2 => ?_) (fun z2 => nm_r (pk_m1 (k + 1)) (ih (by omega) ?_))⟩) (fun z1 => nm_r (pk_m1 (k + 1)) (ih (by omega) ?_))⟩
      · rw [pk_rem ht (by omega) hk, ← nI_0, nI_eq (Nat.lt_of_le_of_lt (Nat.mod_le _ _) ht) (by decide)] at z1
        rw [pk_rem hs (by omega) hk, ← nI_0, nI_eq (Nat.lt_of_le_of_lt (Nat.mod_le _ _) hs) (by decide)] at z2
        rw [if_pos ⟨z1, z2⟩] at hp
        exact hp
      · rw [pk_rem hs (by omega) hk, ← nI_0, nI_eq (Nat.lt_of_le_of_lt (Nat.mod_le _ _) hs) (by decide)] at z2
        rw [if_neg (fun z => z2 z.2)] at hp
        exact hp
      · rw [pk_rem ht (by omega) hk, ← nI_0, nI_eq (Nat.lt_of_le_of_lt (Nat.mod_le _ _) ht) (by decide)] at z1
        rw [if_neg (fun z => z1 z.1)] at hp
        exact hp
theorem ds_xcd {f1 f2 : Int32} {p b m : Nat → Int32} {t s : Nat} (ht : t < 2 ^ 31) (hs : s < 2 ^ 31) {post : Int32 → Prop} (hp : post (nI (ds_cd t s s))) : wpX_commonDivisor post (f1, f2, p, b, m) (nI t) (nI s) :=
  ⟨s + 1, ds_xcd2 ht hs s hs hp⟩
theorem ds_xex {g : Nat → Nat → Nat} {p b w m : Nat → Int32} (G : ds_G g p b w) {n : Nat} (hn : n ≤ 10) {f2 : Int32} {post : Int32 → Prop} {x c q : Int32} (hp : post (c * nI (ds_wt g x n) - q * nI (ds_sz x n))) : wpX_excessOf post (nI n, f2, p, b, m) x c q := by
  unfold wpX_excessOf
  exact ds_xweight G hn (ds_xsize hn hp)
end
section
/-! the reference's own methods, each with the same value -/
theorem ds_yw15 {g : Nat → Nat → Nat} {p b w m : Nat → Int32} (G : ds_G g p b w) {f1 : Int32} {post : Int32 → Prop} {J : Int32 → Int32 → Prop} {x : Int32} {u c : Nat} (hu : u < 10) (hb : ds_b x u = true) (hp : J (nI (c + ds_lo g x u (u + 1))) (nI (u + 1))) : ∀ d k, k + d = u + 1 → wY_weight_15 post J x (nI u) f1 w m (d + 1) (nI (c + ds_lo g x u k)) (nI k) := by
  intro d
  induction d with
  | zero =>
    intro k hk
    have e : k = u + 1 := hk
    subst e
    exact br_t (nI_lt (by omega) (by omega)) (nm_r (nI_1 u) hp)
  | succ d ih =>
    intro k hk
    have hx := ih (k + 1) (by omega)
    refine br_f (nI_nlt (by omega) (by omega)) (br_t (ds_bT hb) ?_)
    cases hk2 : ds_b x k
    · refine br_f (ds_bF hk2) (nm_r (nI_1 k) ?_)
      rw [ds_loF hk2] at hx; exact hx
    · refine br_t (ds_bT hk2) ?_
      rw [ds_cell]
      refine ⟨vp_in_nI (by omega) (by decide), nm_r ?_ (nm_r (nI_1 k) hx)⟩
      rw [nI_clamp (by omega), G.2.2.1 u k hu (by omega), nI_add, ds_loT hk2, Nat.add_assoc]
theorem ds_yw15F {w m : Nat → Int32} {f1 : Int32} {post : Int32 → Prop} {J : Int32 → Int32 → Prop} {x : Int32} {u : Nat} {y : Int32} (hu : u < 10) (hb : ds_b x u = false) (hp : J y (nI (u + 1))) : ∀ d k, k + d = u + 1 → wY_weight_15 post J x (nI u) f1 w m (d + 1) y (nI k) := by
  intro d
  induction d with
  | zero =>
    intro k hk
    have e : k = u + 1 := hk
    subst e
    exact br_t (nI_lt (by omega) (by omega)) (nm_r (nI_1 u) hp)
  | succ d ih =>
    intro k hk
    exact br_f (nI_nlt (by omega) (by omega)) (br_f (ds_bF hb) (nm_r (nI_1 k) (ih (k + 1) (by omega))))
theorem ds_yweight4 {g : Nat → Nat → Nat} {p b w m : Nat → Int32} (G : ds_G g p b w) {n : Nat} (hn : n ≤ 10) {post : Int32 → Prop} {x : Int32} (hp : post (nI (ds_wt g x n))) : ∀ d k, k + d = n → wY_weight_4 post x (nI n) w m (d + 1) (nI (ds_wt g x k)) (nI k) := by
  intro d
  induction d with
  | zero =>
    intro k hk
    have e : k = n := hk
    subst e
    exact br_t (nI_le (Nat.le_refl _) (by omega)) hp
  | succ d ih =>
    intro k hk
    have hx := ih (k + 1) (by omega)
    refine br_f (nI_ge (by omega) (by omega)) ⟨k + 2, ?_⟩
    cases hb : ds_b x k
    · rw [ds_wtF hb] at hx
      exact ds_yw15F (by omega) hb hx (k + 1) 0 (by omega)
    · rw [ds_wtT hb, ← ds_loT hb] at hx
      exact ds_yw15 G (by omega) hb hx (k + 1) 0 (by omega)
theorem ds_yweight {g : Nat → Nat → Nat} {p b w m : Nat → Int32} (G : ds_G g p b w) {n : Nat} (hn : n ≤ 10) {post : Int32 → Prop} {x : Int32} (hp : post (nI (ds_wt g x n))) : wpY_weight post (nI n, w, m) x :=
  ⟨n + 1, ds_yweight4 G hn hp n 0 (Nat.zero_add n)⟩
theorem ds_ysize4 {w m : Nat → Int32} {n : Nat} (hn : n ≤ 10) {post : Int32 → Prop} {x : Int32} (hp : post (nI (ds_sz x n))) : ∀ d k, k + d = n → wY_size_4 post x (nI n) w m (d + 1) (nI (ds_sz x k)) (nI k) := by
  intro d
  induction d with
  | zero =>
    intro k hk
    have e : k = n := hk
    subst e
    exact br_t (nI_le (Nat.le_refl _) (by omega)) hp
  | succ d ih =>
    intro k hk
    have hx := ih (k + 1) (by omega)
    refine br_f (nI_ge (by omega) (by omega)) (nm_r ?_ (nm_r (nI_1 k) hx))
    cases hb : ds_b x k
    · rw [ds_bF0 hb, ds_szF hb, ← nI_0, nI_add]; rfl
    · rw [ds_bT hb, ds_szT hb, nI_1]
theorem ds_ysize {w m : Nat → Int32} {n : Nat} (hn : n ≤ 10) {post : Int32 → Prop} {x : Int32} (hp : post (nI (ds_sz x n))) : wpY_size post (nI n, w, m) x :=
  ⟨n + 1, ds_ysize4 hn hp n 0 (Nat.zero_add n)⟩
theorem ds_yallow2 {w m : Nat → Int32} {n : Nat} (hn : n ≤ 10) {post : Int32 → Prop} {x : Int32} (h1 : ds_A m x n → post 1) (h0 : ¬ ds_A m x n → post 0) : ∀ d k, k + d = n → ds_A m x k → wY_allowed_2 post x (nI n) w m (d + 1) (nI k) := by
  intro d
  induction d with
  | zero =>
    intro k hk hA
    have e : k = n := hk
    subst e
    exact br_t (nI_le (Nat.le_refl _) (by omega)) (h1 hA)
  | succ d ih =>
    intro k hk hA
    have hi : vp_in (nI k) 10 := vp_in_nI (by omega) (by decide)
    have hc : (nI k).toNatClampNeg = k := nI_clamp (by omega)
    refine br_f (nI_ge (by omega) (by omega)) ?_
    cases hb : ds_b x k
    · refine br_f (ds_bF hb) (br_t rfl (br_t rfl ⟨hi, ?_⟩))
      rw [hc]
      exact br_c (fun z => h0 (fun hn => hn k (by omega) (by rw [hb]; exact z))) (fun z => nm_r (nI_1 k) (ih (k + 1) (by omega) (lt_s hA (by rw [hb]; exact z))))
    · refine br_t (ds_bT hb) (br_f ds_n10 ⟨hi, ?_⟩)
      rw [hc]
      exact br_c (fun z => h0 (fun hn => hn k (by omega) (by rw [hb]; exact z))) (fun z => br_f ds_n10 (nm_r (nI_1 k) (ih (k + 1) (by omega) (lt_s hA (by rw [hb]; exact z)))))
theorem ds_yallow {w m : Nat → Int32} {n : Nat} (hn : n ≤ 10) {post : Int32 → Prop} {x : Int32} (h1 : ds_A m x n → post 1) (h0 : ¬ ds_A m x n → post 0) : wpY_allowed post (nI n, w, m) x :=
  ⟨n + 1, ds_yallow2 hn h1 h0 n 0 (Nat.zero_add n) (fun _ h => absurd h (Nat.not_lt_zero _))⟩
theorem ds_ycd16 {f1 : Int32} {w m : Nat → Int32} {t s : Nat} (ht : t < 2 ^ 31) (hs : s < 2 ^ 31) {post : Int32 → Prop} : ∀ k, k < 2 ^ 31 → post (nI (ds_cd t s k)) → wY_common_16 post (nI t) (nI s) f1 w m (k + 1) (nI k) := by
  intro k
  induction k with
  | zero => intro _ hp; exact br_t (nI_le (a := 0) (b := 1) (by decide) (by decide)) hp
  | succ k ih =>
    intro hk hp
    cases k with
    | zero => exact br_t (nI_le (a := 1) (b := 1) (by decide) (by decide)) hp
    | succ k =>
      have h0 : ¬ nI (k + 2) = 0 := nI_ne0 (by omega) hk
      rw [ds_cd] at hp
      refine br_f (nI_ge (a := 1) (b := k + 2) (by omega) hk) ⟨h0, br_c (fun z1 => ⟨h0, br_c (fun z2 => ?_) (fun z2 => nm_r (pk_m1 (k + 1)) (ih (by omega) ?_))⟩) (fun z1 => nm_r (pk_m1 (k + 1)) (ih (by omega) ?_))⟩
      · rw [pk_rem ht (by omega) hk, ← nI_0, nI_eq (Nat.lt_of_le_of_lt (Nat.mod_le _ _) ht) (by decide)] at z1
        rw [pk_rem hs (by omega) hk, ← nI_0, nI_eq (Nat.lt_of_le_of_lt (Nat.mod_le _ _) hs) (by decide)] at z2
        rw [if_pos ⟨z1, z2⟩] at hp
        exact hp
      · rw [pk_rem hs (by omega) hk, ← nI_0, nI_eq (Nat.lt_of_le_of_lt (Nat.mod_le _ _) hs) (by decide)] at z2
        rw [if_neg (fun z => z2 z.2)] at hp
        exact hp
      · rw [pk_rem ht (by omega) hk, ← nI_0, nI_eq (Nat.lt_of_le_of_lt (Nat.mod_le _ _) ht) (by decide)] at z1
        rw [if_neg (fun z => z1 z.1)] at hp
        exact hp
theorem ds_ycd {g : Nat → Nat → Nat} {p b w m : Nat → Int32} (G : ds_G g p b w) {n : Nat} (hn : n ≤ 10) {post : Int32 → Prop} {x : Int32} (hs : 1 ≤ ds_sz x n) (hp : post (nI (ds_cd (ds_wt g x n) (ds_sz x n) (ds_sz x n)))) : wpY_common post (nI n, w, m) x := by
  unfold wpY_common
  have h1 := ds_szB (x := x) n
  have h2 := ds_wtB (x := x) G.1 n hn
  refine ds_yweight G hn (ds_ysize hn ⟨11, ds_ycd16 (by omega) (by omega) 10 (by decide) ?_⟩)
  have e : ds_cd (ds_wt g x n) (ds_sz x n) 10 = ds_cd (ds_wt g x n) (ds_sz x n) (ds_sz x n) := by
    obtain ⟨e, he⟩ : ∃ e, 10 = ds_sz x n + e := ⟨10 - ds_sz x n, by omega⟩
    have h := ds_cdUp (t := ds_wt g x n) hs e
    rw [← he] at h
    exact h
  rw [e]; exact hp
end
section
/-! the loops over all sets: component and reference in lockstep -/
theorem ds_some9 {g : Nat → Nat → Nat} {p b w m : Nat → Int32} (G : ds_G g p b w) {n N : Nat} (hn : n ≤ 10) (hN : N ≤ 1024) (eN : (1 : Int32) <<< (nI n &&& 31) = nI N) : ∀ d i x1 x2 x3 y2 y3, 1 ≤ i → i + d = N → (x1 = 0 ∨ ((∃ j, 1 ≤ j ∧ j < N ∧ x1 = nI j) ∧ x2 = y2 ∧ x3 = y3)) →
    ∃ r, (r = 0 ∨ ∃ j, 1 ≤ j ∧ j < N ∧ r = nI j) ∧ (∀ post : Int32 → Prop, post r → wX_someDensestSet_9 post (nI n) (nI N) p b m (d + 1) x1 x2 x3 (nI i)) ∧ (∀ post : Int32 → Prop, post r → wY_oneDensest_9 post (nI n) w m (d + 1) x1 y2 y3 (nI i)) := by
  intro d
  induction d with
  | zero =>
    intro i x1 x2 x3 y2 y3 hi0 hi hx
    have e : i = N := hi
    subst e
    have hle : nI i ≤ nI i := nI_le (Nat.le_refl _) (by omega)
    refine ⟨x1, hx.imp id (fun h => h.1), fun post hp => br_t hle hp, fun post hp => br_t (by rw [eN]; exact hle) hp⟩
  | succ d ih =>
    intro i x1 x2 x3 y2 y3 hi0 hi hx
    have hX : ¬ nI N ≤ nI i := nI_ge (by omega) (by omega)
    have hY : ¬ (1 : Int32) <<< (nI n &&& 31) ≤ nI i := by rw [eN]; exact hX
    by_cases A : ds_A m (nI i) n
    · have hnew : ∃ r, (r = 0 ∨ ∃ j, 1 ≤ j ∧ j < N ∧ r = nI j) ∧ (∀ post : Int32 → Prop, post r → wX_someDensestSet_9 post (nI n) (nI N) p b m (d + 1) (nI i) (nI (ds_wt g (nI i) n)) (nI (ds_sz (nI i) n)) (nI (i + 1))) ∧ (∀ post : Int32 → Prop, post r → wY_oneDensest_9 post (nI n) w m (d + 1) (nI i) (nI (ds_wt g (nI i) n)) (nI (ds_sz (nI i) n)) (nI (i + 1))) :=
        ih (i + 1) _ _ _ _ _ (by omega) (by omega) (Or.inr ⟨⟨i, hi0, by omega, rfl⟩, rfl, rfl⟩)
      by_cases z : x1 = 0
      · obtain ⟨r, hr, hx1, hy1⟩ := hnew
        refine ⟨r, hr, fun post hp => br_f hX (ds_xallow hn (fun _ => br_f ds_n10 (ds_xweight G hn (ds_xsize hn (br_t z (nm_r (nI_1 i) (hx1 post hp)))))) (fun h => absurd A h)), fun post hp => br_f hY (ds_yallow hn (fun _ => br_f ds_n10 (ds_yweight G hn (ds_ysize hn (br_t z (nm_r (nI_1 i) (hy1 post hp)))))) (fun h => absurd A h))⟩
      · obtain h | ⟨hj, rfl, rfl⟩ := hx
        · exact absurd h z
        by_cases c : nI (ds_wt g (nI i) n) * x3 ≤ x2 * nI (ds_sz (nI i) n)
        · obtain ⟨r, hr, hx1, hy1⟩ := ih (i + 1) x1 x2 x3 x2 x3 (by omega) (by omega) (Or.inr ⟨hj, rfl, rfl⟩)
          refine ⟨r, hr, fun post hp => br_f hX (ds_xallow hn (fun _ => br_f ds_n10 (ds_xweight G hn (ds_xsize hn (br_f z (br_t c (nm_r (nI_1 i) (hx1 post hp))))))) (fun h => absurd A h)), fun post hp => br_f hY (ds_yallow hn (fun _ => br_f ds_n10 (ds_yweight G hn (ds_ysize hn (br_f z (br_t c (nm_r (nI_1 i) (hy1 post hp))))))) (fun h => absurd A h))⟩
        · obtain ⟨r, hr, hx1, hy1⟩ := hnew
          refine ⟨r, hr, fun post hp => br_f hX (ds_xallow hn (fun _ => br_f ds_n10 (ds_xweight G hn (ds_xsize hn (br_f z (br_f c (nm_r (nI_1 i) (hx1 post hp))))))) (fun h => absurd A h)), fun post hp => br_f hY (ds_yallow hn (fun _ => br_f ds_n10 (ds_yweight G hn (ds_ysize hn (br_f z (br_f c (nm_r (nI_1 i) (hy1 post hp))))))) (fun h => absurd A h))⟩
    · obtain ⟨r, hr, hx1, hy1⟩ := ih (i + 1) x1 x2 x3 y2 y3 (by omega) (by omega) hx
      exact ⟨r, hr, fun post hp => br_f hX (ds_xallow hn (fun h => absurd h A) (fun _ => br_t rfl (nm_r (nI_1 i) (hx1 post hp)))), fun post hp => br_f hY (ds_yallow hn (fun h => absurd h A) (fun _ => br_t rfl (nm_r (nI_1 i) (hy1 post hp))))⟩
theorem ds_some {g : Nat → Nat → Nat} {p b w m : Nat → Int32} (G : ds_G g p b w) {n N : Nat} (hn : n ≤ 10) (h1 : 1 ≤ N) (hN : N ≤ 1024) (eN : (1 : Int32) <<< (nI n &&& 31) = nI N) :
    ∃ r, (r = 0 ∨ ∃ j, 1 ≤ j ∧ j < N ∧ r = nI j) ∧ (∀ post : Int32 → Prop, post r → wpX_someDensestSet post (nI n, nI N, p, b, m)) ∧ (∀ post : Int32 → Prop, post r → wpY_oneDensest post (nI n, w, m)) := by
  obtain ⟨r, hr, hx, hy⟩ := ds_some9 G hn hN eN (N - 1) 1 0 0 0 0 1 (Nat.le_refl 1) (by omega) (Or.inl rfl)
  exact ⟨r, hr, fun post hp => ⟨_, hx post hp⟩, fun post hp => ⟨_, hy post hp⟩⟩
theorem ds_dens23 {g : Nat → Nat → Nat} {p b w m : Nat → Int32} (G : ds_G g p b w) {n N : Nat} (hn : n ≤ 10) (hN : N ≤ 1024) (eN : (1 : Int32) <<< (nI n &&& 31) = nI N) (x2 x3 : Int32) : ∀ d i c, i + d = N →
    ∃ r, (∀ post : Int32 → Prop, post r → wX_densest_23 post x2 x3 (nI n) (nI N) p b m (d + 1) c (nI i)) ∧ (∀ post : Int32 → Prop, post r → wY_densest_23 post x2 x3 (nI n) w m (d + 1) c (nI i)) := by
  intro d
  induction d with
  | zero =>
    intro i c hi
    have e : i = N := hi
    subst e
    have hle : nI i ≤ nI i := nI_le (Nat.le_refl _) (by omega)
    exact ⟨c, fun post hp => br_t hle hp, fun post hp => br_t (by rw [eN]; exact hle) hp⟩
  | succ d ih =>
    intro i c hi
    have hX : ¬ nI N ≤ nI i := nI_ge (by omega) (by omega)
    have hY : ¬ (1 : Int32) <<< (nI n &&& 31) ≤ nI i := by rw [eN]; exact hX
    by_cases A : ds_A m (nI i) n
    · by_cases q : nI (ds_wt g (nI i) n) * x3 = x2 * nI (ds_sz (nI i) n)
      · obtain ⟨r, hx1, hy1⟩ := ih (i + 1) (c ||| nI i) (by omega)
        exact ⟨r, fun post hp => br_f hX (ds_xallow hn (fun _ => br_f ds_n10 (ds_xweight G hn (ds_xsize hn (br_t q (nm_e (nm_r (nI_1 i) (hx1 post hp))))))) (fun h => absurd A h)), fun post hp => br_f hY (ds_yallow hn (fun _ => br_f ds_n10 (ds_yweight G hn (ds_ysize hn (br_t q (nm_e (nm_r (nI_1 i) (hy1 post hp))))))) (fun h => absurd A h))⟩
      · obtain ⟨r, hx1, hy1⟩ := ih (i + 1) c (by omega)
        exact ⟨r, fun post hp => br_f hX (ds_xallow hn (fun _ => br_f ds_n10 (ds_xweight G hn (ds_xsize hn (br_f q (nm_r (nI_1 i) (hx1 post hp)))))) (fun h => absurd A h)), fun post hp => br_f hY (ds_yallow hn (fun _ => br_f ds_n10 (ds_yweight G hn (ds_ysize hn (br_f q (nm_r (nI_1 i) (hy1 post hp)))))) (fun h => absurd A h))⟩
    · obtain ⟨r, hx1, hy1⟩ := ih (i + 1) c (by omega)
      exact ⟨r, fun post hp => br_f hX (ds_xallow hn (fun h => absurd h A) (fun _ => br_t rfl (nm_r (nI_1 i) (hx1 post hp)))), fun post hp => br_f hY (ds_yallow hn (fun h => absurd h A) (fun _ => br_t rfl (nm_r (nI_1 i) (hy1 post hp))))⟩
/-- the value of a set at a gain c and a price q -/
def ds_v (g : Nat → Nat → Nat) (n : Nat) (c q x : Int32) : Int32 := c * nI (ds_wt g x n) - q * nI (ds_sz x n)
theorem ds_exset {g : Nat → Nat → Nat} {p b w m : Nat → Int32} (G : ds_G g p b w) {n N : Nat} (hn : n ≤ 10) (hN : N ≤ 1024) (eN : (1 : Int32) <<< (nI n &&& 31) = nI N) (c q x3 : Int32) : ∀ d i a, i + d = N →
    ∃ r, (∀ post : Int32 → Prop, post r → wX_excessSet_24 post c q x3 (nI n) (nI N) p b m (d + 1) a (nI i)) ∧ (∀ post : Int32 → Prop, post r → wY_excessSet_24 post c q x3 (nI n) w m (d + 1) a (nI i)) := by
  intro d
  induction d with
  | zero =>
    intro i a hi
    have e : i = N := hi
    subst e
    have hle : nI i ≤ nI i := nI_le (Nat.le_refl _) (by omega)
    exact ⟨a, fun post hp => br_t hle hp, fun post hp => br_t (by rw [eN]; exact hle) hp⟩
  | succ d ih =>
    intro i a hi
    have hX : ¬ nI N ≤ nI i := nI_ge (by omega) (by omega)
    have hY : ¬ (1 : Int32) <<< (nI n &&& 31) ≤ nI i := by rw [eN]; exact hX
    by_cases A : ds_A m (nI i) n
    · by_cases z : c * nI (ds_wt g (nI i) n) - q * nI (ds_sz (nI i) n) = x3
      · obtain ⟨r, hx1, hy1⟩ := ih (i + 1) (a ||| nI i) (by omega)
        exact ⟨r, fun post hp => br_f hX (ds_xallow hn (fun _ => br_f ds_n10 (ds_xex G hn (br_t z (nm_e (nm_r (nI_1 i) (hx1 post hp)))))) (fun h => absurd A h)), fun post hp => br_f hY (ds_yallow hn (fun _ => br_f ds_n10 (ds_yweight G hn (ds_ysize hn (nm_e (br_t z (nm_e (nm_r (nI_1 i) (hy1 post hp)))))))) (fun h => absurd A h))⟩
      · obtain ⟨r, hx1, hy1⟩ := ih (i + 1) a (by omega)
        exact ⟨r, fun post hp => br_f hX (ds_xallow hn (fun _ => br_f ds_n10 (ds_xex G hn (br_f z (nm_r (nI_1 i) (hx1 post hp))))) (fun h => absurd A h)), fun post hp => br_f hY (ds_yallow hn (fun _ => br_f ds_n10 (ds_yweight G hn (ds_ysize hn (nm_e (br_f z (nm_r (nI_1 i) (hy1 post hp))))))) (fun h => absurd A h))⟩
    · obtain ⟨r, hx1, hy1⟩ := ih (i + 1) a (by omega)
      exact ⟨r, fun post hp => br_f hX (ds_xallow hn (fun h => absurd h A) (fun _ => br_t rfl (nm_r (nI_1 i) (hx1 post hp)))), fun post hp => br_f hY (ds_yallow hn (fun h => absurd h A) (fun _ => br_t rfl (nm_r (nI_1 i) (hy1 post hp))))⟩
/-- what ties the two greatest values so far: they are one, or the component's is still the pinned set's, and that set is still to come -/
def ds_J (V : Int32) (P i : Nat) (x y : Int32) : Prop := x = y ∨ (y < x ∧ x = V ∧ i ≤ P)
theorem ds_Jn {V x y : Int32} {P i : Nat} (h : ds_J V P i x y) (hne : i ≠ P) : ds_J V P (i + 1) x y :=
  h.imp id (fun h => ⟨h.1, h.2.1, by omega⟩)
theorem ds_J1 {V x y z : Int32} {P i : Nat} (h : ds_J V P i x y) (hz : i = P → z = V) (hx : z ≤ x) (hy : z ≤ y) : ds_J V P (i + 1) x y := by
  obtain h | ⟨h1, h2, h3⟩ := h
  · exact Or.inl h
  · refine Or.inr ⟨h1, h2, ?_⟩
    by_cases e : i = P
    · have e2 := hz e
      rw [e2, ← h2] at hy
      exact absurd h1 (Int32.not_lt.mpr hy)
    · omega
theorem ds_J2 {V x y z : Int32} {P i : Nat} (h : ds_J V P i x y) (hz : i = P → z = V) (hx : z ≤ x) (hy : ¬ z ≤ y) : ds_J V P (i + 1) x z := by
  obtain h | ⟨h1, h2, h3⟩ := h
  · exact absurd (h ▸ hx) hy
  · by_cases e : x = z
    · exact Or.inl e
    · refine Or.inr ⟨?_, h2, ?_⟩
      · rw [Int32.lt_iff_toInt_lt]
        rw [Int32.le_iff_toInt_le] at hx
        have : x.toInt ≠ z.toInt := fun h => e (Int32.toInt_inj.mp h)
        omega
      · have : i ≠ P := fun h => e (h2.trans (hz h).symm)
        omega
theorem ds_J3 {V x y z : Int32} {P i : Nat} (h : ds_J V P i x y) (hx : ¬ z ≤ x) (hy : z ≤ y) : False := by
  obtain h | ⟨h1, h2, h3⟩ := h
  · exact hx (h ▸ hy)
  · rw [Int32.lt_iff_toInt_lt] at h1
    rw [Int32.le_iff_toInt_le] at hx hy
    omega
theorem ds_ex17 {g : Nat → Nat → Nat} {p b w m : Nat → Int32} (G : ds_G g p b w) {n N P : Nat} (hn : n ≤ 10) (hN : N ≤ 1024) (eN : (1 : Int32) <<< (nI n &&& 31) = nI N) (hP : P < N) (hA : ds_A m (nI P) n) (c q : Int32) : ∀ d i x y, i + d = N → ds_J (ds_v g n c q (nI P)) P i x y →
    ∃ r, (∀ post : Int32 → Prop, post r → wX_greatestExcess_17 post c q (nI n) (nI N) p b m (d + 1) x (nI i)) ∧ (∀ post : Int32 → Prop, post r → wY_excess_18 post c q (nI n) w m (d + 1) y (nI i)) := by
  intro d
  induction d with
  | zero =>
    intro i x y hi hJ
    have e : i = N := hi
    subst e
    have hle : nI i ≤ nI i := nI_le (Nat.le_refl _) (by omega)
    have exy : x = y := hJ.elim id (fun h => absurd h.2.2 (by omega))
    subst exy
    exact ⟨x, fun post hp => br_t hle hp, fun post hp => br_t (by rw [eN]; exact hle) hp⟩
  | succ d ih =>
    intro i x y hi hJ
    have hX : ¬ nI N ≤ nI i := nI_ge (by omega) (by omega)
    have hY : ¬ (1 : Int32) <<< (nI n &&& 31) ≤ nI i := by rw [eN]; exact hX
    by_cases A : ds_A m (nI i) n
    · have hz : i = P → ds_v g n c q (nI i) = ds_v g n c q (nI P) := fun e => by rw [e]
      by_cases h1 : ds_v g n c q (nI i) ≤ x
      · by_cases h2 : ds_v g n c q (nI i) ≤ y
        · obtain ⟨r, hx1, hy1⟩ := ih (i + 1) x y (by omega) (ds_J1 hJ hz h1 h2)
          exact ⟨r, fun post hp => br_f hX (ds_xallow hn (fun _ => br_f ds_n10 (ds_xex G hn (br_t h1 (nm_r (nI_1 i) (hx1 post hp))))) (fun h => absurd A h)), fun post hp => br_f hY (ds_yallow hn (fun _ => br_f ds_n10 (ds_yweight G hn (ds_ysize hn (nm_e (br_t h2 (nm_r (nI_1 i) (hy1 post hp))))))) (fun h => absurd A h))⟩
        · obtain ⟨r, hx1, hy1⟩ := ih (i + 1) x (ds_v g n c q (nI i)) (by omega) (ds_J2 hJ hz h1 h2)
          exact ⟨r, fun post hp => br_f hX (ds_xallow hn (fun _ => br_f ds_n10 (ds_xex G hn (br_t h1 (nm_r (nI_1 i) (hx1 post hp))))) (fun h => absurd A h)), fun post hp => br_f hY (ds_yallow hn (fun _ => br_f ds_n10 (ds_yweight G hn (ds_ysize hn (nm_e (br_f h2 (nm_r (nI_1 i) (hy1 post hp))))))) (fun h => absurd A h))⟩
      · by_cases h2 : ds_v g n c q (nI i) ≤ y
        · exact (ds_J3 hJ h1 h2).elim
        · obtain ⟨r, hx1, hy1⟩ := ih (i + 1) (ds_v g n c q (nI i)) (ds_v g n c q (nI i)) (by omega) (Or.inl rfl)
          exact ⟨r, fun post hp => br_f hX (ds_xallow hn (fun _ => br_f ds_n10 (ds_xex G hn (br_f h1 (nm_r (nI_1 i) (hx1 post hp))))) (fun h => absurd A h)), fun post hp => br_f hY (ds_yallow hn (fun _ => br_f ds_n10 (ds_yweight G hn (ds_ysize hn (nm_e (br_f h2 (nm_r (nI_1 i) (hy1 post hp))))))) (fun h => absurd A h))⟩
    · have hne : i ≠ P := fun e => A (by rw [e]; exact hA)
      obtain ⟨r, hx1, hy1⟩ := ih (i + 1) x y (by omega) (ds_Jn hJ hne)
      exact ⟨r, fun post hp => br_f hX (ds_xallow hn (fun h => absurd h A) (fun _ => br_t rfl (nm_r (nI_1 i) (hx1 post hp)))), fun post hp => br_f hY (ds_yallow hn (fun h => absurd h A) (fun _ => br_t rfl (nm_r (nI_1 i) (hy1 post hp))))⟩
theorem ds_vB {g : Nat → Nat → Nat} (hg : ∀ i j, g i j ≤ 20) {n a q : Nat} (hn : n ≤ 10) (ha : a ≤ 20) (hq : q ≤ 2000) (x : Int32) : (-1000000 : Int32) < ds_v g n (nI a) (nI q) x := by
  have h1 := ds_wtB (x := x) hg n hn
  have h2 := ds_szB (x := x) n
  have h3 : a * ds_wt g x n ≤ 20 * 2200 := Nat.mul_le_mul ha (by omega)
  have h4 : q * ds_sz x n ≤ 2000 * 10 := Nat.mul_le_mul hq (by omega)
  unfold ds_v
  rw [pk_mul, pk_mul, Int32.lt_iff_toInt_lt, pk_sub_toInt (by omega) (by omega), show (-1000000 : Int32).toInt = -1000000 from by decide]
  omega
end
