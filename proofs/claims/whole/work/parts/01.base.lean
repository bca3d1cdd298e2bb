theorem pk_us {f : Nat → Int32} {k : Nat} {x : Int32} : upd f k x k = x := if_pos rfl
theorem pk_un {f : Nat → Int32} {k j : Nat} {x : Int32} (h : j ≠ k) : upd f k x j = f j := if_neg h
theorem pk_sub {a b : Nat} (h : b ≤ a) : nI a - nI b = nI (a - b) := by
  obtain ⟨c, rfl⟩ : ∃ c, a = c + b := ⟨a - b, by omega⟩
  rw [← nI_add, Int32.add_sub_cancel, Nat.add_sub_cancel]
theorem pk_m1 (n : Nat) : nI (n + 1) + (-1) = nI n := by
  rw [← nI_1, Int32.add_assoc, show (1 : Int32) + (-1) = 0 from rfl, Int32.add_zero]
theorem pk_mul (a b : Nat) : nI a * nI b = nI (a * b) := (Int32.ofNat_mul a b).symm
theorem pk_div {a d : Nat} (ha : a < 2 ^ 31) (h0 : 0 < d) (hd : d < 2 ^ 31) : nI a / nI d = nI (a / d) := by
  apply Int32.toInt_inj.mp
  rw [lg_idiv_nonneg (by rw [nI_toInt ha]; omega) (by rw [nI_toInt hd]; omega), nI_toInt ha, nI_toInt hd, nI_toInt (Nat.lt_of_le_of_lt (Nat.div_le_self a d) ha)]
  first | rfl | exact (Int.natCast_ediv _ _).symm
theorem pk_rem {a d : Nat} (ha : a < 2 ^ 31) (h0 : 0 < d) (hd : d < 2 ^ 31) : nI a - nI a / nI d * nI d = nI (a % d) := by
  rw [pk_div ha h0 hd, pk_mul, pk_sub (Nat.div_mul_le_self a d)]
  exact congrArg nI (by have := Nat.div_add_mod' a d; omega)
theorem pk_sub_toInt {a b : Nat} (ha : a < 2 ^ 30) (hb : b < 2 ^ 30) : (nI a - nI b).toInt = (a : Int) - b := by
  rw [Int32.toInt_sub, nI_toInt (by omega), nI_toInt (by omega)]
  exact Int.bmod_eq_of_le (by omega) (by omega)
theorem pk_tn {n : Nat} (h : n < 2 ^ 32) : (nI n).toBitVec.toNat = n := Nat.mod_eq_of_lt h
theorem pk_and (x : Int32) {m : Int32} (k : Nat) (hm : m.toBitVec.toNat = 2 ^ k - 1) : x &&& m = nI (x.toBitVec.toNat % 2 ^ k) := by
  apply Int32.toBitVec_inj.mp
  apply BitVec.eq_of_toNat_eq
  rw [Int32.toBitVec_and, BitVec.toNat_and, hm, Nat.and_two_pow_sub_one_eq_mod]
  show _ = (BitVec.ofNat 32 _).toNat
  rw [BitVec.toNat_ofNat]
  exact (Nat.mod_eq_of_lt (Nat.lt_of_le_of_lt (Nat.mod_le _ _) x.toBitVec.isLt)).symm
theorem pk_andN {n : Nat} (h : n < 2 ^ 32) {m : Int32} (k : Nat) (hm : m.toBitVec.toNat = 2 ^ k - 1) : nI n &&& m = nI (n % 2 ^ k) := by
  rw [pk_and _ k hm, pk_tn h]
theorem pk_shl (a s : Int32) (k : Nat) (hs : (s.toBitVec.smod 32).toNat = k) : (a <<< s).toBitVec.toNat = a.toBitVec.toNat * 2 ^ k % 2 ^ 32 := by
  show (a.toBitVec <<< (s.toBitVec.smod 32).toNat).toNat = _
  rw [hs, BitVec.toNat_shiftLeft, Nat.shiftLeft_eq]
theorem pk_shlN {n : Nat} (s : Int32) (k : Nat) (hs : (s.toBitVec.smod 32).toNat = k) (h : n * 2 ^ k < 2 ^ 32) : nI n <<< s = nI (n * 2 ^ k) := by
  apply Int32.toBitVec_inj.mp
  apply BitVec.eq_of_toNat_eq
  have hn : n < 2 ^ 32 := Nat.lt_of_le_of_lt (Nat.le_mul_of_pos_right n (Nat.two_pow_pos k)) h
  rw [pk_shl _ _ k hs, pk_tn hn, pk_tn h, Nat.mod_eq_of_lt h]
theorem pk_shr (a s : Int32) (k : Nat) (hs : (s.toBitVec.smod 32).toNat = k) : (a >>> s).toInt = a.toInt >>> k := by
  show (a.toBitVec.sshiftRight (s.toBitVec.smod 32).toNat).toInt = _
  rw [hs, BitVec.toInt_sshiftRight]
  rfl
theorem pk_shrN {n : Nat} (h : n < 2 ^ 31) (s : Int32) (k : Nat) (hs : (s.toBitVec.smod 32).toNat = k) : nI n >>> s = nI (n / 2 ^ k) := by
  apply Int32.toInt_inj.mp
  have h2 : n / 2 ^ k ≤ n := Nat.div_le_self _ _
  rw [pk_shr _ _ k hs, nI_toInt h, nI_toInt (by omega), Int.shiftRight_eq_div_pow]
  rfl
/-! the pure pictures: bits of a set, the sums over it, what the modes forbid -/
theorem ds_or (a b : Nat) : nI a ||| nI b = nI (a ||| b) := by
  apply Int32.toBitVec_inj.1
  show BitVec.ofNat 32 a ||| BitVec.ofNat 32 b = BitVec.ofNat 32 (a ||| b)
  apply BitVec.eq_of_getLsbD_eq
  intro i hi
  simp [hi]
theorem ds_sm : ∀ n, n < 32 → ((nI n &&& 31).toBitVec.smod 32).toNat = n := by decide +kernel
theorem ds_sh : ∀ n, n < 11 → (1 : Int32) <<< (nI n &&& 31) = nI (2 ^ n) := by decide +kernel
theorem ds_n10 : ¬ (1 : Int32) = 0 := by decide
def ds_b (x : Int32) (v : Nat) : Bool := decide ((x >>> (nI v &&& 31)) &&& 1 = 1)
theorem ds_bT {x : Int32} {v : Nat} (h : ds_b x v = true) : (x >>> (nI v &&& 31)) &&& 1 = 1 := of_decide_eq_true h
theorem ds_bF {x : Int32} {v : Nat} (h : ds_b x v = false) : ¬ (x >>> (nI v &&& 31)) &&& 1 = 1 := of_decide_eq_false h
theorem ds_bF0 {x : Int32} {v : Nat} (h : ds_b x v = false) : (x >>> (nI v &&& 31)) &&& 1 = 0 := by
  have h1 := ds_bF h
  have e := pk_and (x >>> (nI v &&& 31)) (m := 1) 1 (by decide)
  rw [e] at h1 ⊢
  have hl : (x >>> (nI v &&& 31)).toBitVec.toNat % 2 ^ 1 < 2 := Nat.mod_lt _ (by decide)
  generalize (x >>> (nI v &&& 31)).toBitVec.toNat % 2 ^ 1 = q at h1 hl ⊢
  have hq : q = 0 := by
    have : q ≠ 1 := fun z => h1 (by rw [z]; rfl)
    omega
  rw [hq]; exact nI_0
theorem ds_bN {j v : Nat} (hj : j < 2 ^ 31) (hv : v < 32) : ds_b (nI j) v = j.testBit v := by
  unfold ds_b
  rw [pk_shrN hj _ v (ds_sm v hv), pk_andN (Nat.lt_of_le_of_lt (Nat.div_le_self _ _) (by omega)) (m := 1) 1 (by decide), Nat.testBit_eq_decide_div_mod_eq]
  have hl : j / 2 ^ v % 2 ^ 1 < 2 := Nat.mod_lt _ (by decide)
  have e1 : (1 : Int32) = nI 1 := rfl
  rw [e1]
  exact decide_eq_decide.mpr (nI_eq (by omega) (by decide))
def ds_lo (g : Nat → Nat → Nat) (x : Int32) (v : Nat) : Nat → Nat
  | 0 => 0
  | k + 1 => ds_lo g x v k + (if ds_b x k then g v k else 0)
def ds_wt (g : Nat → Nat → Nat) (x : Int32) : Nat → Nat
  | 0 => 0
  | k + 1 => ds_wt g x k + (if ds_b x k then ds_lo g x k k + g k k else 0)
def ds_sz (x : Int32) : Nat → Nat
  | 0 => 0
  | k + 1 => ds_sz x k + (if ds_b x k then 1 else 0)
def ds_A (m : Nat → Int32) (x : Int32) (n : Nat) : Prop := ∀ v, v < n → ¬ m v = (if ds_b x v then 2 else 1)
def ds_G (g : Nat → Nat → Nat) (p b w : Nat → Int32) : Prop :=
  (∀ i j, g i j ≤ 20) ∧ (∀ i j, g i j = g j i) ∧ (∀ i j, i < 10 → j < 10 → w (i * 10 + j) = nI (g i j)) ∧ (∀ i, i < 10 → b i = nI (g i i)) ∧ (∀ i j, i < j → j < 10 → p (i * 10 + j) = nI (g i j))
theorem ds_loT {g : Nat → Nat → Nat} {x : Int32} {v k : Nat} (h : ds_b x k = true) : ds_lo g x v (k + 1) = ds_lo g x v k + g v k := by simp [ds_lo, h]
theorem ds_loF {g : Nat → Nat → Nat} {x : Int32} {v k : Nat} (h : ds_b x k = false) : ds_lo g x v (k + 1) = ds_lo g x v k := by simp [ds_lo, h]
theorem ds_wtT {g : Nat → Nat → Nat} {x : Int32} {k : Nat} (h : ds_b x k = true) : ds_wt g x (k + 1) = ds_wt g x k + (ds_lo g x k k + g k k) := by simp [ds_wt, h]
theorem ds_wtF {g : Nat → Nat → Nat} {x : Int32} {k : Nat} (h : ds_b x k = false) : ds_wt g x (k + 1) = ds_wt g x k := by simp [ds_wt, h]
theorem ds_szT {x : Int32} {k : Nat} (h : ds_b x k = true) : ds_sz x (k + 1) = ds_sz x k + 1 := by simp [ds_sz, h]
theorem ds_szF {x : Int32} {k : Nat} (h : ds_b x k = false) : ds_sz x (k + 1) = ds_sz x k := by simp [ds_sz, h]
theorem ds_loB {g : Nat → Nat → Nat} {x : Int32} (hg : ∀ i j, g i j ≤ 20) (v : Nat) : ∀ k, ds_lo g x v k ≤ 20 * k := by
  intro k
  induction k with
  | zero => exact Nat.le_refl 0
  | succ k ih =>
    have := hg v k
    cases h : ds_b x k
    · rw [ds_loF h]; omega
    · rw [ds_loT h]; omega
theorem ds_wtB {g : Nat → Nat → Nat} {x : Int32} (hg : ∀ i j, g i j ≤ 20) : ∀ k, k ≤ 10 → ds_wt g x k ≤ 220 * k := by
  intro k
  induction k with
  | zero => intro _; exact Nat.le_refl 0
  | succ k ih =>
    intro hk
    have h1 := ih (by omega)
    have h2 := hg k k
    have h3 := ds_loB (x := x) hg k k
    cases h : ds_b x k
    · rw [ds_wtF h]; omega
    · rw [ds_wtT h]; omega
theorem ds_szB {x : Int32} : ∀ k, ds_sz x k ≤ k := by
  intro k
  induction k with
  | zero => exact Nat.le_refl 0
  | succ k ih =>
    cases h : ds_b x k
    · rw [ds_szF h]; omega
    · rw [ds_szT h]; omega
theorem ds_sz1 {x : Int32} {v : Nat} (h : ds_b x v = true) : ∀ k, v < k → 1 ≤ ds_sz x k := by
  intro k
  induction k with
  | zero => intro hk; omega
  | succ k ih =>
    intro hk
    by_cases e : v = k
    · subst e; rw [ds_szT h]; omega
    · have := ih (by omega)
      cases h2 : ds_b x k
      · rw [ds_szF h2]; omega
      · rw [ds_szT h2]; omega
theorem ds_szP {n j : Nat} (hn : n ≤ 10) (h1 : 1 ≤ j) (hj : j < 2 ^ n) : 1 ≤ ds_sz (nI j) n := by
  have hN : 2 ^ n ≤ 2 ^ 10 := Nat.pow_le_pow_right (by decide) hn
  have hj31 : j < 2 ^ 31 := by omega
  by_cases h : ∃ v, v < n ∧ ds_b (nI j) v = true
  · obtain ⟨v, hv, hb⟩ := h
    exact ds_sz1 hb n hv
  · exfalso
    have hz : j = 0 := by
      apply Nat.eq_of_testBit_eq
      intro v
      rw [Nat.zero_testBit]
      by_cases hv : v < n
      · cases hb : ds_b (nI j) v
        · rw [← ds_bN hj31 (by omega)]; exact hb
        · exact absurd ⟨v, hv, hb⟩ h
      · exact Nat.testBit_lt_two_pow (Nat.lt_of_lt_of_le hj (Nat.pow_le_pow_right (by decide) (by omega)))
    omega
/-- the pinned vertices below k, as a number -/
def ds_pin (m : Nat → Int32) : Nat → Nat
  | 0 => 0
  | k + 1 => if m k = 1 then ds_pin m k ||| 2 ^ k else ds_pin m k
theorem ds_pinLt {m : Nat → Int32} : ∀ k, ds_pin m k < 2 ^ k := by
  intro k
  induction k with
  | zero => exact Nat.one_pos
  | succ k ih =>
    have h1 : ds_pin m k < 2 ^ (k + 1) := Nat.lt_of_lt_of_le ih (Nat.pow_le_pow_right (by decide) (by omega))
    unfold ds_pin
    split
    · exact Nat.or_lt_two_pow h1 (Nat.pow_lt_pow_right (by decide) (by omega))
    · exact h1
theorem ds_pinBit {m : Nat → Int32} (v : Nat) : ∀ k, (ds_pin m k).testBit v = (decide (v < k) && decide (m v = 1)) := by
  intro k
  induction k with
  | zero => simp [ds_pin]
  | succ k ih =>
    unfold ds_pin
    split
    case isTrue h =>
      rw [Nat.testBit_or, ih, Nat.testBit_two_pow]
      by_cases e : k = v
      · subst e; simp [h]
      · by_cases l : v < k
        · simp [e, l, show v < k + 1 by omega]
        · simp [e, l, show ¬ v < k + 1 by omega]
    case isFalse h =>
      rw [ih]
      by_cases e : k = v
      · subst e; simp [h]
      · by_cases l : v < k
        · simp [l, show v < k + 1 by omega]
        · simp [l, show ¬ v < k + 1 by omega]
theorem ds_pinA {m : Nat → Int32} {n : Nat} (hn : n ≤ 10) : ds_A m (nI (ds_pin m n)) n := by
  intro v hv
  have hN : 2 ^ n ≤ 2 ^ 10 := Nat.pow_le_pow_right (by decide) hn
  have hp := ds_pinLt (m := m) n
  rw [ds_bN (by omega) (by omega), ds_pinBit]
  by_cases h : m v = 1
  · simp [h, hv]
  · simp [h]
/-- the greatest common divisor from k downwards, as both sides look for it -/
def ds_cd (t s : Nat) : Nat → Nat
  | 0 => 1
  | 1 => 1
  | k + 2 => if t % (k + 2) = 0 ∧ s % (k + 2) = 0 then k + 2 else ds_cd t s (k + 1)
theorem ds_cdUp {t s : Nat} (hs : 1 ≤ s) : ∀ e, ds_cd t s (s + e) = ds_cd t s s := by
  intro e
  induction e with
  | zero => rfl
  | succ e ih =>
    obtain ⟨q, hq⟩ : ∃ q, s + (e + 1) = q + 2 := ⟨s + e - 1, by omega⟩
    have hm : ¬ s % (q + 2) = 0 := by rw [Nat.mod_eq_of_lt (by omega)]; omega
    have e2 : q + 1 = s + e := by omega
    rw [hq, ds_cd, if_neg (fun z => hm z.2), e2, ih]
theorem ds_cdB {t s : Nat} : ∀ k, k ≤ 10 → 1 ≤ ds_cd t s k ∧ ds_cd t s k ≤ 10 := by
  intro k
  induction k with
  | zero => intro _; exact ⟨Nat.le_refl 1, show 1 ≤ 10 by decide⟩
  | succ k ih =>
    intro hk
    cases k with
    | zero => exact ⟨Nat.le_refl 1, show 1 ≤ 10 by decide⟩
    | succ k =>
      rw [ds_cd]
      split
      · omega
      · exact ih (by omega)
