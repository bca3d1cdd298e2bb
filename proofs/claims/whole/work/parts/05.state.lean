/-! which arguments are refused, and what edge and bonus do to the pictures -/
def ds_V (n : Nat) (x : Int32) : Prop := ∃ j, j < n ∧ x = nI j
def ds_R (K : Nat) (x : Int32) : Prop := ∃ q, q ≤ K ∧ x = nI q
def ds_P (x y : Int32) : Prop := ∃ a q, 1 ≤ a ∧ a ≤ 20 ∧ q ≤ 2000 ∧ x = nI a ∧ y = nI q
theorem ds_xisv {p b m : Nat → Int32} {f2 : Int32} {n : Nat} (hn : n ≤ 10) {post : Int32 → Prop} {x : Int32} (h1 : ds_V n x → post 1) (h0 : ¬ ds_V n x → post 0) : wpX_isVertex post (nI n, f2, p, b, m) x := by
  refine br_c (fun z => h0 ?_) (fun z => br_c (fun z2 => h0 ?_) (fun z2 => h1 ?_))
  · intro ⟨j, hj, e⟩
    subst e
    exact nI_pos (by omega) z
  · intro ⟨j, hj, e⟩
    subst e
    exact nI_ge hj (by omega) z2
  · obtain ⟨j, hj, e⟩ := nI_of z
    subst e
    refine ⟨j, ?_, rfl⟩
    rw [nI_leI (by omega) hj] at z2
    omega
theorem ds_ybad {w m : Nat → Int32} {n : Nat} (hn : n ≤ 10) {post : Int32 → Prop} {x : Int32} (h1 : ds_V n x → post 0) (h0 : ¬ ds_V n x → post 1) : wpY_bad post (nI n, w, m) x := by
  refine br_c (fun z => h0 ?_) (fun z => br_c (fun z2 => h1 ?_) (fun z2 => h0 ?_))
  · intro ⟨j, hj, e⟩
    subst e
    exact nI_pos (by omega) z
  · obtain ⟨j, hj, e⟩ := nI_of z
    subst e
    refine ⟨j, ?_, rfl⟩
    rw [nI_ltI hj (by omega)] at z2
    omega
  · intro ⟨j, hj, e⟩
    subst e
    exact z2 (nI_lt hj (by omega))
theorem ds_xisw {u : SX} {post : Int32 → Prop} {x : Int32} (h1 : ds_R 20 x → post 1) (h0 : ¬ ds_R 20 x → post 0) : wpX_isWeight post u x := by
  obtain ⟨f1, f2, p, b, m⟩ := u
  refine br_c (fun z => h0 ?_) (fun z => br_c (fun z2 => h0 ?_) (fun z2 => h1 ?_))
  · intro ⟨j, hj, e⟩
    subst e
    exact nI_pos (by omega) z
  · intro ⟨j, hj, e⟩
    subst e
    exact nI_nlt hj (by decide) z2
  · exact nI_of2 (M := 20) (n := 20) (by decide) z (Int32.not_lt.mp z2)
theorem ds_rng (K : Nat) (hK : K < 2 ^ 31) {A B : Prop} {x : Int32} (h1 : ds_R K x → A) (h0 : ¬ ds_R K x → B) : (x < 0 → B) ∧ (¬ x < 0 → ((x ≤ nI K → A) ∧ (¬ x ≤ nI K → B))) := by
  refine br_c (fun z => h0 ?_) (fun z => br_c (fun z2 => h1 ?_) (fun z2 => h0 ?_))
  · intro ⟨j, hj, e⟩
    subst e
    exact nI_pos (by omega) z
  · exact nI_of2 (nI_toInt hK) z z2
  · intro ⟨j, hj, e⟩
    subst e
    exact z2 (nI_le hj hK)
theorem ds_pOf {x y : Int32} (h1 : ¬ x < 1) (h2 : x ≤ 20) (h3 : ¬ y < 0) (h4 : y ≤ 2000) : ds_P x y := by
  have h0 : ¬ x < 0 := by
    rw [Int32.lt_iff_toInt_lt] at h1 ⊢
    rw [show (1 : Int32).toInt = 1 from by decide] at h1
    rw [show (0 : Int32).toInt = 0 from by decide]
    omega
  obtain ⟨a, ha, e⟩ := nI_of2 (M := 20) (n := 20) (by decide) h0 h2
  obtain ⟨q, hq, e2⟩ := nI_of2 (M := 2000) (n := 2000) (by decide) h3 h4
  subst e
  refine ⟨a, q, ?_, ha, hq, rfl, e2⟩
  have h : ¬ a < 1 := fun z => h1 (nI_lt z (by decide))
  omega
theorem ds_pNo {x y : Int32} (h : ds_P x y) : ¬ x < 1 ∧ ¬ 20 < x ∧ ¬ y < 0 ∧ ¬ 2000 < y := by
  obtain ⟨a, q, h1, h2, h3, rfl, rfl⟩ := h
  exact ⟨nI_nlt h1 (by omega), nI_nlt h2 (by decide), nI_pos (by omega), nI_nlt h3 (by decide)⟩
theorem ds_xgp {u : SX} {post : Int32 → Prop} {x y : Int32} (h1 : ds_P x y → post 1) (h0 : ¬ ds_P x y → post 0) : wpX_isGainAndPrice post u x y := by
  obtain ⟨f1, f2, p, b, m⟩ := u
  exact br_c (fun z => h0 (fun h => (ds_pNo h).1 z)) (fun z1 => br_c (fun z => h0 (fun h => (ds_pNo h).2.1 z)) (fun z2 => br_c (fun z => h0 (fun h => (ds_pNo h).2.2.1 z)) (fun z3 => br_c (fun z => h0 (fun h => (ds_pNo h).2.2.2 z)) (fun z4 => h1 (ds_pOf z1 (Int32.not_lt.mp z2) z3 (Int32.not_lt.mp z4))))))
theorem ds_ygp {v : SY} {post : Int32 → Prop} {x y : Int32} (h1 : ds_P x y → post 0) (h0 : ¬ ds_P x y → post 1) : wpY_badPrice post v x y := by
  obtain ⟨f1, w, m⟩ := v
  exact br_c (fun z => h0 (fun h => (ds_pNo h).1 z)) (fun z1 => br_c (fun z => h0 (fun h => (ds_pNo h).2.1 z)) (fun z2 => br_c (fun z => h0 (fun h => (ds_pNo h).2.2.1 z)) (fun z3 => br_c (fun z4 => h1 (ds_pOf z1 (Int32.not_lt.mp z2) z3 z4)) (fun z => h0 (fun h => z (Int32.not_lt.mp (ds_pNo h).2.2.2))))))
theorem ds_G0 : ds_G (fun _ _ => 0) (fun _ => 0) (fun _ => 0) (fun _ => 0) :=
  ⟨fun _ _ => Nat.zero_le _, fun _ _ => rfl, fun _ _ _ _ => rfl, fun _ _ => rfl, fun _ _ _ _ => rfl⟩
theorem ds_Gb {g : Nat → Nat → Nat} {p b w : Nat → Int32} (G : ds_G g p b w) {i q : Nat} (hi : i < 10) (hq : q ≤ 20) : ds_G (fun a c => if a = i ∧ c = i then q else g a c) p (upd b i (nI q)) (upd w (i * 10 + i) (nI q)) := by
  obtain ⟨g1, g2, g3, g4, g5⟩ := G
  refine ⟨?_, ?_, ?_, ?_, ?_⟩
  · intro a c
    dsimp only
    split
    · exact hq
    · exact g1 a c
  · intro a c
    dsimp only
    by_cases h : a = i ∧ c = i
    · rw [if_pos h, if_pos ⟨h.2, h.1⟩]
    · rw [if_neg h, if_neg (fun z => h ⟨z.2, z.1⟩)]; exact g2 a c
  · intro a c ha hc
    dsimp only
    by_cases h : a = i ∧ c = i
    · obtain ⟨rfl, rfl⟩ := h
      rw [if_pos ⟨rfl, rfl⟩, pk_us]
    · rw [if_neg h, pk_un (by omega)]; exact g3 a c ha hc
  · intro a ha
    dsimp only
    by_cases h : a = i
    · subst h
      rw [if_pos ⟨rfl, rfl⟩, pk_us]
    · rw [if_neg (fun z => h z.1), pk_un h]; exact g4 a ha
  · intro a c hac hc
    dsimp only
    rw [if_neg (by omega)]
    exact g5 a c hac hc
theorem ds_Ge {g : Nat → Nat → Nat} {p b w : Nat → Int32} (G : ds_G g p b w) {i j q : Nat} (hi : i < j) (hj : j < 10) (hq : q ≤ 20) : ds_G (fun a c => if (a = i ∧ c = j) ∨ (a = j ∧ c = i) then q else g a c) (upd p (i * 10 + j) (nI q)) b (upd (upd w (i * 10 + j) (nI q)) (j * 10 + i) (nI q)) := by
  obtain ⟨g1, g2, g3, g4, g5⟩ := G
  refine ⟨?_, ?_, ?_, ?_, ?_⟩
  · intro a c
    dsimp only
    split
    · exact hq
    · exact g1 a c
  · intro a c
    dsimp only
    by_cases h : (a = i ∧ c = j) ∨ (a = j ∧ c = i)
    · rw [if_pos h, if_pos (by omega)]
    · rw [if_neg h, if_neg (by omega)]; exact g2 a c
  · intro a c ha hc
    dsimp only
    by_cases h2 : a = j ∧ c = i
    · obtain ⟨rfl, rfl⟩ := h2
      rw [if_pos (Or.inr ⟨rfl, rfl⟩), pk_us]
    · rw [pk_un (k := j * 10 + i) (by omega)]
      by_cases h1 : a = i ∧ c = j
      · obtain ⟨rfl, rfl⟩ := h1
        rw [if_pos (Or.inl ⟨rfl, rfl⟩), pk_us]
      · rw [if_neg (by omega), pk_un (by omega)]; exact g3 a c ha hc
  · intro a ha
    dsimp only
    rw [if_neg (by omega)]; exact g4 a ha
  · intro a c hac hc
    dsimp only
    by_cases h1 : a = i ∧ c = j
    · obtain ⟨rfl, rfl⟩ := h1
      rw [if_pos (Or.inl ⟨rfl, rfl⟩), pk_us]
    · rw [if_neg (by omega), pk_un (by omega)]; exact g5 a c hac hc
/-- the two stores of a pair's weight commute -/
theorem ds_uc {w : Nat → Int32} {a c : Nat} {z : Int32} : upd (upd w a z) c z = upd (upd w c z) a z := by
  funext k
  unfold upd
  split
  · split <;> rfl
  · rfl
theorem ds_ge {g : Nat → Nat → Nat} {p b w m : Nat → Int32} (G : ds_G g p b w) {n a q : Nat} (hn : n ≤ 10) (h1 : 1 ≤ a) (ha : a ≤ 20) (hq : q ≤ 2000) :
    ∃ r, (∀ post : Int32 → Prop, post r → wpX_greatestExcess post (nI n, nI (2 ^ n), p, b, m) (nI a) (nI q)) ∧ (∀ post : Int32 → Prop, post r → wpY_excess post (nI n, w, m) (nI a) (nI q)) := by
  have hN : 2 ^ n ≤ 2 ^ 10 := Nat.pow_le_pow_right (by decide) hn
  obtain ⟨r, hx, hy⟩ := ds_ex17 G hn hN (ds_sh n (by omega)) (ds_pinLt (m := m) n) (ds_pinA (m := m) hn) (nI a) (nI q) (2 ^ n) 0 (ds_v g n (nI a) (nI q) (nI (ds_pin m n))) (-1000000) (Nat.zero_add _) (Or.inr ⟨ds_vB G.1 hn ha hq _, rfl, Nat.zero_le _⟩)
  refine ⟨r, fun post hp => ?_, fun post hp => ?_⟩
  · unfold wpX_greatestExcess
    exact ds_xpin hn (ds_xex G hn ⟨_, hx post hp⟩)
  · unfold wpY_excess
    exact ds_ygp (fun _ => br_t rfl ⟨_, hy post hp⟩) (fun h => absurd ⟨a, q, h1, ha, hq, rfl, rfl⟩ h)
