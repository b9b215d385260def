/-! sets of points as numbers -/
theorem mq_bt_n (n : Nat) {i : Nat} (hi : i < 32) : bt (nI n) i = n.testBit i := by
  unfold bt
  show (BitVec.ofNat 32 n).getLsbD i = _
  rw [BitVec.getLsbD_ofNat, decide_eq_true hi, Bool.true_and]
theorem mq_n_or (a b : Nat) : nI a ||| nI b = nI (a ||| b) := by
  apply b_ext
  intro i hi
  rw [b_or, mq_bt_n a hi, mq_bt_n b hi, mq_bt_n _ hi, Nat.testBit_or]
theorem mq_sh1 : ∀ p, p < 8 → (1 : Int32) <<< (nI p &&& 31) = nI (2 ^ p) := by decide +kernel
theorem mq_sh2 : ∀ p, p < 8 → (2 : Int32) <<< (nI p &&& 31) = nI (2 ^ (p + 1)) := by decide +kernel
theorem mq_c255 : ∀ t, t < 256 → ∀ i, i < 8 → (255 - t).testBit i = !t.testBit i := by decide +kernel
theorem mq_hi {s i : Nat} (h : s < 256) (hi : 8 ≤ i) : s.testBit i = false := by
  apply Nat.testBit_lt_two_pow
  have : 2 ^ 8 ≤ 2 ^ i := Nat.pow_le_pow_right (by decide) hi
  omega
theorem mq_p2 : ∀ p, p < 8 → 2 ^ p < 256 := by decide +kernel
theorem mq_an {s t : Nat} (hs : s < 256) (ht : t < 256) : nI s &&& (nI t ^^^ (-1)) = nI (s &&& (255 - t)) := by
  apply b_ext
  intro i hi
  rw [b_and, b_xor, b_m1 i hi, mq_bt_n s hi, mq_bt_n t hi, mq_bt_n _ hi, Nat.testBit_and]
  rcases Nat.lt_or_ge i 8 with z | z
  · rw [mq_c255 t ht i z]
    cases s.testBit i <;> cases t.testBit i <;> rfl
  · rw [mq_hi hs z]; rfl
theorem mq_ext8 {a b : Nat} (ha : a < 256) (hb : b < 256) (h : ∀ i, i < 8 → a.testBit i = b.testBit i) : a = b := by
  apply Nat.eq_of_testBit_eq
  intro i
  rcases Nat.lt_or_ge i 8 with z | z
  · exact h i z
  · rw [mq_hi ha z, mq_hi hb z]
def mq_wo (s p : Nat) : Nat := s &&& (255 - 2 ^ p)
theorem mq_wo_lt {s : Nat} (p : Nat) (h : s < 256) : mq_wo s p < 256 := Nat.lt_of_le_of_lt Nat.and_le_left h
theorem mq_wo_tb (s : Nat) {p i : Nat} (hp : p < 8) (hi : i < 8) : (mq_wo s p).testBit i = mq_rm s.testBit p i := by
  unfold mq_wo mq_rm
  rw [Nat.testBit_and, mq_c255 _ (mq_p2 p hp) i hi, Nat.testBit_two_pow]
  by_cases h : i = p
  · rw [if_pos h, decide_eq_true h.symm]; simp
  · rw [if_neg h, decide_eq_false (fun z => h z.symm)]; simp
theorem mq_wo_n {s p : Nat} (hs : s < 256) (hp : p < 8) : nI s &&& (nI (2 ^ p) ^^^ (-1)) = nI (mq_wo s p) := mq_an hs (mq_p2 p hp)
theorem mq_or_lt {s t : Nat} (hs : s < 256) (ht : t < 256) : s ||| t < 256 := Nat.or_lt_two_pow (n := 8) hs ht
theorem mq_and_lt {s t : Nat} (hs : s < 256) : s &&& t < 256 := Nat.lt_of_le_of_lt Nat.and_le_left hs
theorem mq_xor_lt {s t : Nat} (hs : s < 256) (ht : t < 256) : s ^^^ t < 256 := Nat.xor_lt_two_pow (n := 8) hs ht
theorem mq_hs0 : ∀ s, s < 256 → ∀ p, p < 8 → decide (s &&& 2 ^ p = 0) = !s.testBit p := by decide +kernel
theorem mq_has {s p : Nat} (hs : s < 256) (hp : p < 8) : (nI s &&& nI (2 ^ p)) = 0 ↔ s.testBit p = false := by
  have h := mq_hs0 s hs p hp
  have l : s &&& 2 ^ p < 256 := mq_and_lt hs
  rw [nx_and, ← nI_0, nI_eq (by omega) (by omega)]
  constructor
  · intro z
    rw [decide_eq_true z] at h
    cases hb : s.testBit p
    · rfl
    · rw [hb] at h; exact absurd h (by decide)
  · intro z
    rw [z] at h
    exact of_decide_eq_true h
theorem mq_shb {s p : Nat} (hs : s < 256) (hp : p < 8) : (nI s >>> (nI p &&& 31)) &&& 1 = nI (if s.testBit p = true then 1 else 0) := by
  have l : s / 2 ^ p ≤ s := Nat.div_le_self _ _
  rw [pk_shrN (by omega) _ p (s_l p (by omega)), pk_andN (by omega) 1 (by decide), Nat.testBit_eq_decide_div_mod_eq]
  have h2 : s / 2 ^ p % 2 ^ 1 = 0 ∨ s / 2 ^ p % 2 ^ 1 = 1 := by
    generalize s / 2 ^ p = x
    omega
  rcases h2 with h2 | h2
  · rw [h2]; rfl
  · rw [h2]; rfl
theorem mq_sh1i {s p : Nat} (hs : s < 256) (hp : p < 8) : (nI s >>> (nI p &&& 31)) &&& 1 = 1 ↔ s.testBit p = true := by
  rw [mq_shb hs hp]
  cases s.testBit p
  · exact ⟨fun z => absurd z (by decide), fun z => absurd z (by decide)⟩
  · exact ⟨fun _ => rfl, fun _ => rfl⟩
theorem mq_sh0i {s p : Nat} (hs : s < 256) (hp : p < 8) : (nI s >>> (nI p &&& 31)) &&& 1 = 0 ↔ s.testBit p = false := by
  rw [mq_shb hs hp]
  cases s.testBit p
  · exact ⟨fun _ => rfl, fun _ => rfl⟩
  · exact ⟨fun z => absurd z (by decide), fun z => absurd z (by decide)⟩
theorem mq_3 (p : Nat) : (3 : Int32) * nI p = nI (3 * p) := pk_mul 3 p
theorem mq_atI {c p : Nat} (hc : c < 16777216) (hp : p < 8) : (nI c >>> ((3 : Int32) * nI p &&& 31)) &&& 7 = nI (mq_at c p) := by
  have l : c / 2 ^ (3 * p) ≤ c := Nat.div_le_self _ _
  rw [mq_3, pk_shrN (by omega) _ (3 * p) (s_l (3 * p) (by omega)), pk_andN (by omega) 3 (by decide)]
  rfl
theorem mq_shlI {q p : Nat} (hq : q < 8) (hp : p < 8) : nI q <<< ((3 : Int32) * nI p &&& 31) = nI (q * 2 ^ (3 * p)) := by
  have h : q * 2 ^ (3 * p) ≤ 7 * 2 ^ 21 := Nat.mul_le_mul (by omega) (Nat.pow_le_pow_right (by decide) (by omega))
  rw [mq_3, pk_shlN _ (3 * p) (s_l (3 * p) (by omega)) (by omega)]
def mq_tz (s : Nat) : Nat := mq_lw (255 - s) 8 0
theorem mq_tz_n : ∀ s, s < 256 → 0 < s → nI s &&& (-(nI s)) = nI (2 ^ mq_tz s) ∧ mq_tz s < 8 := by decide +kernel
theorem mq_tz_t {s : Nat} (hs : s < 256) (h0 : 0 < s) : s.testBit (mq_tz s) = true ∧ ∀ i, i < mq_tz s → s.testBit i = false := by
  have h := (mq_tz_n s hs h0).2
  constructor
  · have := mq_lw_s (255 - s) 8 0 (by unfold mq_tz at h; omega)
    have e := mq_c255 s hs _ h
    unfold mq_tz at e ⊢
    rw [this] at e
    cases hb : s.testBit (mq_lw (255 - s) 8 0)
    · rw [hb] at e; exact absurd e (by decide)
    · rfl
  · intro i hi
    have := mq_lw_b (255 - s) 8 0 i (by omega) (by unfold mq_tz at hi; exact hi)
    rw [mq_c255 s hs i (by omega)] at this
    cases hb : s.testBit i
    · rfl
    · rw [hb] at this; exact absurd this (by decide)
theorem mq_nz {s : Nat} (hs : s < 256) : nI s = 0 ↔ ∀ i, i < 8 → s.testBit i = false := by
  rw [← nI_0, nI_eq (by omega) (by omega)]
  constructor
  · intro z i _; rw [z]; exact Nat.zero_testBit i
  · intro z
    exact mq_ext8 hs (by decide) (fun i hi => by rw [z i hi, Nat.zero_testBit])
theorem mq_wo_less : ∀ s, s < 256 → ∀ p, p < 8 → s.testBit p = true → mq_wo s p < s := by decide +kernel
theorem mq_top1 : ∀ t, t < 8 → ∀ s, s < 256 → decide (2 ^ t ≤ s) && decide (s < 2 ^ (t + 1)) = true → s.testBit t = true := by decide +kernel
theorem mq_top2 : ∀ t, t < 8 → ∀ s, s < 256 → s < 2 ^ (t + 1) → ∀ i, i < 8 → t < i → s.testBit i = false := by decide +kernel
theorem mq_top {t : Nat} (ht : t < 8) {s : Nat} (hs : s < 256) (h1 : 2 ^ t ≤ s) (h2 : s < 2 ^ (t + 1)) : s.testBit t = true ∧ ∀ i, i < 8 → t < i → s.testBit i = false :=
  ⟨mq_top1 t ht s hs (by simp [h1, h2]), mq_top2 t ht s hs h2⟩
theorem mq_pw : ∀ p, p < 8 → 2 ^ (p + 1) ≤ 256 ∧ 2 ^ p ≤ 2 ^ (p + 1) := by decide +kernel
def mq_bad (x : Int32) (n : Nat) : Prop := x < 0 ∨ nI n ≤ x
theorem mq_cases (x : Int32) {n : Nat} (hn : n < 2 ^ 31) : mq_bad x n ∨ ∃ j : Nat, j < n ∧ x = nI j := by
  rcases pk_ix x hn with h | h | h
  · exact Or.inl (Or.inl h)
  · exact Or.inl (Or.inr h)
  · exact Or.inr h
def mq_G (g : Nat → Nat) (p q : Nat) : Bool := (g p).testBit q
def mq_St (a : Nat → Int32) (g : Nat → Nat) : Prop := ∀ p, p < 8 → a p = nI (g p) ∧ g p < 256
def mq_Pt (g : Nat → Nat) (a : Nat → Int32) (mm : Nat → Nat) : Prop := ∀ s, s < 256 → a s = nI (mm s) ∧ mq_M (mq_G g) s.testBit (mm s)
