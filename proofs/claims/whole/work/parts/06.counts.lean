/-! greatest pairings over the table -/
theorem mq_ex_T {G : Nat → Nat → Bool} {S : Nat → Bool} {m p q : Nat} (hp : p < 8) : (∃ f, mq_Inv f ∧ mq_Ok G S f ∧ mq_cn f = 2 * m ∧ f p = q) ↔ ∃ n, n < 764 ∧ mq_Ok G S (mq_at (mq_T n)) ∧ mq_cn (mq_at (mq_T n)) = 2 * m ∧ mq_at (mq_T n) p = q := by
  constructor
  · rintro ⟨f, a, b, c, d⟩
    obtain ⟨n, hn, h⟩ := mq_T_all a
    exact ⟨n, hn, mq_Ok_congr (fun i hi => (h i hi).symm) b, by rw [mq_cn_congr h]; exact c, by rw [h p hp]; exact d⟩
  · rintro ⟨n, hn, b, c, d⟩
    exact ⟨_, mq_T_inv hn, b, c, d⟩
theorem mq_M_T {G : Nat → Nat → Bool} {S : Nat → Bool} {m : Nat} (w : m = 0 ∨ ∃ n, n < 764 ∧ mq_Ok G S (mq_at (mq_T n)) ∧ mq_cn (mq_at (mq_T n)) = 2 * m) (u : ∀ n, n < 764 → mq_Ok G S (mq_at (mq_T n)) → mq_cn (mq_at (mq_T n)) ≤ 2 * m) : mq_M G S m := by
  refine ⟨?_, fun f a b => ?_⟩
  · rcases w with w | ⟨n, hn, b, c⟩
    · exact ⟨fun p => p, mq_Inv_id, mq_Ok_id, by rw [mq_cn_id, w]⟩
    · exact ⟨_, mq_T_inv hn, b, c⟩
  · obtain ⟨n, hn, h⟩ := mq_T_all a
    rw [← mq_cn_congr h]
    exact u n hn (mq_Ok_congr (fun i hi => (h i hi).symm) b)
/-- the pairing n of the table is a greatest one -/
noncomputable def mq_gb (G : Nat → Nat → Bool) (m n : Nat) : Bool := @decide (mq_Ok G (fun _ => true) (mq_at (mq_T n)) ∧ mq_cn (mq_at (mq_T n)) = 2 * m) (Classical.propDecidable _)
theorem mq_gb_of {G : Nat → Nat → Bool} {m n : Nat} (h : mq_Ok G (fun _ => true) (mq_at (mq_T n)) ∧ mq_cn (mq_at (mq_T n)) = 2 * m) : mq_gb G m n = true := @decide_eq_true _ (Classical.propDecidable _) h
theorem mq_gb_to {G : Nat → Nat → Bool} {m n : Nat} (h : mq_gb G m n = true) : mq_Ok G (fun _ => true) (mq_at (mq_T n)) ∧ mq_cn (mq_at (mq_T n)) = 2 * m := @of_decide_eq_true _ (Classical.propDecidable _) h
theorem mq_gb_no {G : Nat → Nat → Bool} {m n : Nat} (h : ¬ (mq_Ok G (fun _ => true) (mq_at (mq_T n)) ∧ mq_cn (mq_at (mq_T n)) = 2 * m)) : mq_gb G m n = false := @decide_eq_false _ (Classical.propDecidable _) h
theorem mq_gb_ex {G : Nat → Nat → Bool} {m : Nat} (h : mq_M G (fun _ => true) m) : ∃ n, n < 764 ∧ mq_gb G m n = true := by
  obtain ⟨f, a, b, c⟩ := h.1
  obtain ⟨n, hn, h⟩ := mq_T_all a
  exact ⟨n, hn, mq_gb_of ⟨mq_Ok_congr (fun i hi => (h i hi).symm) b, by rw [mq_cn_congr h]; exact c⟩⟩
theorem mq_pairT {G : Nat → Nat → Bool} (hG : mq_Gr G) {p q m m' : Nat} (hp : p < 8) (hq : q < 8) (g : G p q = true) (h : mq_M G (fun _ => true) m) (h' : mq_M G (mq_rm (mq_rm (fun _ => true) p) q) m') :
    1 + m' = m ↔ ∃ n, n < 764 ∧ mq_gb G m n = true ∧ mq_at (mq_T n) p = q := by
  rw [(mq_M_pair hG hp hq g rfl rfl h h').2, mq_ex_T hp]
  constructor
  · rintro ⟨n, hn, a, b, c⟩; exact ⟨n, hn, mq_gb_of ⟨a, b⟩, c⟩
  · rintro ⟨n, hn, a, c⟩; exact ⟨n, hn, (mq_gb_to a).1, (mq_gb_to a).2, c⟩
theorem mq_outT {G : Nat → Nat → Bool} {p m m' : Nat} (hp : p < 8) (h : mq_M G (fun _ => true) m) (h' : mq_M G (mq_rm (fun _ => true) p) m') :
    m' = m ↔ ∃ n, n < 764 ∧ mq_gb G m n = true ∧ mq_at (mq_T n) p = p := by
  rw [(mq_M_out hp h h').2, mq_ex_T hp]
  constructor
  · rintro ⟨n, hn, a, b, c⟩; exact ⟨n, hn, mq_gb_of ⟨a, b⟩, c⟩
  · rintro ⟨n, hn, a, c⟩; exact ⟨n, hn, (mq_gb_to a).1, (mq_gb_to a).2, c⟩
theorem mq_FstT {G : Nat → Nat → Bool} {m n0 : Nat} (hn : n0 < 764) (h : mq_M G (fun _ => true) m) (g : mq_gb G m n0 = true) (l : ∀ n, n < n0 → mq_gb G m n = false) : mq_Fst G (mq_at (mq_T n0)) m := by
  refine ⟨mq_T_inv hn, (mq_gb_to g).1, (mq_gb_to g).2, h, fun f a b c y => ?_⟩
  obtain ⟨n, hn', e⟩ := mq_T_all a
  have gn : mq_gb G m n = true := mq_gb_of ⟨mq_Ok_congr (fun i hi => (e i hi).symm) b, by rw [mq_cn_congr e]; exact c⟩
  rw [← mq_ky_congr e] at y
  rcases Nat.lt_trichotomy n n0 with z | z | z
  · rw [l n z] at gn; exact absurd gn (by decide)
  · rw [z] at y; exact absurd y (Nat.lt_irrefl _)
  · have := mq_T_mono n z hn'
    omega
/-! counting -/
theorem mq_ct_pos {b : Nat → Bool} {N : Nat} : 0 < mq_ct b N ↔ ∃ n, n < N ∧ b n = true := by
  constructor
  · intro h
    apply Classical.byContradiction
    intro z
    have := mq_ct_ff b N (fun i hi => mq_bt (fun w => z ⟨i, hi, w⟩))
    omega
  · rintro ⟨n, hn, h⟩
    have := mq_ct_lt (b := fun _ => false) (c := b) N hn rfl h (fun _ _ z => absurd z (by decide))
    omega
theorem mq_ct_eq {h g : Nat → Bool} {N : Nat} : mq_ct (fun n => h n && g n) N = mq_ct g N ↔ ∀ n, n < N → g n = true → h n = true := by
  constructor
  · intro e n hn gn
    apply mq_bf
    intro z
    have := mq_ct_lt (b := fun n => h n && g n) (c := g) N hn (by show (h n && g n) = false; rw [z]; rfl) gn (fun i _ w => by
      have w' : (h i && g i) = true := w
      simp only [Bool.and_eq_true] at w'
      exact w'.2)
    omega
  · intro e
    refine mq_ct_congr N (fun i hi => ?_)
    show (h i && g i) = g i
    cases gi : g i
    · simp
    · rw [e i hi gi]; rfl
/-! what is missing -/
def mq_lk (G : Nat → Nat → Bool) (f : Nat → Nat) : Nat → Nat
  | 0 => 0
  | p + 1 => mq_lk G f p + (if f p = p then 100 else if G p (f p) = true then 0 else 1)
theorem mq_lk_le (G : Nat → Nat → Bool) (f : Nat → Nat) : ∀ n, mq_lk G f n ≤ 100 * n := by
  intro n
  induction n with
  | zero => exact Nat.le_refl 0
  | succ n ih =>
    simp only [mq_lk]
    by_cases a : f n = n
    · rw [if_pos a]; omega
    · rw [if_neg a]
      by_cases b : G n (f n) = true
      · rw [if_pos b]; omega
      · rw [if_neg b]; omega
theorem mq_lk_full {G : Nat → Nat → Bool} {f : Nat → Nat} : ∀ n, (∀ i, i < n → f i ≠ i) → mq_lk G f n = mq_ct (fun p => !G p (f p)) n := by
  intro n
  induction n with
  | zero => intro _; rfl
  | succ n ih =>
    intro h
    simp only [mq_lk]
    rw [ih (fun i hi => h i (by omega)), if_neg (h n (by omega))]
    cases hg : G n (f n)
    · rw [mq_ct_t (b := fun p => !G p (f p)) (by show (!G n (f n)) = true; rw [hg]; rfl)]
      rfl
    · rw [mq_ct_f (b := fun p => !G p (f p)) (by show (!G n (f n)) = false; rw [hg]; rfl)]
      rfl
theorem mq_lk_big {G : Nat → Nat → Bool} {f : Nat → Nat} : ∀ n i, i < n → f i = i → 100 ≤ mq_lk G f n := by
  intro n
  induction n with
  | zero => intro i h; omega
  | succ n ih =>
    intro i h e
    simp only [mq_lk]
    rcases Nat.lt_or_ge i n with z | z
    · have := ih i z e
      omega
    · have y : i = n := by omega
      rw [y] at e
      rw [if_pos e]
      omega
theorem mq_miss {G : Nat → Nat → Bool} (hG : mq_Gr G) {m L : Nat} (h : mq_M G (fun _ => true) m) (w : L = 100 ∨ ∃ n, n < 764 ∧ L = mq_lk G (mq_at (mq_T n)) 8) (u : ∀ n, n < 764 → L ≤ mq_lk G (mq_at (mq_T n)) 8) : L = 8 - 2 * m := by
  obtain ⟨f, a, b, c⟩ := mq_lack_ex h
  obtain ⟨n, hn, e⟩ := mq_T_all a
  have nf : ∀ i, i < 8 → mq_at (mq_T n) i ≠ i := fun i hi => by rw [e i hi]; exact b i hi
  have l := u n hn
  rw [mq_lk_full 8 nf] at l
  have e2 : mq_ct (fun p => !G p (mq_at (mq_T n) p)) 8 = mq_ct (fun p => !G p (f p)) 8 := mq_ct_congr 8 (fun i hi => by
    show (!G i (mq_at (mq_T n) i)) = !G i (f i)
    rw [e i hi])
  have m4 := mq_M_le4 h
  rcases w with w | ⟨n', hn', w⟩
  · omega
  · have full : ∀ i, i < 8 → mq_at (mq_T n') i ≠ i := by
      intro i hi z
      have := mq_lk_big (G := G) (f := mq_at (mq_T n')) 8 i hi z
      omega
    have g := mq_lack_ge hG h (mq_T_inv hn') full
    rw [mq_lk_full 8 full] at w
    omega
