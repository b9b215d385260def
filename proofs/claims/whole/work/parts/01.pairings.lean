/-! counting, involutions, greatest pairings -/
def mq_ct (b : Nat → Bool) : Nat → Nat
  | 0 => 0
  | n + 1 => mq_ct b n + (if b n = true then 1 else 0)
theorem mq_ct_t {b : Nat → Bool} {n : Nat} (h : b n = true) : mq_ct b (n + 1) = mq_ct b n + 1 := by
  show mq_ct b n + (if b n = true then 1 else 0) = mq_ct b n + 1
  rw [if_pos h]
theorem mq_ct_f {b : Nat → Bool} {n : Nat} (h : b n = false) : mq_ct b (n + 1) = mq_ct b n := by
  show mq_ct b n + (if b n = true then 1 else 0) = mq_ct b n
  rw [if_neg (by rw [h]; decide)]
  rfl
theorem mq_ct_le (b : Nat → Bool) : ∀ n, mq_ct b n ≤ n := by
  intro n
  induction n with
  | zero => exact Nat.le_refl 0
  | succ n ih =>
    simp only [mq_ct]
    by_cases h : b n = true
    · rw [if_pos h]; omega
    · rw [if_neg h]; omega
theorem mq_ct_congr {b c : Nat → Bool} : ∀ n, (∀ i, i < n → b i = c i) → mq_ct b n = mq_ct c n := by
  intro n
  induction n with
  | zero => intro _; rfl
  | succ n ih =>
    intro h
    simp only [mq_ct]
    rw [ih (fun i hi => h i (by omega)), h n (by omega)]
theorem mq_ct_mono {b c : Nat → Bool} : ∀ n, (∀ i, i < n → b i = true → c i = true) → mq_ct b n ≤ mq_ct c n := by
  intro n
  induction n with
  | zero => intro _; exact Nat.le_refl 0
  | succ n ih =>
    intro h
    have h1 := ih (fun i hi => h i (by omega))
    simp only [mq_ct]
    by_cases hb : b n = true
    · rw [if_pos hb, if_pos (h n (by omega) hb)]; omega
    · rw [if_neg hb]; exact Nat.le_trans h1 (Nat.le_add_right _ _)
theorem mq_ct_one {b c : Nat → Bool} {p : Nat} : ∀ n, p < n → b p = false → c p = true → (∀ i, i < n → i ≠ p → c i = b i) → mq_ct c n = mq_ct b n + 1 := by
  intro n
  induction n with
  | zero => intro h; omega
  | succ n ih =>
    intro hp hb hc h
    simp only [mq_ct]
    rcases Nat.lt_or_ge p n with z | z
    · rw [ih z hb hc (fun i hi => h i (by omega)), h n (by omega) (by omega)]
      exact Nat.add_right_comm _ _ _
    · have e1 : mq_ct c n = mq_ct b n := mq_ct_congr n (fun i hi => h i (by omega) (by omega))
      have e : n = p := by omega
      have hb' : b n = false := by rw [e]; exact hb
      have hc' : c n = true := by rw [e]; exact hc
      rw [e1, hb', hc']
      rfl
theorem mq_ct_sum (b : Nat → Bool) : ∀ n, mq_ct b n + mq_ct (fun i => !b i) n = n := by
  intro n
  induction n with
  | zero => rfl
  | succ n ih =>
    by_cases h : b n = true
    · rw [mq_ct_t h, mq_ct_f (b := fun i => !b i) (by show (!b n) = false; rw [h]; rfl)]
      omega
    · have h' : b n = false := by
        cases e : b n
        · rfl
        · exact absurd e h
      rw [mq_ct_f h', mq_ct_t (b := fun i => !b i) (by show (!b n) = true; rw [h']; rfl)]
      omega
theorem mq_ct_lt {b c : Nat → Bool} {p : Nat} (n : Nat) (hp : p < n) (hb : b p = false) (hc : c p = true) (h : ∀ i, i < n → b i = true → c i = true) : mq_ct b n + 1 ≤ mq_ct c n := by
  have e := mq_ct_one (b := b) (c := fun i => if i = p then true else b i) n hp hb (if_pos rfl) (fun i _ hi => if_neg hi)
  rw [← e]
  refine mq_ct_mono n ?_
  intro i hi z
  by_cases a : i = p
  · rw [a]; exact hc
  · have z' : b i = true := by
      have : (if i = p then true else b i) = true := z
      rwa [if_neg a] at this
    exact h i hi z'
theorem mq_ct_ex {b : Nat → Bool} : ∀ n, mq_ct b n < n → ∃ i, i < n ∧ b i = false := by
  intro n
  induction n with
  | zero => intro h; omega
  | succ n ih =>
    intro h
    simp only [mq_ct] at h
    cases hb : b n
    · exact ⟨n, by omega, hb⟩
    · rw [hb, if_pos rfl] at h
      obtain ⟨i, hi, e⟩ := ih (by omega)
      exact ⟨i, by omega, e⟩
theorem mq_ct_all {b : Nat → Bool} : ∀ n, mq_ct b n = n → ∀ i, i < n → b i = true := by
  intro n h i hi
  cases hb : b i
  · have := mq_ct_lt (b := b) (c := fun _ => true) n hi hb rfl (fun _ _ _ => rfl)
    have := mq_ct_le (fun _ => true) n
    omega
  · rfl
theorem mq_ct_tt : ∀ (b : Nat → Bool) n, (∀ i, i < n → b i = true) → mq_ct b n = n := by
  intro b n
  induction n with
  | zero => intro _; rfl
  | succ n ih =>
    intro h
    simp only [mq_ct]
    rw [ih (fun i hi => h i (by omega)), h n (by omega)]
    rfl
theorem mq_ct_ff : ∀ (b : Nat → Bool) n, (∀ i, i < n → b i = false) → mq_ct b n = 0 := by
  intro b n
  induction n with
  | zero => intro _; rfl
  | succ n ih =>
    intro h
    simp only [mq_ct]
    rw [ih (fun i hi => h i (by omega)), h n (by omega)]
    rfl
/-! involutions of 0 .. 7: f p = p means that p is left out -/
def mq_Inv (f : Nat → Nat) : Prop := ∀ p, p < 8 → f p < 8 ∧ f (f p) = p
def mq_mv (f : Nat → Nat) (p : Nat) : Bool := decide (f p ≠ p)
def mq_cn (f : Nat → Nat) : Nat := mq_ct (mq_mv f) 8
theorem mq_mv_t {f : Nat → Nat} {p : Nat} (h : f p ≠ p) : mq_mv f p = true := decide_eq_true h
theorem mq_mv_f {f : Nat → Nat} {p : Nat} (h : f p = p) : mq_mv f p = false := decide_eq_false (fun z => z h)
theorem mq_mv_ne {f : Nat → Nat} {p : Nat} (h : mq_mv f p = true) : f p ≠ p := of_decide_eq_true h
theorem mq_mv_eq {f : Nat → Nat} {p : Nat} (h : mq_mv f p = false) : f p = p := by
  by_cases z : f p = p
  · exact z
  · rw [mq_mv_t z] at h; exact absurd h (by decide)
theorem mq_mv_congr {f g : Nat → Nat} {p : Nat} (h : f p = g p) : mq_mv f p = mq_mv g p := by
  unfold mq_mv; rw [h]
theorem mq_cn_congr {f g : Nat → Nat} (h : ∀ i, i < 8 → f i = g i) : mq_cn f = mq_cn g :=
  mq_ct_congr 8 (fun i hi => mq_mv_congr (h i hi))
theorem mq_Inv_congr {f g : Nat → Nat} (h : ∀ i, i < 8 → f i = g i) (H : mq_Inv f) : mq_Inv g := by
  intro p hp
  have a := H p hp
  rw [← h p hp, ← h _ a.1]
  exact a
theorem mq_Inv_id : mq_Inv (fun p => p) := fun _ hp => ⟨hp, rfl⟩
theorem mq_cn_id : mq_cn (fun p => p) = 0 := mq_ct_ff _ 8 (fun _ _ => mq_mv_f rfl)
def mq_pr (f : Nat → Nat) (p q : Nat) : Nat → Nat := fun i => if i = p then q else if i = q then p else f i
theorem mq_pr_p {f : Nat → Nat} {p q : Nat} : mq_pr f p q p = q := if_pos rfl
theorem mq_pr_q {f : Nat → Nat} {p q : Nat} : mq_pr f p q q = p := by
  unfold mq_pr
  by_cases h : q = p
  · rw [if_pos h, h]
  · rw [if_neg h, if_pos rfl]
theorem mq_pr_n {f : Nat → Nat} {p q i : Nat} (a : i ≠ p) (b : i ≠ q) : mq_pr f p q i = f i := by
  unfold mq_pr
  rw [if_neg a, if_neg b]
theorem mq_pr_inv {f : Nat → Nat} {p q : Nat} (h : mq_Inv f) (hp : p < 8) (hq : q < 8) (fp : f p = p) (fq : f q = q) : mq_Inv (mq_pr f p q) := by
  intro i hi
  by_cases a : i = p
  · rw [a, mq_pr_p, mq_pr_q]; exact ⟨hq, rfl⟩
  · by_cases b : i = q
    · rw [b, mq_pr_q, mq_pr_p]; exact ⟨hp, rfl⟩
    · have h1 := h i hi
      have c : f i ≠ p := fun e => a (h1.2.symm.trans ((congrArg f e).trans fp))
      have d : f i ≠ q := fun e => b (h1.2.symm.trans ((congrArg f e).trans fq))
      rw [mq_pr_n a b, mq_pr_n c d]
      exact h1
theorem mq_pr_cn {f : Nat → Nat} {p q : Nat} (hp : p < 8) (hq : q < 8) (hn : p ≠ q) (fp : f p = p) (fq : f q = q) : mq_cn (mq_pr f p q) = mq_cn f + 2 := by
  have e1 : mq_ct (fun i => if i = p then true else mq_mv f i) 8 = mq_ct (mq_mv f) 8 + 1 :=
    mq_ct_one 8 hp (mq_mv_f fp) (if_pos rfl) (fun i _ hi => if_neg hi)
  have e2 : mq_ct (mq_mv (mq_pr f p q)) 8 = mq_ct (fun i => if i = p then true else mq_mv f i) 8 + 1 := by
    refine mq_ct_one 8 hq ?_ ?_ ?_
    · show (if q = p then true else mq_mv f q) = false
      rw [if_neg (fun z => hn z.symm), mq_mv_f fq]
    · exact mq_mv_t (by rw [mq_pr_q]; exact hn)
    · intro i _ hi
      show _ = (if i = p then true else mq_mv f i)
      by_cases a : i = p
      · rw [if_pos a, a]; exact mq_mv_t (by rw [mq_pr_p]; exact fun z => hn z.symm)
      · rw [if_neg a]; exact mq_mv_congr (mq_pr_n a hi)
  unfold mq_cn
  omega
def mq_un (f : Nat → Nat) (p : Nat) : Nat → Nat := fun i => if i = p then i else if i = f p then i else f i
theorem mq_un_p {f : Nat → Nat} {p : Nat} : mq_un f p p = p := if_pos rfl
theorem mq_un_q {f : Nat → Nat} {p : Nat} : mq_un f p (f p) = f p := by
  unfold mq_un
  by_cases h : f p = p
  · rw [if_pos h]
  · rw [if_neg h, if_pos rfl]
theorem mq_un_n {f : Nat → Nat} {p i : Nat} (a : i ≠ p) (b : i ≠ f p) : mq_un f p i = f i := by
  unfold mq_un
  rw [if_neg a, if_neg b]
theorem mq_un_inv {f : Nat → Nat} {p : Nat} (h : mq_Inv f) (hp : p < 8) : mq_Inv (mq_un f p) := by
  intro i hi
  by_cases a : i = p
  · rw [a, mq_un_p, mq_un_p]; exact ⟨hp, rfl⟩
  · by_cases b : i = f p
    · rw [b, mq_un_q, mq_un_q]; exact ⟨(h p hp).1, rfl⟩
    · have h1 := h i hi
      have c : f i ≠ p := fun e => b (h1.2.symm.trans (congrArg f e))
      have d : f i ≠ f p := fun e => a (h1.2.symm.trans ((congrArg f e).trans (h p hp).2))
      rw [mq_un_n a b, mq_un_n c d]
      exact h1
theorem mq_un_cn {f : Nat → Nat} {p : Nat} (h : mq_Inv f) (hp : p < 8) (fp : f p ≠ p) : mq_cn f = mq_cn (mq_un f p) + 2 := by
  rw [← mq_pr_cn (f := mq_un f p) (p := p) (q := f p) hp (h p hp).1 (fun z => fp z.symm) mq_un_p mq_un_q]
  apply mq_cn_congr
  intro i hi
  by_cases a : i = p
  · rw [a, mq_pr_p]
  · by_cases b : i = f p
    · rw [b, mq_pr_q]; exact (h p hp).2
    · rw [mq_pr_n a b, mq_un_n a b]
/-! graphs, pairings within a set -/
def mq_Gr (G : Nat → Nat → Bool) : Prop := ∀ p q, p < 8 → q < 8 → G p q = G q p ∧ G p p = false
def mq_Ok (G : Nat → Nat → Bool) (S : Nat → Bool) (f : Nat → Nat) : Prop := ∀ p, p < 8 → f p ≠ p → G p (f p) = true ∧ S p = true
def mq_rm (S : Nat → Bool) (p : Nat) : Nat → Bool := fun i => if i = p then false else S i
theorem mq_rm_p {S : Nat → Bool} {p : Nat} : mq_rm S p p = false := if_pos rfl
theorem mq_rm_n {S : Nat → Bool} {p i : Nat} (h : i ≠ p) : mq_rm S p i = S i := if_neg h
theorem mq_rm_t {S : Nat → Bool} {p i : Nat} (h : mq_rm S p i = true) : i ≠ p ∧ S i = true := by
  by_cases a : i = p
  · rw [a, mq_rm_p] at h; exact absurd h (by decide)
  · rw [mq_rm_n a] at h; exact ⟨a, h⟩
theorem mq_Ok_mono {G : Nat → Nat → Bool} {S S' : Nat → Bool} {f : Nat → Nat} (h : ∀ i, i < 8 → S i = true → S' i = true) (H : mq_Ok G S f) : mq_Ok G S' f :=
  fun p hp hn => ⟨(H p hp hn).1, h p hp (H p hp hn).2⟩
theorem mq_Ok_id {G : Nat → Nat → Bool} {S : Nat → Bool} : mq_Ok G S (fun p => p) := fun _ _ hn => absurd rfl hn
theorem mq_Ok_congr {G : Nat → Nat → Bool} {S : Nat → Bool} {f g : Nat → Nat} (h : ∀ i, i < 8 → f i = g i) (H : mq_Ok G S f) : mq_Ok G S g := by
  intro p hp hn
  rw [← h p hp] at hn ⊢
  exact H p hp hn
theorem mq_Ok_fix {G : Nat → Nat → Bool} {S : Nat → Bool} {f : Nat → Nat} (H : mq_Ok G S f) {p : Nat} (hp : p < 8) (h : S p = false) : f p = p := by
  by_cases z : f p = p
  · exact z
  · have := (H p hp z).2
    rw [h] at this
    exact absurd this (by decide)
theorem mq_rr_p {S : Nat → Bool} {p q : Nat} : mq_rm (mq_rm S p) q p = false := by
  by_cases a : p = q
  · rw [a]; exact mq_rm_p
  · rw [mq_rm_n a, mq_rm_p]
theorem mq_un_ok {G : Nat → Nat → Bool} {S : Nat → Bool} {f : Nat → Nat} {p : Nat} (H : mq_Ok G S f) : mq_Ok G (mq_rm (mq_rm S p) (f p)) (mq_un f p) := by
  intro i hi hn
  by_cases a : i = p
  · rw [a] at hn; exact absurd mq_un_p hn
  · by_cases b : i = f p
    · rw [b] at hn; exact absurd mq_un_q hn
    · rw [mq_un_n a b] at hn ⊢
      rw [mq_rm_n b, mq_rm_n a]
      exact H i hi hn
theorem mq_pr_ok {G : Nat → Nat → Bool} (hG : mq_Gr G) {S : Nat → Bool} {f : Nat → Nat} {p q : Nat} (hp : p < 8) (hq : q < 8) (hpq : G p q = true) (sp : S p = true) (sq : S q = true) (H : mq_Ok G (mq_rm (mq_rm S p) q) f) : mq_Ok G S (mq_pr f p q) := by
  intro i hi hn
  by_cases a : i = p
  · rw [a, mq_pr_p]; exact ⟨hpq, sp⟩
  · by_cases b : i = q
    · rw [b, mq_pr_q]; exact ⟨by rw [(hG q p hq hp).1]; exact hpq, sq⟩
    · rw [mq_pr_n a b] at hn ⊢
      have h := H i hi hn
      exact ⟨h.1, (mq_rm_t (mq_rm_t h.2).2).2⟩
theorem mq_Gr_ne {G : Nat → Nat → Bool} (hG : mq_Gr G) {p q : Nat} (hp : p < 8) (h : G p q = true) : p ≠ q := by
  intro e
  rw [← e, (hG p p hp hp).2] at h
  exact absurd h (by decide)
/-- m is the number of lines of a greatest pairing within S -/
def mq_M (G : Nat → Nat → Bool) (S : Nat → Bool) (m : Nat) : Prop := (∃ f, mq_Inv f ∧ mq_Ok G S f ∧ mq_cn f = 2 * m) ∧ ∀ f, mq_Inv f → mq_Ok G S f → mq_cn f ≤ 2 * m
theorem mq_M_uni {G : Nat → Nat → Bool} {S : Nat → Bool} {m m' : Nat} (h : mq_M G S m) (h' : mq_M G S m') : m = m' := by
  obtain ⟨⟨f, a, b, c⟩, d⟩ := h
  obtain ⟨⟨f', a', b', c'⟩, d'⟩ := h'
  have := d f' a' b'
  have := d' f a b
  omega
theorem mq_M_congr {G : Nat → Nat → Bool} {S S' : Nat → Bool} {m : Nat} (e : ∀ i, i < 8 → S i = S' i) (h : mq_M G S m) : mq_M G S' m := by
  obtain ⟨⟨f, a, b, c⟩, d⟩ := h
  exact ⟨⟨f, a, mq_Ok_mono (fun i hi z => by rw [← e i hi]; exact z) b, c⟩, fun g hg hk => d g hg (mq_Ok_mono (fun i hi z => by rw [e i hi]; exact z) hk)⟩
theorem mq_M_le4 {G : Nat → Nat → Bool} {S : Nat → Bool} {m : Nat} (h : mq_M G S m) : m ≤ 4 := by
  obtain ⟨⟨f, a, b, c⟩, d⟩ := h
  have : mq_cn f ≤ 8 := mq_ct_le _ 8
  omega
theorem mq_M_0 {G : Nat → Nat → Bool} {S : Nat → Bool} (h : ∀ i, i < 8 → S i = false) : mq_M G S 0 := by
  refine ⟨⟨fun p => p, mq_Inv_id, mq_Ok_id, mq_cn_id⟩, fun f _ hk => ?_⟩
  have : mq_cn f = 0 := mq_ct_ff _ 8 (fun i hi => mq_mv_f (mq_Ok_fix hk hi (h i hi)))
  omega
theorem mq_M_pair {G : Nat → Nat → Bool} (hG : mq_Gr G) {S : Nat → Bool} {p q m m' : Nat} (hp : p < 8) (hq : q < 8) (hpq : G p q = true) (sp : S p = true) (sq : S q = true) (h : mq_M G S m) (h' : mq_M G (mq_rm (mq_rm S p) q) m') :
    1 + m' ≤ m ∧ (1 + m' = m ↔ ∃ f, mq_Inv f ∧ mq_Ok G S f ∧ mq_cn f = 2 * m ∧ f p = q) := by
  have hn := mq_Gr_ne hG hp hpq
  obtain ⟨f', a', b', c'⟩ := h'.1
  have fp : f' p = p := mq_Ok_fix b' hp mq_rr_p
  have fq : f' q = q := mq_Ok_fix b' hq mq_rm_p
  have i1 := mq_pr_inv a' hp hq fp fq
  have o1 := mq_pr_ok hG hp hq hpq sp sq b'
  have c1 := mq_pr_cn hp hq hn fp fq
  have l1 := h.2 _ i1 o1
  refine ⟨by omega, fun e => ⟨_, i1, o1, by omega, mq_pr_p⟩, fun ⟨f, a, b, c, d⟩ => ?_⟩
  have o2 := mq_un_ok (p := p) b
  rw [d] at o2
  have l2 := h'.2 _ (mq_un_inv a hp) o2
  have c2 := mq_un_cn a hp (by rw [d]; exact fun z => hn z.symm)
  omega
theorem mq_M_out {G : Nat → Nat → Bool} {S : Nat → Bool} {p m m' : Nat} (hp : p < 8) (h : mq_M G S m) (h' : mq_M G (mq_rm S p) m') :
    m' ≤ m ∧ (m' = m ↔ ∃ f, mq_Inv f ∧ mq_Ok G S f ∧ mq_cn f = 2 * m ∧ f p = p) := by
  obtain ⟨f', a', b', c'⟩ := h'.1
  have b2 : mq_Ok G S f' := mq_Ok_mono (fun i _ z => (mq_rm_t z).2) b'
  have l := h.2 f' a' b2
  refine ⟨by omega, fun e => ⟨f', a', b2, by omega, mq_Ok_fix b' hp mq_rm_p⟩, fun ⟨f, a, b, c, d⟩ => ?_⟩
  have o : mq_Ok G (mq_rm S p) f := fun i hi hn => ⟨(b i hi hn).1, by
    rw [mq_rm_n (fun z => hn (by rw [z]; exact d))]; exact (b i hi hn).2⟩
  have := h'.2 f a o
  omega
theorem mq_M_step {G : Nat → Nat → Bool} (hG : mq_Gr G) {S : Nat → Bool} {t m0 best : Nat} {mm : Nat → Nat} (ht : t < 8) (st : S t = true) (top : ∀ i, i < 8 → t < i → S i = false)
    (h0 : mq_M G (mq_rm S t) m0) (hq : ∀ q, q < t → S q = true → G t q = true → mq_M G (mq_rm (mq_rm S t) q) (mm q))
    (l0 : m0 ≤ best) (lq : ∀ q, q < t → S q = true → G t q = true → 1 + mm q ≤ best)
    (w : best = m0 ∨ ∃ q, q < t ∧ S q = true ∧ G t q = true ∧ best = 1 + mm q) : mq_M G S best := by
  refine ⟨?_, fun f a b => ?_⟩
  · rcases w with w | ⟨q, w1, w2, w3, w4⟩
    · obtain ⟨f, a, b, c⟩ := h0.1
      exact ⟨f, a, mq_Ok_mono (fun i _ z => (mq_rm_t z).2) b, by rw [w]; exact c⟩
    · obtain ⟨f', a', b', c'⟩ := (hq q w1 w2 w3).1
      have q8 : q < 8 := by omega
      have fp : f' t = t := mq_Ok_fix b' ht mq_rr_p
      have fq : f' q = q := mq_Ok_fix b' q8 mq_rm_p
      have c1 := mq_pr_cn ht q8 (by omega) fp fq
      exact ⟨_, mq_pr_inv a' ht q8 fp fq, mq_pr_ok hG ht q8 w3 st w2 b', by omega⟩
  · by_cases z : f t = t
    · have o : mq_Ok G (mq_rm S t) f := fun i hi hn => ⟨(b i hi hn).1, by
        rw [mq_rm_n (fun y => hn (by rw [y]; exact z))]; exact (b i hi hn).2⟩
      have := h0.2 f a o
      omega
    · have h1 := a t ht
      have h2 := (b t ht z).1
      have h3 := b (f t) h1.1 (by rw [h1.2]; exact fun y => z y.symm)
      have h4 : f t < t := by
        rcases Nat.lt_or_ge (f t) t with y | y
        · exact y
        · have := top (f t) h1.1 (by omega)
          rw [this] at h3
          exact absurd h3.2 (by decide)
      have l := (hq (f t) h4 h3.2 h2).2 _ (mq_un_inv a ht) (mq_un_ok b)
      have c := mq_un_cn a ht z
      have := lq (f t) h4 h3.2 h2
      omega
/-! full pairings: what is missing -/
theorem mq_ext : ∀ (k : Nat) (f : Nat → Nat), mq_Inv f → mq_cn f + 2 * k = 8 → ∃ g, mq_Inv g ∧ (∀ i, i < 8 → g i ≠ i) ∧ ∀ i, i < 8 → f i ≠ i → g i = f i := by
  intro k
  induction k with
  | zero =>
    intro f a h
    exact ⟨f, a, fun i hi => mq_mv_ne (mq_ct_all 8 (by unfold mq_cn at h; omega) i hi), fun _ _ _ => rfl⟩
  | succ k ih =>
    intro f a h
    unfold mq_cn at h
    obtain ⟨p, hp, e⟩ := mq_ct_ex 8 (show mq_ct (mq_mv f) 8 < 8 by omega)
    have fp := mq_mv_eq e
    have e1 : mq_ct (fun i => if i = p then true else mq_mv f i) 8 = mq_ct (mq_mv f) 8 + 1 :=
      mq_ct_one 8 hp e (if_pos rfl) (fun i _ hi => if_neg hi)
    obtain ⟨q, hq, e2⟩ := mq_ct_ex 8 (show mq_ct (fun i => if i = p then true else mq_mv f i) 8 < 8 by omega)
    have e3 : (if q = p then true else mq_mv f q) = false := e2
    have hn : ¬ q = p := by
      intro z
      rw [if_pos z] at e3
      exact absurd e3 (by decide)
    rw [if_neg hn] at e3
    have fq := mq_mv_eq e3
    have c := mq_pr_cn hp hq (fun z => hn z.symm) fp fq
    obtain ⟨g, ga, gb, gc⟩ := ih (mq_pr f p q) (mq_pr_inv a hp hq fp fq) (by unfold mq_cn at c ⊢; omega)
    refine ⟨g, ga, gb, fun i hi hne => ?_⟩
    have ip : i ≠ p := fun z => hne (by rw [z]; exact fp)
    have iq : i ≠ q := fun z => hne (by rw [z]; exact fq)
    have := gc i hi (by rw [mq_pr_n ip iq]; exact hne)
    rw [this, mq_pr_n ip iq]
theorem mq_lack_ge {G : Nat → Nat → Bool} (hG : mq_Gr G) {m : Nat} (h : mq_M G (fun _ => true) m) {f : Nat → Nat} (a : mq_Inv f) (hf : ∀ i, i < 8 → f i ≠ i) : 8 ≤ mq_ct (fun p => !G p (f p)) 8 + 2 * m := by
  have s := mq_ct_sum (fun p => G p (f p)) 8
  have key : ∀ i, i < 8 → mq_mv (fun i => if G i (f i) = true then f i else i) i = G i (f i) := by
    intro i hi
    by_cases z : G i (f i) = true
    · rw [z]; exact mq_mv_t (by show (if G i (f i) = true then f i else i) ≠ i; rw [if_pos z]; exact hf i hi)
    · have z' : G i (f i) = false := by
        cases hh : G i (f i)
        · rfl
        · exact absurd hh z
      rw [z']; exact mq_mv_f (by show (if G i (f i) = true then f i else i) = i; rw [if_neg z])
  have inv : mq_Inv (fun i => if G i (f i) = true then f i else i) := by
    intro i hi
    have h1 := a i hi
    show (if G i (f i) = true then f i else i) < 8 ∧ (if G (if G i (f i) = true then f i else i) (f (if G i (f i) = true then f i else i)) = true then f (if G i (f i) = true then f i else i) else (if G i (f i) = true then f i else i)) = i
    by_cases z : G i (f i) = true
    · rw [if_pos z, h1.2, (hG (f i) i h1.1 hi).1, if_pos z]; exact ⟨h1.1, rfl⟩
    · rw [if_neg z, if_neg z]; exact ⟨hi, rfl⟩
  have ok : mq_Ok G (fun _ => true) (fun i => if G i (f i) = true then f i else i) := by
    intro i hi hn
    have hn' : (if G i (f i) = true then f i else i) ≠ i := hn
    show G i (if G i (f i) = true then f i else i) = true ∧ true = true
    by_cases z : G i (f i) = true
    · rw [if_pos z]; exact ⟨z, rfl⟩
    · rw [if_neg z] at hn'; exact absurd rfl hn'
  have l := h.2 _ inv ok
  have e : mq_cn (fun i => if G i (f i) = true then f i else i) = mq_ct (fun p => G p (f p)) 8 := mq_ct_congr 8 key
  omega
theorem mq_lack_ex {G : Nat → Nat → Bool} {m : Nat} (h : mq_M G (fun _ => true) m) : ∃ f, mq_Inv f ∧ (∀ i, i < 8 → f i ≠ i) ∧ mq_ct (fun p => !G p (f p)) 8 + 2 * m ≤ 8 := by
  obtain ⟨f, a, b, c⟩ := h.1
  have m4 := mq_M_le4 h
  obtain ⟨g, ga, gb, gc⟩ := mq_ext (4 - m) f a (by omega)
  refine ⟨g, ga, gb, ?_⟩
  have s := mq_ct_sum (mq_mv f) 8
  have l : mq_ct (fun p => !G p (g p)) 8 ≤ mq_ct (fun p => !mq_mv f p) 8 := by
    refine mq_ct_mono 8 ?_
    intro i hi z
    show (!mq_mv f i) = true
    cases hh : mq_mv f i
    · rfl
    · have hne := mq_mv_ne hh
      have z' : (!G i (g i)) = true := z
      rw [gc i hi hne, (b i hi hne).1] at z'
      exact absurd z' (by decide)
  unfold mq_cn at c
  omega
