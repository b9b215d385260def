/-! the first of the greatest pairings, settled point by point -/
theorem mq_ct_split (b R : Nat → Bool) : ∀ n, mq_ct (fun i => b i && R i) n + mq_ct (fun i => b i && !R i) n = mq_ct b n := by
  intro n
  induction n with
  | zero => rfl
  | succ n ih =>
    cases h1 : b n
    · rw [mq_ct_f h1, mq_ct_f (b := fun i => b i && R i) (by show (b n && R n) = false; rw [h1]; rfl), mq_ct_f (b := fun i => b i && !R i) (by show (b n && !R n) = false; rw [h1]; rfl)]
      exact ih
    · cases h2 : R n
      · rw [mq_ct_t h1, mq_ct_f (b := fun i => b i && R i) (by show (b n && R n) = false; rw [h1, h2]; rfl), mq_ct_t (b := fun i => b i && !R i) (by show (b n && !R n) = true; rw [h1, h2]; rfl)]
        omega
      · rw [mq_ct_t h1, mq_ct_t (b := fun i => b i && R i) (by show (b n && R n) = true; rw [h1, h2]; rfl), mq_ct_f (b := fun i => b i && !R i) (by show (b n && !R n) = false; rw [h1, h2]; rfl)]
        omega
def mq_gl (R : Nat → Bool) (f F : Nat → Nat) : Nat → Nat := fun i => if R i = true then f i else F i
theorem mq_gl_t {R : Nat → Bool} {f F : Nat → Nat} {i : Nat} (h : R i = true) : mq_gl R f F i = f i := if_pos h
theorem mq_gl_f {R : Nat → Bool} {f F : Nat → Nat} {i : Nat} (h : R i = false) : mq_gl R f F i = F i := if_neg (by rw [h]; decide)
theorem mq_gl_inv {R : Nat → Bool} {f F : Nat → Nat} (hf : mq_Inv f) (hF : mq_Inv F) (h1 : ∀ i, i < 8 → R i = true → R (f i) = true) (h2 : ∀ i, i < 8 → R i = false → R (F i) = false) : mq_Inv (mq_gl R f F) := by
  intro i hi
  cases h : R i
  · rw [mq_gl_f h, mq_gl_f (h2 i hi h)]; exact hF i hi
  · rw [mq_gl_t h, mq_gl_t (h1 i hi h)]; exact hf i hi
theorem mq_gl_cn {R : Nat → Bool} {f F : Nat → Nat} (h : ∀ i, i < 8 → R i = false → f i = i) : mq_cn (mq_gl R f F) = mq_cn f + mq_ct (fun i => mq_mv F i && !R i) 8 := by
  have s := mq_ct_split (mq_mv (mq_gl R f F)) R 8
  have e1 : mq_ct (fun i => mq_mv (mq_gl R f F) i && R i) 8 = mq_ct (mq_mv f) 8 := by
    refine mq_ct_congr 8 (fun i hi => ?_)
    show (mq_mv (mq_gl R f F) i && R i) = mq_mv f i
    cases hr : R i
    · rw [mq_mv_f (h i hi hr), Bool.and_false]
    · rw [Bool.and_true]; exact mq_mv_congr (mq_gl_t hr)
  have e2 : mq_ct (fun i => mq_mv (mq_gl R f F) i && !R i) 8 = mq_ct (fun i => mq_mv F i && !R i) 8 := by
    refine mq_ct_congr 8 (fun i hi => ?_)
    show (mq_mv (mq_gl R f F) i && !R i) = (mq_mv F i && !R i)
    cases hr : R i
    · rw [mq_mv_congr (mq_gl_f hr)]
    · simp
  unfold mq_cn
  omega
theorem mq_Ok_cl {G : Nat → Nat → Bool} {R : Nat → Bool} {f : Nat → Nat} (hf : mq_Inv f) (h : mq_Ok G R f) : ∀ i, i < 8 → R i = true → R (f i) = true := by
  intro i hi r
  by_cases z : f i = i
  · rw [z]; exact r
  · have a := hf i hi
    exact (h (f i) a.1 (by rw [a.2]; exact fun y => z y.symm)).2
theorem mq_gl_ok {G : Nat → Nat → Bool} {R : Nat → Bool} {f F : Nat → Nat} (hf : mq_Ok G R f) (hF : mq_Ok G (fun _ => true) F) : mq_Ok G (fun _ => true) (mq_gl R f F) := by
  intro i hi hn
  cases h : R i
  · rw [mq_gl_f h] at hn ⊢; exact hF i hi hn
  · rw [mq_gl_t h] at hn ⊢; exact ⟨(hf i hi hn).1, rfl⟩
/-- what is left when the points below a have their partners -/
def mq_Rs (F : Nat → Nat) (a : Nat) : Nat → Bool := fun i => decide (a ≤ i) && decide (a ≤ F i)
theorem mq_Rs_t {F : Nat → Nat} {a i : Nat} (h : mq_Rs F a i = true) : a ≤ i ∧ a ≤ F i := by
  unfold mq_Rs at h
  simpa using h
theorem mq_Rs_of {F : Nat → Nat} {a i : Nat} (h : a ≤ i) (h' : a ≤ F i) : mq_Rs F a i = true := by
  unfold mq_Rs
  simp [h, h']
theorem mq_Rs_cl {F : Nat → Nat} (hF : mq_Inv F) (a : Nat) : ∀ i, i < 8 → mq_Rs F a i = mq_Rs F a (F i) := by
  intro i hi
  unfold mq_Rs
  rw [(hF i hi).2, Bool.and_comm]
theorem mq_Rs_s {F : Nat → Nat} (hF : mq_Inv F) {a : Nat} (ha : a < 8) : ∀ i, i < 8 → mq_Rs F (a + 1) i = mq_rm (mq_rm (mq_Rs F a) a) (F a) i := by
  intro i hi
  have h1 := hF i hi
  have h2 := hF a ha
  refine mq_bi (fun z => ?_) (fun z => ?_)
  · have y := mq_Rs_t z
    rw [mq_rm_n (fun w => by rw [w, h2.2] at y; omega), mq_rm_n (by omega)]
    exact mq_Rs_of (by omega) (by omega)
  · have y := mq_rm_t z
    have y2 := mq_rm_t y.2
    have y3 := mq_Rs_t y2.2
    have n : F i ≠ a := fun w => y.1 (by rw [← w]; exact h1.2.symm)
    exact mq_Rs_of (by omega) (by omega)
/-- F is the first of the greatest pairings -/
def mq_Fst (G : Nat → Nat → Bool) (F : Nat → Nat) (m : Nat) : Prop := mq_Inv F ∧ mq_Ok G (fun _ => true) F ∧ mq_cn F = 2 * m ∧ mq_M G (fun _ => true) m ∧ ∀ f, mq_Inv f → mq_Ok G (fun _ => true) f → mq_cn f = 2 * m → ¬ mq_ky f < mq_ky F
theorem mq_Fst_A {G : Nat → Nat → Bool} {F : Nat → Nat} {m mr a : Nat} (h : mq_Fst G F m) (hr : mq_M G (mq_Rs F a) mr) :
    mq_Inv (mq_gl (mq_Rs F a) F (fun i => i)) ∧ mq_Ok G (mq_Rs F a) (mq_gl (mq_Rs F a) F (fun i => i)) ∧ mq_cn (mq_gl (mq_Rs F a) F (fun i => i)) = 2 * mr ∧ 2 * mr + mq_ct (fun i => mq_mv F i && !mq_Rs F a i) 8 = 2 * m := by
  obtain ⟨h1, h2, h3, h4, h5⟩ := h
  have c := mq_Rs_cl h1 a
  have i1 : mq_Inv (mq_gl (mq_Rs F a) F (fun i => i)) := mq_gl_inv h1 mq_Inv_id (fun i hi z => by rw [← c i hi]; exact z) (fun _ _ z => z)
  have o1 : mq_Ok G (mq_Rs F a) (mq_gl (mq_Rs F a) F (fun i => i)) := by
    intro i hi hn
    cases hz : mq_Rs F a i
    · rw [mq_gl_f hz] at hn; exact absurd rfl hn
    · rw [mq_gl_t hz] at hn ⊢; exact ⟨(h2 i hi hn).1, rfl⟩
  have e1 : mq_cn F = mq_cn (mq_gl (mq_Rs F a) F (fun i => i)) + mq_ct (fun i => mq_mv F i && !mq_Rs F a i) 8 := by
    rw [← mq_gl_cn (R := mq_Rs F a) (f := mq_gl (mq_Rs F a) F (fun i => i)) (F := F) (fun i _ z => mq_gl_f z)]
    refine mq_cn_congr (fun i _ => ?_)
    cases hz : mq_Rs F a i
    · rw [mq_gl_f hz]
    · rw [mq_gl_t hz, mq_gl_t hz]
  obtain ⟨f, fa, fb, fc⟩ := hr.1
  have i2 : mq_Inv (mq_gl (mq_Rs F a) f F) := mq_gl_inv fa h1 (mq_Ok_cl fa fb) (fun i hi z => by rw [← c i hi]; exact z)
  have e2 := mq_gl_cn (R := mq_Rs F a) (f := f) (F := F) (fun i hi z => mq_Ok_fix fb hi z)
  have l2 := h4.2 _ i2 (mq_gl_ok fb h2)
  have l1 := hr.2 _ i1 o1
  exact ⟨i1, o1, by omega, by omega⟩
theorem mq_Fst_B {G : Nat → Nat → Bool} (hG : mq_Gr G) {F : Nat → Nat} {m mr m' a q : Nat} (h : mq_Fst G F m) (ha : a < 8) (hq : q < 8) (ra : mq_Rs F a a = true) (rq : mq_Rs F a q = true) (g : G a q = true)
    (hr : mq_M G (mq_Rs F a) mr) (hr' : mq_M G (mq_rm (mq_rm (mq_Rs F a) a) q) m') (e : 1 + m' = mr) : F a ≠ a ∧ F a ≤ q := by
  obtain ⟨f, fa, fb, fc, fd⟩ := (mq_M_pair hG ha hq g ra rq hr hr').2.mp e
  have A := mq_Fst_A h hr
  obtain ⟨h1, h2, h3, h4, h5⟩ := h
  have c := mq_Rs_cl h1 a
  have i2 : mq_Inv (mq_gl (mq_Rs F a) f F) := mq_gl_inv fa h1 (mq_Ok_cl fa fb) (fun i hi z => by rw [← c i hi]; exact z)
  have e2 := mq_gl_cn (R := mq_Rs F a) (f := f) (F := F) (fun i hi z => mq_Ok_fix fb hi z)
  have n := h5 _ i2 (mq_gl_ok fb h2) (by omega)
  have hn := mq_Gr_ne hG ha g
  have low : ∀ i, i < a → mq_gl (mq_Rs F a) f F i = F i := by
    intro i hi
    apply mq_gl_f
    apply mq_bt
    intro z
    have := mq_Rs_t z
    omega
  have ka : mq_kf (mq_gl (mq_Rs F a) f F) a = q := by
    unfold mq_kf
    rw [mq_gl_t ra, fd, if_neg (fun z => hn z.symm)]
  rcases Nat.lt_or_ge q (mq_kf F a) with y | y
  · exact absurd (mq_ky_lt i2 ha low (by rw [ka]; exact y)) n
  · unfold mq_kf at y
    by_cases z : F a = a
    · rw [if_pos z] at y; omega
    · rw [if_neg z] at y; exact ⟨z, y⟩
theorem mq_Fst_C {G : Nat → Nat → Bool} (hG : mq_Gr G) {F : Nat → Nat} {m mr m' a : Nat} (h : mq_Fst G F m) (ha : a < 8) (ra : mq_Rs F a a = true) (fa : F a ≠ a)
    (hr : mq_M G (mq_Rs F a) mr) (hr' : mq_M G (mq_rm (mq_rm (mq_Rs F a) a) (F a)) m') : mq_Rs F a (F a) = true ∧ G a (F a) = true ∧ 1 + m' = mr := by
  have A := mq_Fst_A h hr
  have r2 : mq_Rs F a (F a) = true := by rw [← mq_Rs_cl h.1 a a ha]; exact ra
  have g := (h.2.1 a ha fa).1
  exact ⟨r2, g, (mq_M_pair hG ha (h.1 a ha).1 g ra r2 hr hr').2.mpr ⟨_, A.1, A.2.1, A.2.2.1, mq_gl_t ra⟩⟩
