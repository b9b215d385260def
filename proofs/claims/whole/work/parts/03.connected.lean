/-! connected sets and how many odd ones there are -/
def mq_Cl (G : Nat → Nat → Bool) (A X : Nat → Bool) : Prop := ∀ p q, p < 8 → q < 8 → X p = true → G p q = true → A q = true → X q = true
def mq_Cp (G : Nat → Nat → Bool) (A : Nat → Bool) (p i : Nat) : Prop := ∀ X : Nat → Bool, X p = true → mq_Cl G A X → X i = true
noncomputable def mq_C (G : Nat → Nat → Bool) (A : Nat → Bool) (p i : Nat) : Bool := @decide (mq_Cp G A p i) (Classical.propDecidable _)
theorem mq_C_of {G : Nat → Nat → Bool} {A : Nat → Bool} {p i : Nat} (h : mq_Cp G A p i) : mq_C G A p i = true := @decide_eq_true _ (Classical.propDecidable _) h
theorem mq_C_to {G : Nat → Nat → Bool} {A : Nat → Bool} {p i : Nat} (h : mq_C G A p i = true) : mq_Cp G A p i := @of_decide_eq_true _ (Classical.propDecidable _) h
theorem mq_C_self {G : Nat → Nat → Bool} {A : Nat → Bool} {p : Nat} : mq_C G A p p = true := mq_C_of (fun _ h _ => h)
theorem mq_C_le {G : Nat → Nat → Bool} {A X : Nat → Bool} {p i : Nat} (h : mq_C G A p i = true) (hp : X p = true) (hc : mq_Cl G A X) : X i = true := mq_C_to h X hp hc
theorem mq_C_cl {G : Nat → Nat → Bool} {A : Nat → Bool} {p : Nat} : mq_Cl G A (mq_C G A p) := fun i j hi hj h g a => mq_C_of (fun X hp hc => hc i j hi hj (mq_C_to h X hp hc) g a)
theorem mq_C_in {G : Nat → Nat → Bool} {A : Nat → Bool} {p i : Nat} (ap : A p = true) (h : mq_C G A p i = true) : A i = true := mq_C_le h ap (fun _ _ _ _ _ _ z => z)
theorem mq_C_trans {G : Nat → Nat → Bool} {A : Nat → Bool} {p q i : Nat} (h : mq_C G A p q = true) (h2 : mq_C G A q i = true) : mq_C G A p i = true := mq_C_le h2 h mq_C_cl
theorem mq_bt {b : Bool} (h : ¬ b = true) : b = false := by cases b <;> first | rfl | exact absurd rfl h
theorem mq_bf {b : Bool} (h : ¬ b = false) : b = true := by cases b <;> first | rfl | exact absurd rfl h
theorem mq_bi {a b : Bool} (h : a = true → b = true) (h' : b = true → a = true) : a = b := by
  cases a <;> cases b <;> first | rfl | exact absurd (h rfl) (by decide) | exact absurd (h' rfl) (by decide)
/-- one sweep over the points below t, from X to R -/
def mq_Sw (G : Nat → Nat → Bool) (A : Nat → Bool) (p : Nat) (X : Nat → Bool) (t : Nat) (R : Nat → Bool) : Prop :=
  (∀ i, i < 8 → X i = true → R i = true) ∧ (∀ i, i < 8 → R i = true → mq_C G A p i = true) ∧ (∀ q, q < t → X q = true → ∀ i, i < 8 → G q i = true → A i = true → R i = true) ∧ (mq_Cl G A X → ∀ i, i < 8 → R i = true → X i = true)
theorem mq_Sw_s {G : Nat → Nat → Bool} {A : Nat → Bool} {p t : Nat} {X R R' : Nat → Bool} {c : Bool} (ht : t < 8) (h : mq_Sw G A p X t R) (c1 : X t = true → c = true) (c2 : c = true → R t = true)
    (hr : ∀ i, i < 8 → R' i = (R i || (c && (G t i && A i)))) : mq_Sw G A p X (t + 1) R' := by
  obtain ⟨h1, h2, h3, h4⟩ := h
  have up : ∀ i, i < 8 → R i = true → R' i = true := fun i hi z => by rw [hr i hi, z]; rfl
  have dn : ∀ i, i < 8 → R' i = true → R i = true ∨ (c = true ∧ G t i = true ∧ A i = true) := by
    intro i hi z
    rw [hr i hi] at z
    simp only [Bool.or_eq_true, Bool.and_eq_true] at z
    exact z
  refine ⟨fun i hi z => up i hi (h1 i hi z), fun i hi z => ?_, fun q hq xq i hi g a => ?_, fun hc i hi z => ?_⟩
  · rcases dn i hi z with y | ⟨y1, y2, y3⟩
    · exact h2 i hi y
    · exact mq_C_cl t i ht hi (h2 t ht (c2 y1)) y2 y3
  · rcases Nat.lt_or_ge q t with y | y
    · exact up i hi (h3 q y xq i hi g a)
    · have e : q = t := by omega
      subst e
      rw [hr i hi, c1 xq, g, a]
      simp
  · rcases dn i hi z with y | ⟨y1, y2, y3⟩
    · exact h4 hc i hi y
    · exact hc t i ht hi (h4 hc t ht (c2 y1)) y2 y3
/-- after k sweeps -/
def mq_Pg (G : Nat → Nat → Bool) (A : Nat → Bool) (p k : Nat) (X : Nat → Bool) : Prop :=
  X p = true ∧ (∀ i, i < 8 → X i = true → mq_C G A p i = true) ∧ (mq_Cl G A X ∨ k + 1 ≤ mq_ct X 8)
theorem mq_Pg_sw0 {G : Nat → Nat → Bool} {A : Nat → Bool} {p k : Nat} {X : Nat → Bool} (h : mq_Pg G A p k X) : mq_Sw G A p X 0 X :=
  ⟨fun _ _ z => z, h.2.1, fun q hq => absurd hq (Nat.not_lt_zero q), fun _ _ _ z => z⟩
theorem mq_Pg_0 {G : Nat → Nat → Bool} {A : Nat → Bool} {p : Nat} {X : Nat → Bool} (hp : p < 8) (h : ∀ i, i < 8 → X i = decide (p = i)) : mq_Pg G A p 0 X := by
  have xp : X p = true := by rw [h p hp]; exact decide_eq_true rfl
  refine ⟨xp, fun i hi z => ?_, Or.inr ?_⟩
  · rw [h i hi] at z
    have e : p = i := of_decide_eq_true z
    rw [← e]
    exact mq_C_self
  · have := mq_ct_lt (b := fun _ => false) (c := X) 8 hp rfl xp (fun _ _ z => absurd z (by decide))
    omega
theorem mq_Pg_s {G : Nat → Nat → Bool} {A : Nat → Bool} {p k : Nat} {X R : Nat → Bool} (hp : p < 8) (h : mq_Pg G A p k X) (s : mq_Sw G A p X 8 R) : mq_Pg G A p (k + 1) R := by
  obtain ⟨a, b, c⟩ := h
  obtain ⟨s1, s2, s3, s4⟩ := s
  refine ⟨s1 p hp a, s2, ?_⟩
  by_cases z : mq_Cl G A X
  · left
    intro i j hi hj ri g aj
    exact s1 j hj (z i j hi hj (s4 z i hi ri) g aj)
  · right
    have c' : k + 1 ≤ mq_ct X 8 := c.resolve_left z
    have ⟨i, j, hi, hj, xi, g, aj, xj⟩ : ∃ i j, i < 8 ∧ j < 8 ∧ X i = true ∧ G i j = true ∧ A j = true ∧ X j = false := by
      apply Classical.byContradiction
      intro n
      apply z
      intro i j hi hj xi g aj
      apply Classical.byContradiction
      intro m
      exact n ⟨i, j, hi, hj, xi, g, aj, mq_bt m⟩
    have := mq_ct_lt 8 hj xj (s3 i hi xi j hj g aj) s1
    omega
theorem mq_Pg_e {G : Nat → Nat → Bool} {A : Nat → Bool} {p k : Nat} {X : Nat → Bool} (hk : 7 ≤ k) (h : mq_Pg G A p k X) : ∀ i, i < 8 → X i = mq_C G A p i := by
  obtain ⟨a, b, c⟩ := h
  have cl : mq_Cl G A X := by
    rcases c with c | c
    · exact c
    · have := mq_ct_le X 8
      have all := mq_ct_all (b := X) 8 (by omega)
      exact fun _ q _ hq _ _ _ => all q hq
  exact fun i hi => mq_bi (b i hi) (fun z => mq_C_le z a cl)
/-- p is the first of its part -/
noncomputable def mq_fs (G : Nat → Nat → Bool) (A : Nat → Bool) (p : Nat) : Bool := @decide (A p = true ∧ ∀ j, j < p → A j = true → mq_C G A j p = false) (Classical.propDecidable _)
noncomputable def mq_od (G : Nat → Nat → Bool) (A : Nat → Bool) (p : Nat) : Bool := mq_fs G A p && decide (mq_ct (mq_C G A p) 8 % 2 = 1)
noncomputable def mq_oc (G : Nat → Nat → Bool) (A : Nat → Bool) : Nat := mq_ct (mq_od G A) 8
def mq_Sn (G : Nat → Nat → Bool) (A : Nat → Bool) (p : Nat) (S : Nat → Bool) : Prop := ∀ i, i < 8 → (S i = true ↔ ∃ j, j < p ∧ A j = true ∧ mq_C G A j i = true)
theorem mq_Sn_0 {G : Nat → Nat → Bool} {A S : Nat → Bool} (h : ∀ i, i < 8 → S i = false) : mq_Sn G A 0 S := by
  intro i hi
  rw [h i hi]
  exact ⟨fun z => absurd z (by decide), fun ⟨j, hj, _⟩ => absurd hj (Nat.not_lt_zero j)⟩
theorem mq_Sn_skip {G : Nat → Nat → Bool} {A S : Nat → Bool} {p : Nat} (hp : p < 8) (h : mq_Sn G A p S) (z : ¬ (A p = true ∧ S p = false)) : mq_Sn G A (p + 1) S ∧ mq_ct (mq_od G A) (p + 1) = mq_ct (mq_od G A) p := by
  constructor
  · intro i hi
    rw [h i hi]
    constructor
    · rintro ⟨j, a, b, c⟩
      exact ⟨j, by omega, b, c⟩
    · rintro ⟨j, a, b, c⟩
      rcases Nat.lt_or_ge j p with y | y
      · exact ⟨j, y, b, c⟩
      · have e : j = p := by omega
        subst e
        have sp : S j = true := mq_bf (fun w => z ⟨b, w⟩)
        obtain ⟨j', a', b', c'⟩ := (h j hp).mp sp
        exact ⟨j', a', b', mq_C_trans c' c⟩
  · have f : mq_fs G A p = false := by
      apply @decide_eq_false _ (Classical.propDecidable _)
      rintro ⟨a, b⟩
      apply z
      refine ⟨a, mq_bt (fun w => ?_)⟩
      obtain ⟨j', a', b', c'⟩ := (h p hp).mp w
      rw [b j' a' b'] at c'
      exact absurd c' (by decide)
    have o : mq_od G A p = false := by unfold mq_od; rw [f]; rfl
    exact mq_ct_f o
theorem mq_Sn_step {G : Nat → Nat → Bool} {A S S' : Nat → Bool} {p : Nat} (hp : p < 8) (h : mq_Sn G A p S) (ap : A p = true) (sp : S p = false) (hs : ∀ i, i < 8 → S' i = (S i || mq_C G A p i)) :
    mq_Sn G A (p + 1) S' ∧ mq_ct (mq_od G A) (p + 1) = mq_ct (mq_od G A) p + mq_ct (mq_C G A p) 8 % 2 := by
  constructor
  · intro i hi
    rw [hs i hi, Bool.or_eq_true, h i hi]
    constructor
    · rintro (⟨j, a, b, c⟩ | c)
      · exact ⟨j, by omega, b, c⟩
      · exact ⟨p, by omega, ap, c⟩
    · rintro ⟨j, a, b, c⟩
      rcases Nat.lt_or_ge j p with y | y
      · exact Or.inl ⟨j, y, b, c⟩
      · have e : j = p := by omega
        rw [e] at c
        exact Or.inr c
  · have f : mq_fs G A p = true := by
      apply @decide_eq_true _ (Classical.propDecidable _)
      refine ⟨ap, fun j hj aj => mq_bt (fun w => ?_)⟩
      rw [(h p hp).mpr ⟨j, hj, aj, w⟩] at sp
      exact absurd sp (by decide)
    have o : mq_od G A p = decide (mq_ct (mq_C G A p) 8 % 2 = 1) := by unfold mq_od; rw [f]; rfl
    by_cases y : mq_ct (mq_C G A p) 8 % 2 = 1
    · rw [mq_ct_t (o.trans (decide_eq_true y)), y]
    · rw [mq_ct_f (o.trans (decide_eq_false y))]
      omega
theorem mq_Sn_to {G : Nat → Nat → Bool} {A S : Nat → Bool} {p : Nat} (h : mq_Sn G A p S) : ∀ q, p ≤ q → q ≤ 8 → (∀ i, p ≤ i → i < q → ¬ (A i = true ∧ S i = false)) → mq_Sn G A q S ∧ mq_ct (mq_od G A) q = mq_ct (mq_od G A) p := by
  intro q
  induction q with
  | zero =>
    intro h1 _ _
    have e : p = 0 := by omega
    subst e
    exact ⟨h, rfl⟩
  | succ q ih =>
    intro h1 h2 h3
    rcases Nat.lt_or_ge q p with y | y
    · have e : p = q + 1 := by omega
      subst e
      exact ⟨h, rfl⟩
    · obtain ⟨a, b⟩ := ih y (by omega) (fun i hi hi2 => h3 i hi (by omega))
      obtain ⟨c, d⟩ := mq_Sn_skip (by omega) a (h3 q y (by omega))
      exact ⟨c, d.trans b⟩
theorem mq_C_left {G : Nat → Nat → Bool} (hG : mq_Gr G) {A S L : Nat → Bool} {p p0 : Nat} (h : mq_Sn G A p0 S) (hl : ∀ i, i < 8 → L i = (A i && !S i)) (hp : p < 8) (lp : L p = true) : ∀ i, i < 8 → mq_C G L p i = mq_C G A p i := by
  have la : ∀ i, i < 8 → L i = true → A i = true ∧ S i = false := by
    intro i hi z
    rw [hl i hi] at z
    simpa using z
  intro i hi
  refine mq_bi (fun z => ?_) (fun z => ?_)
  · exact mq_C_le z mq_C_self (fun a b ha hb x g lb => mq_C_cl a b ha hb x g (la b hb lb).1)
  · refine mq_C_le (X := mq_C G L p) z mq_C_self (fun a b ha hb x g ab => ?_)
    have l := la a ha (mq_C_in lp x)
    refine mq_C_cl a b ha hb x g ?_
    rw [hl b hb, ab]
    cases sb : S b
    · rfl
    · obtain ⟨j, j1, j2, j3⟩ := (h b hb).mp sb
      have := (h a ha).mpr ⟨j, j1, j2, mq_C_cl b a hb ha j3 (by rw [(hG b a hb ha).1]; exact g) l.1⟩
      rw [l.2] at this
      exact absurd this (by decide)
theorem mq_C_congr {G : Nat → Nat → Bool} {A B : Nat → Bool} {p : Nat} (h : ∀ i, i < 8 → A i = B i) (i : Nat) : mq_C G A p i = mq_C G B p i := by
  refine mq_bi (fun z => mq_C_of (fun X hp hc => mq_C_le z hp ?_)) (fun z => mq_C_of (fun X hp hc => mq_C_le z hp ?_))
  · exact fun a b ha hb x g ab => hc a b ha hb x g (by rw [← h b hb]; exact ab)
  · exact fun a b ha hb x g ab => hc a b ha hb x g (by rw [h b hb]; exact ab)
