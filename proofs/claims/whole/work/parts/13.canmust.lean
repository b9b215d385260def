/-! can, must -/
section
variable {my : Int32} {near pgs wt dc : Nat → Int32} {g : Nat → Nat}
noncomputable def mq_cw (g : Nat → Nat) (m p q n : Nat) : Bool := (decide (p = q) || decide (mq_at (mq_T n) p = q)) && mq_gb (mq_G g) m n
theorem mq_yCount {post : Int32 → Prop} {m p q : Nat} (hn : mq_St near g) (hT : mq_Ta pgs) (hM : mq_M (mq_G g) (fun _ => true) m) (hp : p < 8) (hq : q < 8) (h : post (nI (mq_ct (mq_cw g m p q) 764))) : wpY_countWith post (my, near, pgs, wt, dc) (nI p) (nI q) := by
  unfold wpY_countWith
  dsimp only
  refine mq_yMostAll hn hT hM ?_
  have m4 := mq_M_le4 hM
  refine loop_0 (fun k n (c : Nat) => wY_countWith_14 post (nI p) (nI q) (nI m) my near pgs wt dc k (nI c) (nI n)) (fun n c => c = mq_ct (mq_cw g m p q) n) 764 0 rfl ?_ ?_
  · intro k c hc
    subst hc
    exact br_t (nI_le (a := 764) (b := 764) (by omega) (by decide)) h
  · intro k n c hn7 hc K
    have f8 := mq_at_lt (mq_T n) p
    have no : mq_cw g m p q n = false → wY_countWith_14 post (nI p) (nI q) (nI m) my near pgs wt dc k (nI c) (nI (n + 1)) := fun z => K c (by rw [mq_ct_f z, hc])
    have yes : mq_cw g m p q n = true → wY_countWith_14 post (nI p) (nI q) (nI m) my near pgs wt dc k (nI (c + 1)) (nI (n + 1)) := fun z => K (c + 1) (by rw [mq_ct_t z, hc])
    have has : (p = q ∨ mq_at (mq_T n) p = q) → wY_countWith_43 post (wY_countWith_14 post (nI p) (nI q) (nI m) my near pgs wt dc k) (nI p) (nI q) (nI m) (nI c) (nI n) 1 my near pgs wt dc := by
      intro z
      have e : (decide (p = q) || decide (mq_at (mq_T n) p = q)) = true := by
        rw [Bool.or_eq_true, decide_eq_true_eq, decide_eq_true_eq]; exact z
      refine br_f (by decide) (mq_yGreat hn hT hn7 m4 (fun y => br_f (by decide) (nm_r (nI_1 c) (nm_r (nI_1 n) (yes ?_)))) (fun y => br_t rfl (nm_r (nI_1 n) (no ?_))))
      · unfold mq_cw; rw [e, y]; rfl
      · unfold mq_cw; rw [y, Bool.and_false]
    refine br_f (nI_ge (b := 764) hn7 (by decide)) (pk_eq p q (fun e => has (Or.inl e)) (fun e => mq_yPart hT hn7 hp (pk_eq (mq_at (mq_T n) p) q (fun e2 => has (Or.inr e2)) (fun e2 => br_t rfl (nm_r (nI_1 n) (no ?_))))))
    unfold mq_cw
    rw [decide_eq_false e, decide_eq_false e2]
    rfl
theorem mq_yCan {post : Int32 → Prop} {m p q : Nat} (hn : mq_St near g) (hT : mq_Ta pgs) (hG : mq_Gr (mq_G g)) (hM : mq_M (mq_G g) (fun _ => true) m) (hp : p < 8) (hq : q < 8)
    (h1 : mq_G g p q = true → (∃ n, n < 764 ∧ mq_gb (mq_G g) m n = true ∧ mq_at (mq_T n) p = q) → post 1) (h0 : (mq_G g p q = true → ¬ ∃ n, n < 764 ∧ mq_gb (mq_G g) m n = true ∧ mq_at (mq_T n) p = q) → post 0) : wpY_can post (my, near, pgs, wt, dc) (nI p) (nI q) := by
  unfold wpY_can
  dsimp only
  by_cases e : p = q
  · have z : mq_G g p q = false := by rw [← e]; exact (hG p p hp hp).2
    exact mq_yPointF (Or.inr (Or.inr (by rw [e]))) (br_t rfl (h0 (fun w => by rw [z] at w; exact absurd w (by decide))))
  · refine mq_yPointT hp hq e (br_f (by decide) (mq_yHas hn hp hq (fun z => br_f (by decide) (mq_yCount hn hT hM hp hq ?_)) (fun z => br_t rfl (h0 (fun w => by rw [z] at w; exact absurd w (by decide))))))
    have l := mq_ct_le (mq_cw g m p q) 764
    have ps : 0 < mq_ct (mq_cw g m p q) 764 ↔ ∃ n, n < 764 ∧ mq_gb (mq_G g) m n = true ∧ mq_at (mq_T n) p = q := by
      rw [mq_ct_pos]
      constructor
      · rintro ⟨n, a, b⟩
        unfold mq_cw at b
        rw [decide_eq_false e, Bool.false_or, Bool.and_eq_true, decide_eq_true_eq] at b
        exact ⟨n, a, b.2, b.1⟩
      · rintro ⟨n, a, b, c⟩
        refine ⟨n, a, ?_⟩
        unfold mq_cw
        rw [decide_eq_false e, Bool.false_or, Bool.and_eq_true, decide_eq_true_eq]
        exact ⟨c, b⟩
    exact pk_le (mq_ct (mq_cw g m p q) 764) 0 (fun y => h0 (fun _ w => by have := ps.mpr w; omega)) (fun y => h1 z (ps.mp y))
theorem mq_yMust {post : Int32 → Prop} {m p q : Nat} (hn : mq_St near g) (hT : mq_Ta pgs) (hG : mq_Gr (mq_G g)) (hM : mq_M (mq_G g) (fun _ => true) m) (hp : p < 8) (hq : q < 8)
    (h1 : mq_G g p q = true → (∀ n, n < 764 → mq_gb (mq_G g) m n = true → mq_at (mq_T n) p = q) → post 1) (h0 : (mq_G g p q = true → ¬ ∀ n, n < 764 → mq_gb (mq_G g) m n = true → mq_at (mq_T n) p = q) → post 0) : wpY_must post (my, near, pgs, wt, dc) (nI p) (nI q) := by
  unfold wpY_must
  dsimp only
  by_cases e : p = q
  · have z : mq_G g p q = false := by rw [← e]; exact (hG p p hp hp).2
    exact mq_yPointF (Or.inr (Or.inr (by rw [e]))) (br_t rfl (h0 (fun w => by rw [z] at w; exact absurd w (by decide))))
  · refine mq_yPointT hp hq e (br_f (by decide) (mq_yHas hn hp hq (fun z => br_f (by decide) (mq_yCount hn hT hM hp hq ?_)) (fun z => br_t rfl (h0 (fun w => by rw [z] at w; exact absurd w (by decide))))))
    have l := mq_ct_le (mq_cw g m p q) 764
    have l0 := mq_ct_le (mq_cw g m 0 0) 764
    have e0 : mq_ct (mq_cw g m 0 0) 764 = mq_ct (mq_gb (mq_G g) m) 764 := mq_ct_congr 764 (fun i _ => by
      unfold mq_cw
      rw [decide_eq_true rfl, Bool.true_or, Bool.true_and])
    have eq : mq_ct (mq_cw g m p q) 764 = mq_ct (mq_cw g m 0 0) 764 ↔ ∀ n, n < 764 → mq_gb (mq_G g) m n = true → mq_at (mq_T n) p = q := by
      have c := mq_ct_eq (h := fun n => decide (p = q) || decide (mq_at (mq_T n) p = q)) (g := mq_gb (mq_G g) m) (N := 764)
      have c' : mq_ct (mq_cw g m p q) 764 = mq_ct (mq_gb (mq_G g) m) 764 ↔ ∀ n, n < 764 → mq_gb (mq_G g) m n = true → (decide (p = q) || decide (mq_at (mq_T n) p = q)) = true := c
      rw [e0, c']
      constructor
      · intro w n hn' gn
        have := w n hn' gn
        rw [decide_eq_false e, Bool.false_or, decide_eq_true_eq] at this
        exact this
      · intro w n hn' gn
        rw [decide_eq_false e, Bool.false_or, decide_eq_true_eq]
        exact w n hn' gn
    refine mq_yCount (p := 0) (q := 0) hn hT hM (by decide) (by decide) ?_
    exact pk_eq (mq_ct (mq_cw g m p q) 764) (mq_ct (mq_cw g m 0 0) 764) (fun y => h1 z (eq.mp y)) (fun y => h0 (fun _ w => y (eq.mpr w)))
end
theorem mq_xCan {post : Int32 → Prop} {near pairs : Nat → Int32} {g mm : Nat → Nat} {p q : Nat} (hn : mq_St near g) (hG : mq_Gr (mq_G g)) (hP : mq_Pt g pairs mm) (hp : p < 8) (hq : q < 8)
    (h1 : mq_G g p q = true → (∃ n, n < 764 ∧ mq_gb (mq_G g) (mm 255) n = true ∧ mq_at (mq_T n) p = q) → post 1) (h0 : (mq_G g p q = true → ¬ ∃ n, n < 764 ∧ mq_gb (mq_G g) (mm 255) n = true ∧ mq_at (mq_T n) p = q) → post 0) : wpX_can post (near, pairs) (nI p) (nI q) := by
  unfold wpX_can
  dsimp only
  refine mq_xPointT hp (br_f (by decide) (mq_xPointT hq (br_f (by decide) ?_)))
  refine mq_xPairIn (post := fun r_5 => ((r_5 = 0 → post 0) ∧ (¬ r_5 = 0 → post 1))) (s := 255) hn hP hp hq (by decide) (fun z e => br_f (by decide) (h1 z ?_)) (fun no => br_t rfl (h0 (fun z w => no z ?_)))
  · exact (mq_pairT hG hp hq z (mq_Pt_all hP) (mq_Pt_pair hP hp hq)).mp e
  · exact (mq_pairT hG hp hq z (mq_Pt_all hP) (mq_Pt_pair hP hp hq)).mpr w
theorem mq_xMust {post : Int32 → Prop} {near pairs : Nat → Int32} {g mm : Nat → Nat} {p q : Nat} (hn : mq_St near g) (hG : mq_Gr (mq_G g)) (hP : mq_Pt g pairs mm) (hp : p < 8) (hq : q < 8)
    (h1 : mq_G g p q = true → (∀ n, n < 764 → mq_gb (mq_G g) (mm 255) n = true → mq_at (mq_T n) p = q) → post 1) (h0 : (mq_G g p q = true → ¬ ∀ n, n < 764 → mq_gb (mq_G g) (mm 255) n = true → mq_at (mq_T n) p = q) → post 0) : wpX_must post (near, pairs) (nI p) (nI q) := by
  unfold wpX_must
  dsimp only
  have o := mq_outT hp (mq_Pt_all hP) (mq_Pt_out hP hp)
  refine mq_xPointT hp (br_f (by decide) (mq_xPointT hq (br_f (by decide) (mq_xIsLine hn hp hq (fun z => br_f (by decide) ?_) (fun z => br_t rfl (h0 (fun w => by rw [z] at w; exact absurd w (by decide))))))))
  have hne := mq_Gr_ne hG hp z
  refine mq_xLoose hP hp (fun e => br_f (by decide) (h0 (fun _ w => ?_))) (fun ne => br_t rfl ?_)
  · obtain ⟨n, a, b, c⟩ := o.mp e
    exact hne (c.symm.trans (w n a b))
  · refine loop_0 (fun n r (_ : Unit) => wX_must_35 post (nI p) (nI q) near pairs n (nI r)) (fun r _ => ∀ r', r' < r → r' ≠ q → mq_G g p r' = true → 1 + mm (mq_wo (mq_wo 255 p) r') ≠ mm 255) 8 () (fun r' hr' => absurd hr' (Nat.not_lt_zero r')) ?_ ?_
    · intro n _ I
      refine br_t (nI_le (a := 8) (b := 8) (by omega) (by decide)) (h1 z (fun n hn7 gn => ?_))
      apply Classical.byContradiction
      intro y
      have f8 := mq_at_lt (mq_T n) p
      by_cases fp : mq_at (mq_T n) p = p
      · exact ne (o.mpr ⟨n, hn7, gn, fp⟩)
      · have gr := ((mq_gb_to gn).1 p hp fp).1
        exact I _ f8 y gr ((mq_pairT hG hp f8 gr (mq_Pt_all hP) (mq_Pt_pair hP hp f8)).mpr ⟨n, hn7, gn, rfl⟩)
    · intro n r _ hr I k
      have next : (r ≠ q → mq_G g p r = true → 1 + mm (mq_wo (mq_wo 255 p) r) ≠ mm 255) → wX_must_35 post (nI p) (nI q) near pairs n (nI (r + 1)) := by
        intro w
        refine k () (fun r' hr' a b => ?_)
        rcases Nat.lt_or_ge r' r with y | y
        · exact I r' y a b
        · have e : r' = r := by omega
          rw [e] at a b ⊢
          exact w a b
      refine br_f (nI_ge (b := 8) hr (by decide)) (pk_eq r q (fun e => nm_r (nI_1 r) (next (fun a => absurd e a))) (fun e => ?_))
      refine mq_xPairIn (post := fun r_16 => ((r_16 = 0 → (∀ x3_20 : Int32, x3_20 = nI r + 1 → wX_must_35 post (nI p) (nI q) near pairs n x3_20)) ∧ (¬ r_16 = 0 → post 0))) (s := 255) hn hP hp hr (by decide) (fun gr e2 => br_f (by decide) (h0 (fun _ w => ?_))) (fun no => br_t rfl (nm_r (nI_1 r) (next (fun _ => no))))
      obtain ⟨n', a, b, c⟩ := (mq_pairT hG hp hr gr (mq_Pt_all hP) (mq_Pt_pair hP hp hr)).mp e2
      exact e (c.symm.trans (w n' a b))
