/-! critical, missing -/
def mq_CR (mm : Nat → Nat) (s : Nat) : Prop := mq_ct s.testBit 8 % 2 = 1 ∧ ∀ p, p < 8 → s.testBit p = true → 2 * mm (mq_wo s p) + 1 = mq_ct s.testBit 8
theorem mq_rem2 {c : Nat} (h : c < 2 ^ 31) : nI c - nI c / 2 * 2 = nI (c % 2) := pk_rem (d := 2) h (by decide) (by decide)
theorem mq_xCrit {post : Int32 → Prop} {near pairs : Nat → Int32} {g mm : Nat → Nat} {s : Nat} (hP : mq_Pt g pairs mm) (hs : s < 256) (h1 : mq_CR mm s → post 1) (h0 : ¬ mq_CR mm s → post 0) : wpX_critical post (near, pairs) (nI s) := by
  unfold wpX_critical
  dsimp only
  refine mq_xSetT hs (br_f (by decide) (mq_xSize hs ⟨by decide, ?_⟩))
  have c8 : mq_ct s.testBit 8 ≤ 8 := mq_ct_le _ 8
  have cr : mq_CR mm s ↔ mq_ct s.testBit 8 % 2 = 1 ∧ ∀ p, p < 8 → s.testBit p = true → 2 * mm (mq_wo s p) + 1 = mq_ct s.testBit 8 := Iff.rfl
  generalize mq_ct s.testBit 8 = c at c8 cr ⊢
  refine pk_eq (c % 2) 0 (fun y => h0 (fun z => by have := (cr.mp z).1; omega)) (fun y => ?_) (mq_rem2 (by omega))
  refine loop_0 (fun n p (_ : Unit) => wX_critical_24 post (nI s) (nI c) near pairs n (nI p)) (fun p _ => ∀ p', p' < p → s.testBit p' = true → 2 * mm (mq_wo s p') + 1 = c) 8 () (fun p' hp' => absurd hp' (Nat.not_lt_zero p')) ?_ ?_
  · intro n _ I
    exact br_t (nI_le (a := 8) (b := 8) (by omega) (by decide)) (h1 (cr.mpr ⟨by omega, I⟩))
  · intro n p _ hp I k
    have o8 := mq_wo_lt p hs
    have m4 := mq_M_le4 (hP _ o8).2
    have next : (s.testBit p = true → 2 * mm (mq_wo s p) + 1 = c) → wX_critical_24 post (nI s) (nI c) near pairs n (nI (p + 1)) := by
      intro w
      refine k () (fun p' hp' a => ?_)
      rcases Nat.lt_or_ge p' p with y | y
      · exact I p' y a
      · have e : p' = p := by omega
        rw [e] at a ⊢
        exact w a
    refine br_f (nI_ge (b := 8) hp (by decide)) (mq_xWithout hs hp (mq_xHas hs hp (fun z => br_f (by decide) ⟨vp_in_nI o8 (by decide), ?_⟩) (fun z => br_t rfl (nm_r (nI_1 p) (next (fun w => absurd (z.symm.trans w) (by decide)))))))
    exact pk_eq (2 * mm (mq_wo s p)) (c - 1) (fun y => nm_r (nI_1 p) (next (fun _ => by omega))) (fun y => h0 (fun w => by have := (cr.mp w).2 p hp z; omega)) (by rw [nI_clamp (by omega), (hP _ o8).1]; exact pk_mul 2 _) (pk_sub (b := 1) (by omega))
theorem mq_wo_eq {s p : Nat} (hs : s < 256) (hp : p < 8) : mq_wo s p = s ↔ s.testBit p = false := by
  constructor
  · intro e
    apply mq_bt
    intro z
    have := mq_wo_less s hs p hp z
    omega
  · intro z
    refine mq_ext8 (mq_wo_lt p hs) hs (fun i hi => ?_)
    rw [mq_wo_tb s hp hi]
    by_cases e : i = p
    · rw [e, mq_rm_p, z]
    · rw [mq_rm_n e]
theorem mq_wo_ct {s p : Nat} (hp : p < 8) (z : s.testBit p = true) : mq_ct s.testBit 8 = mq_ct (mq_wo s p).testBit 8 + 1 := by
  refine mq_ct_one 8 hp ?_ z (fun i hi hne => ?_)
  · rw [mq_wo_tb s hp hp, mq_rm_p]
  · rw [mq_wo_tb s hp hi, mq_rm_n hne]
section
variable {my : Int32} {near pgs wt dc : Nat → Int32} {g : Nat → Nat}
theorem mq_yCrit {post : Int32 → Prop} {mm : Nat → Nat} {s : Nat} (hn : mq_St near g) (hT : mq_Ta pgs) (hM : ∀ s, s < 256 → mq_M (mq_G g) s.testBit (mm s)) (hs : s < 256) (h1 : mq_CR mm s → post 1) (h0 : ¬ mq_CR mm s → post 0) : wpY_critical post (my, near, pgs, wt, dc) (nI s) := by
  unfold wpY_critical
  dsimp only
  refine mq_ySetT hs (br_f (by decide) (mq_yBits hs ⟨by decide, ?_⟩))
  have c8 : mq_ct s.testBit 8 ≤ 8 := mq_ct_le _ 8
  refine pk_eq (mq_ct s.testBit 8 % 2) 0 (fun y => h0 (fun z => by have := z.1; omega)) (fun y => ?_) (mq_rem2 (by omega))
  refine loop_0 (fun n p (_ : Unit) => wY_critical_22 post (nI s) my near pgs wt dc n (nI p)) (fun p _ => ∀ p', p' < p → s.testBit p' = true → 2 * mm (mq_wo s p') + 1 = mq_ct s.testBit 8) 8 () (fun p' hp' => absurd hp' (Nat.not_lt_zero p')) ?_ ?_
  · intro n _ I
    exact br_t (nI_le (a := 8) (b := 8) (by omega) (by decide)) (h1 ⟨by omega, I⟩)
  · intro n p _ hp I k
    have o8 := mq_wo_lt p hs
    have next : (s.testBit p = true → 2 * mm (mq_wo s p) + 1 = mq_ct s.testBit 8) → wY_critical_22 post (nI s) my near pgs wt dc n (nI (p + 1)) := by
      intro w
      refine k () (fun p' hp' a => ?_)
      rcases Nat.lt_or_ge p' p with y | y
      · exact I p' y a
      · have e : p' = p := by omega
        rw [e] at a ⊢
        exact w a
    refine br_f (nI_ge (b := 8) hp (by decide)) (nm_r (e' := nI (mq_wo s p)) (by rw [mq_sh1 p hp, mq_wo_n hs hp]) (pk_eq (mq_wo s p) s (fun e => nm_r (nI_1 p) (next (fun w => absurd (((mq_wo_eq hs hp).mp e).symm.trans w) (by decide)))) (fun e => mq_yMost hn hT o8 (fun m hm => mq_yBits o8 ?_))))
    have e2 := mq_M_uni hm (hM _ o8)
    have m4 := mq_M_le4 hm
    have z : s.testBit p = true := mq_bf (fun w => e ((mq_wo_eq hs hp).mpr w))
    have ct := mq_wo_ct hp z
    exact pk_eq (2 * m) (mq_ct (mq_wo s p).testBit 8) (fun y => nm_r (nI_1 p) (next (fun _ => by omega))) (fun y => h0 (fun w => by have := w.2 p hp z; omega)) (pk_mul 2 m)
theorem mq_yMiss {post : Int32 → Prop} {m : Nat} (hn : mq_St near g) (hT : mq_Ta pgs) (hG : mq_Gr (mq_G g)) (hM : mq_M (mq_G g) (fun _ => true) m) (h : post (nI (4 - m))) : wpY_missing post (my, near, pgs, wt, dc) := by
  have m4 := mq_M_le4 hM
  refine loop_0 (fun k n (l : Nat) => wY_missing_5 post my near pgs wt dc k (nI l) (nI n)) (fun n l => l ≤ 100 ∧ (l = 100 ∨ ∃ n', n' < n ∧ l = mq_lk (mq_G g) (mq_at (mq_T n')) 8) ∧ ∀ n', n' < n → l ≤ mq_lk (mq_G g) (mq_at (mq_T n')) 8) 764 100 ⟨by omega, Or.inl rfl, fun n' hn' => absurd hn' (Nat.not_lt_zero n')⟩ ?_ ?_
  · intro k l ⟨i1, i2, i3⟩
    refine br_t (nI_le (a := 764) (b := 764) (by omega) (by decide)) ⟨by decide, ?_⟩
    have e := mq_miss hG hM i2 i3
    have e2 : nI l / 2 = nI (l / 2) := pk_div (d := 2) (by omega) (by decide) (by decide)
    have e3 : l / 2 = 4 - m := by omega
    rw [e2, e3]
    exact h
  · intro k n l hn7 ⟨i1, i2, i3⟩ K
    refine br_f (nI_ge (b := 764) hn7 (by decide)) ?_
    refine loop_0 (fun j p (c : Nat) => wY_missing_17 post (wY_missing_5 post my near pgs wt dc k) (nI l) (nI n) my near pgs wt dc j (nI c) (nI p)) (fun p c => c = mq_lk (mq_G g) (mq_at (mq_T n)) p) 8 0 rfl ?_ ?_
    · intro j c hc
      have cl := mq_lk_le (mq_G g) (mq_at (mq_T n)) 8
      rw [← hc] at cl
      refine br_t (nI_le (a := 8) (b := 8) (by omega) (by decide)) (pk_le l c (fun y => nm_r (nI_1 n) (K l ⟨i1, ?_, fun n' hn' => ?_⟩)) (fun y => nm_r (nI_1 n) (K c ⟨by omega, Or.inr ⟨n, by omega, hc⟩, fun n' hn' => ?_⟩)))
      · rcases i2 with w | ⟨n', w1, w2⟩
        · exact Or.inl w
        · exact Or.inr ⟨n', by omega, w2⟩
      · rcases Nat.lt_or_ge n' n with w | w
        · exact i3 n' w
        · have e : n' = n := by omega
          rw [e, ← hc]
          exact y
      · rcases Nat.lt_or_ge n' n with w | w
        · have := i3 n' w
          omega
        · have e : n' = n := by omega
          rw [e, ← hc]
          exact Nat.le_refl _
    · intro j p c hp hc k2
      have f8 := mq_at_lt (mq_T n) p
      refine br_f (nI_ge (b := 8) hp (by decide)) (mq_yPart hT hn7 hp (pk_eq (mq_at (mq_T n) p) p (fun e => nm_r (nI_add c 100) (nm_r (nI_1 p) (k2 (c + 100) ?_))) (fun e => mq_yHas hn hp f8 (fun z => br_f (by decide) (nm_r (nI_1 p) (k2 c ?_))) (fun z => br_t rfl (nm_r (nI_1 c) (nm_r (nI_1 p) (k2 (c + 1) ?_)))))))
      · simp only [mq_lk]
        rw [if_pos e, hc]
      · simp only [mq_lk]
        rw [if_neg e, if_pos z, hc]
        rfl
      · simp only [mq_lk]
        rw [if_neg e, if_neg (by rw [z]; decide), hc]
end
