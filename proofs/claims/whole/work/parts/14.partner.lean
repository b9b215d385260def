/-! partner -/
theorem mq_m4 : ∀ x, x < 8 → ¬ nI x = -4 := by decide +kernel
theorem mq_xFirst {post : Int32 → Prop} {near pairs : Nat → Int32} {g mm F : Nat → Nat} {m a r : Nat} (hn : mq_St near g) (hG : mq_Gr (mq_G g)) (hP : mq_Pt g pairs mm) (hF : mq_Fst (mq_G g) F m) (ha : a < 8) (r8 : r < 256)
    (hr : ∀ i, i < 8 → r.testBit i = mq_Rs F a i) (ra : mq_Rs F a a = true) (h : post (if F a = a then -4 else nI (F a))) : wpX_firstPartner post (near, pairs) (nI a) (nI r) := by
  have f8 := (hF.1 a ha).1
  have M1 : mq_M (mq_G g) (mq_Rs F a) (mm r) := mq_M_congr hr (hP r r8).2
  have M2 : ∀ q, q < 8 → mq_M (mq_G g) (mq_rm (mq_rm (mq_Rs F a) a) q) (mm (mq_wo (mq_wo r a) q)) := fun q hq =>
    mq_M_congr (fun i hi => by rw [mq_wo2_tb r ha hq hi]; exact mq_rm_congr (mq_rm_congr (hr i hi))) (hP _ (mq_wo_lt q (mq_wo_lt a r8))).2
  refine loop_0 (fun n q (_ : Unit) => wX_firstPartner_2 post (nI a) (nI r) near pairs n (nI q)) (fun q _ => F a = a ∨ q ≤ F a) 8 () (Or.inr (Nat.zero_le _)) ?_ ?_
  · intro n _ I
    have e : F a = a := by
      rcases I with I | I
      · exact I
      · omega
    rw [if_pos e] at h
    exact br_t (nI_le (a := 8) (b := 8) (by omega) (by decide)) h
  · intro n q _ hq I k
    have next : (F a ≠ a → F a = q → False) → wX_firstPartner_2 post (nI a) (nI r) near pairs n (nI (q + 1)) := by
      intro w
      refine k () ?_
      by_cases e : F a = a
      · exact Or.inl e
      · rcases I with I | I
        · exact absurd I e
        · have : F a ≠ q := fun y => w e y
          exact Or.inr (by omega)
    refine br_f (nI_ge (b := 8) hq (by decide)) (mq_xHas r8 hq (fun z => br_f (by decide) ?_) (fun z => br_t rfl (nm_r (nI_1 q) (next (fun e1 e2 => ?_)))))
    · have rq : mq_Rs F a q = true := by rw [← hr q hq]; exact z
      refine mq_xPairIn hn hP ha hq r8 (fun gq e => br_f (by decide) ?_) (fun no => br_t rfl (nm_r (nI_1 q) (next (fun e1 e2 => ?_))))
      · obtain ⟨b1, b2⟩ := mq_Fst_B hG hF ha hq ra rq gq M1 (M2 q hq) e
        have e3 : F a = q := by
          rcases I with I | I
          · exact absurd I b1
          · omega
        rw [if_neg b1, e3] at h
        exact h
      · subst e2
        obtain ⟨c1, c2, c3⟩ := mq_Fst_C hG hF ha ra e1 M1 (M2 _ f8)
        exact no c2 c3
    · have c := (mq_Rs_cl hF.1 a a ha)
      rw [e2, ra] at c
      rw [hr q hq, ← c] at z
      exact absurd z (by decide)
theorem mq_xPartner {post : Int32 → Prop} {near pairs : Nat → Int32} {g mm F : Nat → Nat} {m p : Nat} (hn : mq_St near g) (hG : mq_Gr (mq_G g)) (hP : mq_Pt g pairs mm) (hF : mq_Fst (mq_G g) F m) (hp : p < 8)
    (h : post (if F p = p then -4 else nI (F p))) : wpX_partner post (near, pairs) (nI p) := by
  unfold wpX_partner
  dsimp only
  refine mq_xPointT hp (br_f (by decide) ?_)
  have fp := hF.1 p hp
  refine loop_0 (fun n a (s : Int32 × Nat) => wX_partner_19 post (nI p) near pairs n s.1 (nI s.2) (nI a))
    (fun a s => s.2 < 256 ∧ (∀ i, i < 8 → s.2.testBit i = mq_Rs F a i) ∧ s.1 = (if F p < a ∨ p < a then (if F p = p then -4 else nI (F p)) else -4)) (p + 1) ((-4 : Int32), 255) ⟨by decide, fun i hi => ?_, ?_⟩ ?_ ?_
  · rw [mq_Rs_of (Nat.zero_le _) (Nat.zero_le _)]; exact mq_tt255 i hi
  · rw [if_neg (by omega)]
  · intro n s ⟨_, _, i3⟩
    refine br_t (nI_lt (a := p) (b := p + 1) (by omega) (by omega)) ?_
    show post s.1
    rw [i3, if_pos (Or.inr (Nat.lt_succ_self p))]
    exact h
  · intro n a s ha ⟨i1, i2, i3⟩ k
    obtain ⟨fd, r⟩ := s
    have i1' : r < 256 := i1
    have i2' : ∀ i, i < 8 → r.testBit i = mq_Rs F a i := i2
    have i3' : fd = (if F p < a ∨ p < a then (if F p = p then -4 else nI (F p)) else -4) := i3
    clear i1 i2 i3
    have a8 : a < 8 := by omega
    have fa := hF.1 a a8
    have keep : F p ≠ a → a ≠ p → fd = (if F p < a + 1 ∨ p < a + 1 then (if F p = p then -4 else nI (F p)) else -4) := by
      intro w1 w2
      rw [i3']
      have y : (F p < a + 1 ∨ p < a + 1) = (F p < a ∨ p < a) := propext ⟨fun _ => by omega, fun _ => by omega⟩
      simp only [y]
    refine br_f (nI_nlt (a := p) (b := a) (by omega) (by omega)) (mq_xHas i1' a8 (fun z => br_f (by decide) ?_) (fun z => br_t rfl (nm_r (nI_1 a) (k (fd, r) ⟨i1', fun i hi => ?_, ?_⟩))))
    · have ra : mq_Rs F a a = true := by rw [← i2' a a8]; exact z
      have K : ∀ fd' : Int32, fd' = (if F p < a + 1 ∨ p < a + 1 then (if F p = p then -4 else nI (F p)) else -4) →
          wX_partner_64 post (wX_partner_19 post (nI p) near pairs n) (nI p) fd' (nI r) (nI a) (if F a = a then -4 else nI (F a)) near pairs := by
        intro fd' hfd
        unfold wX_partner_64
        refine mq_xWithout i1' a8 ?_
        have w8 := mq_wo_lt a i1'
        by_cases e : F a = a
        · rw [if_pos e]
          refine br_t rfl (nm_r (nI_1 a) (k (fd', mq_wo r a) ⟨w8, fun i hi => ?_, hfd⟩))
          rw [mq_Rs_s hF.1 a8 i hi, e]
          show (mq_wo r a).testBit i = _
          rw [mq_wo_tb r a8 hi]
          by_cases y : i = a
          · rw [y, mq_rm_p, mq_rm_p]
          · rw [mq_rm_n y, mq_rm_n y, mq_rm_n y]; exact i2' i hi
        · rw [if_neg e]
          refine br_f (mq_m4 _ fa.1) (mq_xWithout w8 fa.1 (nm_r (nI_1 a) (k (fd', mq_wo (mq_wo r a) (F a)) ⟨mq_wo_lt _ w8, fun i hi => ?_, hfd⟩)))
          rw [mq_Rs_s hF.1 a8 i hi]
          show (mq_wo (mq_wo r a) (F a)).testBit i = _
          rw [mq_wo2_tb r a8 fa.1 hi]
          exact mq_rm_congr (mq_rm_congr (i2' i hi))
      refine mq_xFirst hn hG hP hF a8 i1' i2' ra ?_
      refine pk_eq a p (fun e => K _ ?_) (fun e => ?_)
      · rw [if_pos (Or.inr (by omega)), e]
      · by_cases e2 : F a = a
        · have n1 : F p ≠ a := fun w => by
            have : F (F p) = F a := by rw [w]
            rw [fp.2, e2] at this
            exact e this.symm
          have K' := K fd (keep n1 e)
          rw [if_pos e2] at K' ⊢
          exact br_f (fun w => mq_m4 p hp w.symm) K'
        · by_cases e3 : F a = p
          · have n1 : F p = a := by rw [← e3]; exact fa.2
            have K' := K (nI a) (by rw [if_pos (Or.inl (by omega)), n1, if_neg e])
            rw [if_neg e2] at K' ⊢
            exact br_t (by rw [e3]) K'
          · have n1 : F p ≠ a := fun w => by
              have : F (F p) = F a := by rw [w]
              rw [fp.2] at this
              exact e3 this.symm
            have K' := K fd (keep n1 e)
            rw [if_neg e2] at K' ⊢
            exact br_f (fun w => e3 ((nI_eq (by omega) (by omega)).mp w)) K'
    · show r.testBit i = mq_Rs F (a + 1) i
      have z' : mq_Rs F a a = false := by rw [← i2' a a8]; exact z
      rw [mq_Rs_s hF.1 a8 i hi, i2' i hi]
      by_cases y : i = F a
      · rw [y, mq_rm_p, ← mq_Rs_cl hF.1 a a a8, z']
      · rw [mq_rm_n y]
        by_cases y2 : i = a
        · rw [y2, mq_rm_p, z']
        · rw [mq_rm_n y2]
    · show fd = _
      have z' : mq_Rs F a a = false := by rw [← i2' a a8]; exact z
      have lt : F a < a := by
        rcases Nat.lt_or_ge (F a) a with y | y
        · exact y
        · rw [mq_Rs_of (Nat.le_refl a) y] at z'
          exact absurd z' (by decide)
      by_cases e : a = p
      · rw [i3', if_pos (Or.inl (by rw [← e]; exact lt)), if_pos (Or.inr (by omega))]
      · exact keep (fun w => by rw [← w, fp.2] at lt; omega) e
section
variable {my : Int32} {near pgs wt dc : Nat → Int32} {g : Nat → Nat}
theorem mq_yPartner {post : Int32 → Prop} {m p n0 : Nat} (hn : mq_St near g) (hT : mq_Ta pgs) (hM : mq_M (mq_G g) (fun _ => true) m) (hp : p < 8) (hn0 : n0 < 764) (g0 : mq_gb (mq_G g) m n0 = true) (l0 : ∀ n, n < n0 → mq_gb (mq_G g) m n = false)
    (h : post (if mq_at (mq_T n0) p = p then -4 else nI (mq_at (mq_T n0) p))) : wpY_partner post (my, near, pgs, wt, dc) (nI p) := by
  unfold wpY_partner
  dsimp only
  have m4 := mq_M_le4 hM
  refine br_f (nI_pos (by omega)) (br_t (nI_le (a := p) (b := 7) (by omega) (by decide)) (mq_yMostAll hn hT hM ?_))
  refine loop_0 (fun k n (_ : Unit) => wY_partner_22 post (nI p) (nI m) my near pgs wt dc k (nI n)) (fun _ _ => True) n0 () True.intro ?_ ?_
  · intro k _ _
    show wY_partner_22 post (nI p) (nI m) my near pgs wt dc (k + 1) (nI n0)
    rw [wY_partner_22]
    refine mq_yGreat hn hT hn0 m4 (fun _ => br_f (by decide) (mq_yPart hT hn0 hp ?_)) (fun z => absurd (g0.symm.trans z) (by decide))
    have f8 := mq_at_lt (mq_T n0) p
    refine pk_eq (mq_at (mq_T n0) p) p (fun e => ?_) (fun e => ?_)
    · rw [if_pos e] at h; exact h
    · rw [if_neg e] at h; exact h
  · intro k n _ hn1 _ K
    show wY_partner_22 post (nI p) (nI m) my near pgs wt dc (k + 1) (nI n)
    rw [wY_partner_22]
    exact mq_yGreat hn hT (by omega) m4 (fun z => absurd ((l0 n hn1).symm.trans z) (by decide)) (fun _ => br_t rfl (nm_r (nI_1 n) (K () True.intro)))
end
