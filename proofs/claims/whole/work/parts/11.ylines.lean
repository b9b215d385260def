/-! lines of the reference -/
section
variable {my : Int32} {near pgs wt dc : Nat → Int32} {g : Nat → Nat}
theorem mq_yLines {post : Int32 → SY → Prop} {p s : Nat} (hn : mq_St near g) (hG : mq_Gr (mq_G g)) (hp : p < 8) (hs : s < 256)
    (h : ∀ near', mq_St near' (mq_ln g p s) → post (nI (g p)) (my, near', pgs, wt, dc)) : wpY_lines post (my, near, pgs, wt, dc) (nI p) (nI s) := by
  unfold wpY_lines
  dsimp only
  refine br_f (nI_pos (by omega)) (br_f (nI_nlt (a := 7) (by omega) (by decide)) (mq_ySetT hs (br_f (by decide) ⟨vp_in_nI hp (by decide), nm_r (e' := nI (g p)) (by rw [nI_clamp (by omega), (hn p hp).1]) ?_⟩)))
  have lnl := mq_ln_lt (g := g) hp hs (fun i hi => (hn i hi).2)
  refine loop_0 (fun n q (a : Nat → Int32) => wY_lines_30 post (nI p) (nI s) (nI (g p)) n (nI q) my a pgs wt dc)
    (fun q a => ∃ h' : Nat → Nat, mq_St a h' ∧ (∀ i, i < 8 → i ≠ p → h' i = if i < q then mq_ln g p s i else g i) ∧ (∀ j, j < 8 → (h' p).testBit j = if j < q then (mq_ln g p s p).testBit j else (g p).testBit j)) 8 near
    ⟨g, hn, fun i _ _ => by rw [if_neg (Nat.not_lt_zero i)], fun j _ => by rw [if_neg (Nat.not_lt_zero j)]⟩ ?_ ?_
  · intro n a ⟨h', st, i1, i2⟩
    refine br_t (nI_le (a := 8) (b := 8) (by omega) (by decide)) (h a (fun i hi => ⟨?_, lnl i hi⟩))
    rw [(st i hi).1]
    by_cases e : i = p
    · have e2 : h' p = mq_ln g p s p := mq_ext8 (st p hp).2 (lnl p hp) (fun j hj => by rw [i2 j hj, if_pos hj])
      rw [e, e2]
    · rw [i1 i hi e, if_pos hi]
  · intro n q a hq ⟨h', st, i1, i2⟩ k
    have next : ∀ (a' : Nat → Int32) (h2 : Nat → Nat), mq_St a' h2 → (∀ i, i < 8 → i ≠ p → h2 i = if i = q then mq_ln g p s q else h' i) → (∀ j, j < 8 → (h2 p).testBit j = if j = q then (mq_ln g p s p).testBit j else (h' p).testBit j) →
        ∃ h' : Nat → Nat, mq_St a' h' ∧ (∀ i, i < 8 → i ≠ p → h' i = if i < q + 1 then mq_ln g p s i else g i) ∧ (∀ j, j < 8 → (h' p).testBit j = if j < q + 1 then (mq_ln g p s p).testBit j else (g p).testBit j) := by
      intro a' h2 st2 c1 c2
      refine ⟨h2, st2, fun i hi hne => ?_, fun j hj => ?_⟩
      · rw [c1 i hi hne]
        by_cases e : i = q
        · rw [if_pos e, if_pos (by omega), e]
        · have y : (i < q + 1) = (i < q) := propext ⟨fun _ => by omega, fun _ => by omega⟩
          rw [if_neg e, i1 i hi hne]
          simp only [y]
      · rw [c2 j hj]
        by_cases e : j = q
        · rw [if_pos e, if_pos (by omega)]
        · have y : (j < q + 1) = (j < q) := propext ⟨fun _ => by omega, fun _ => by omega⟩
          rw [if_neg e, i2 j hj]
          simp only [y]
    have hpq : (h' p).testBit q = (g p).testBit q := by rw [i2 q hq, if_neg (Nat.lt_irrefl q)]
    refine br_f (nI_ge (b := 8) hq (by decide)) (pk_eq q p (fun e => nm_r (nI_1 q) (k a (next a h' st (fun i _ hne => ?_) (fun j _ => ?_)))) (fun e => ?_))
    · rw [if_neg (by omega)]
    · by_cases y : j = q
      · rw [if_pos y, y, hpq, e, mq_ln_tb hp hp, if_pos rfl, if_pos rfl]
        exact (hG p p hp hp).2
      · rw [if_neg y]
    · have hqq : h' q = g q := by rw [i1 q hq e, if_neg (Nat.lt_irrefl q)]
      have sym : (g p).testBit q = (g q).testBit p := (hG p q hp hq).1
      have lpq : (mq_ln g p s p).testBit q = s.testBit q := by rw [mq_ln_tb hp hq, if_pos rfl, if_neg e]
      have same : (g p).testBit q = s.testBit q → wY_lines_30 post (nI p) (nI s) (nI (g p)) n (nI (q + 1)) my a pgs wt dc := by
        intro w
        refine k a (next a h' st (fun i hi hne => ?_) (fun j hj => ?_))
        · by_cases y : i = q
          · rw [if_pos y, y, hqq]
            refine mq_ext8 (hn q hq).2 (lnl q hq) (fun j hj => ?_)
            rw [mq_ln_tb hp hj, if_neg e]
            by_cases y2 : j = p
            · rw [if_pos y2, y2, ← sym, w]
            · rw [if_neg y2]
          · rw [if_neg y]
        · by_cases y : j = q
          · rw [if_pos y, y, hpq, lpq, w]
          · rw [if_neg y]
      have diff : ∀ b : Bool, (g p).testBit q = b → s.testBit q = !b → wpY_exchange (fun u => match u with | (f_many_25, a_near_26, a_pairings_27, a_waiting_28, a_decided_29) => (∀ x4_30 : Int32, x4_30 = nI q + 1 → (wY_lines_30 post (nI p) (nI s) (nI (g p)) n x4_30 f_many_25 a_near_26 a_pairings_27 a_waiting_28 a_decided_29))) (my, a, pgs, wt, dc) (nI p) (nI q) := by
        intro b w1 w2
        refine mq_yExch st hp hq (fun z => e z.symm) (fun a' st' => ?_)
        dsimp only
        refine nm_r (nI_1 q) (k a' (next a' (mq_ex h' p q) st' (fun i hi hne => ?_) (fun j hj => ?_)))
        · unfold mq_ex
          rw [if_neg hne]
          by_cases y : i = q
          · rw [if_pos y, if_pos y, hqq]
            refine mq_ext8 (mq_xor_lt (hn q hq).2 (mq_p2 p hp)) (lnl q hq) (fun j hj => ?_)
            rw [mq_ln_tb hp hj, if_neg e, Nat.testBit_xor, Nat.testBit_two_pow]
            by_cases y2 : j = p
            · rw [if_pos y2, y2, ← sym, w1, w2, decide_eq_true rfl, Bool.xor_true]
            · rw [if_neg y2, decide_eq_false (fun z => y2 z.symm), Bool.xor_false]
          · rw [if_neg y, if_neg y]
        · unfold mq_ex
          rw [if_pos rfl, Nat.testBit_xor, Nat.testBit_two_pow]
          by_cases y : j = q
          · rw [if_pos y, y, hpq, lpq, w1, w2, decide_eq_true rfl, Bool.xor_true]
          · rw [if_neg y, decide_eq_false (fun z => y z.symm), Bool.xor_false]
      refine mq_yHas st hp hq (fun z => ?_) (fun z => ?_)
      · have z' : (g p).testBit q = true := by rw [← hpq]; exact z
        refine ⟨fun y => br_t rfl (nm_r (nI_1 q) (same (by rw [z', (mq_sh1i hs hq).mp y]))), fun y => br_f (by decide) (diff true z' (mq_bt (fun w => y ((mq_sh1i hs hq).mpr w))))⟩
      · have z' : (g p).testBit q = false := by rw [← hpq]; exact z
        refine ⟨fun y => br_f (by decide) (diff false z' ((mq_sh1i hs hq).mp y)), fun y => br_t rfl (nm_r (nI_1 q) (same (by rw [z', mq_bt (fun w => y ((mq_sh1i hs hq).mpr w))])))⟩
end
