/-! the reference: small methods, greatest pairings over its table -/
def mq_Ta (c : Nat → Int32) : Prop := ∀ n, n < 764 → c n = nI (mq_T n)
section
variable {my : Int32} {near pgs wt dc : Nat → Int32} {g : Nat → Nat}
theorem mq_yHas {post : Int32 → Prop} {p q : Nat} (hn : mq_St near g) (hp : p < 8) (hq : q < 8) (h1 : mq_G g p q = true → post 1) (h0 : mq_G g p q = false → post 0) : wpY_hasLine post (my, near, pgs, wt, dc) (nI p) (nI q) := by
  refine ⟨vp_in_nI hp (by decide), ?_⟩
  rw [nI_clamp (by omega), (hn p hp).1]
  exact ⟨fun z => h1 ((mq_sh1i (hn p hp).2 hq).mp z), fun z => h0 (mq_bt (fun w => z ((mq_sh1i (hn p hp).2 hq).mpr w)))⟩
theorem mq_yPart {post : Int32 → Prop} {n p : Nat} (hT : mq_Ta pgs) (hn : n < 764) (hp : p < 8) (h : post (nI (mq_at (mq_T n) p))) : wpY_partnerIn post (my, near, pgs, wt, dc) (nI n) (nI p) := by
  refine ⟨vp_in_nI hn (by decide), ?_⟩
  rw [nI_clamp (by omega), hT n hn, mq_atI (mq_T_lt n) hp]
  exact h
theorem mq_yBits {post : Int32 → Prop} {s : Nat} (hs : s < 256) (h : post (nI (mq_ct s.testBit 8))) : wpY_bits post (my, near, pgs, wt, dc) (nI s) := by
  refine loop_0 (fun n i (c : Nat) => wY_bits_4 post (nI s) my near pgs wt dc n (nI c) (nI i)) (fun i c => c = mq_ct s.testBit i) 8 0 rfl ?_ ?_
  · intro n c hc
    subst hc
    exact br_t (nI_le (a := 8) (b := 8) (by omega) (by decide)) h
  · intro n i c hi hc k
    exact br_f (nI_ge (b := 8) hi (by decide)) (nm_r (by rw [mq_shb hs hi, nI_add]) (nm_r (nI_1 i) (k (c + (if s.testBit i = true then 1 else 0)) (by rw [hc]; rfl))))
theorem mq_yLeft {post : Int32 → Prop} {n s : Nat} (hn : mq_St near g) (hT : mq_Ta pgs) (n7 : n < 764) (hs : s < 256)
    (h1 : ∀ l, l < 256 → (∀ i, i < 8 → l.testBit i = decide (mq_at (mq_T n) i = i)) → mq_Ok (mq_G g) s.testBit (mq_at (mq_T n)) → post (nI l))
    (h0 : ¬ mq_Ok (mq_G g) s.testBit (mq_at (mq_T n)) → post (-1)) : wpY_leftOut post (my, near, pgs, wt, dc) (nI n) (nI s) := by
  refine loop_0 (fun m i (l : Nat) => wY_leftOut_5 post (nI n) (nI s) my near pgs wt dc m (nI l) (nI i))
    (fun i l => l < 256 ∧ (∀ j, j < 8 → l.testBit j = (decide (j < i) && decide (mq_at (mq_T n) j = j))) ∧ (∀ j, j < i → mq_at (mq_T n) j ≠ j → mq_G g j (mq_at (mq_T n) j) = true ∧ s.testBit j = true)) 8 0
    ⟨by decide, fun j _ => by rw [Nat.zero_testBit, decide_eq_false (Nat.not_lt_zero j)]; rfl, fun j hj => absurd hj (Nat.not_lt_zero j)⟩ ?_ ?_
  · intro m l ⟨i1, i2, i3⟩
    refine br_t (nI_le (a := 8) (b := 8) (by omega) (by decide)) (h1 l i1 (fun i hi => ?_) i3)
    rw [i2 i hi, decide_eq_true hi, Bool.true_and]
  · intro m i l hi ⟨i1, i2, i3⟩ k
    have f8 := mq_at_lt (mq_T n) i
    have p8 := mq_p2 i hi
    refine br_f (nI_ge (b := 8) hi (by decide)) (mq_yPart hT n7 hi ?_)
    refine pk_eq (mq_at (mq_T n) i) i (fun e => nm_r (e' := nI (l ||| 2 ^ i)) (by rw [mq_sh1 i hi, mq_n_or]) (nm_r (nI_1 i) (k (l ||| 2 ^ i) ⟨mq_or_lt i1 p8, fun j hj => ?_, fun j hj hne => ?_⟩))) (fun e => ?_)
    · rw [Nat.testBit_or, i2 j hj, Nat.testBit_two_pow]
      by_cases z : i = j
      · subst z
        rw [decide_eq_true e, decide_eq_true (Nat.lt_succ_self i), decide_eq_true (rfl : i = i)]
        simp
      · have y : (j < i + 1) = (j < i) := propext ⟨fun _ => by omega, fun _ => by omega⟩
        simp only [y, z, decide_false, Bool.or_false]
    · exact i3 j (by
        rcases Nat.lt_or_ge j i with y | y
        · exact y
        · have e2 : j = i := by omega
          rw [e2] at hne
          exact absurd e hne) hne
    · refine mq_yHas hn hi f8 (fun z => br_f (by decide) ?_) (fun z => br_t rfl (h0 (fun ok => by
        have := (ok i hi e).1
        rw [z] at this
        exact absurd this (by decide))))
      refine ⟨fun y => h0 (fun ok => ?_), fun y => nm_r (nI_1 i) (k l ⟨i1, fun j hj => ?_, fun j hj hne => ?_⟩)⟩
      · have := (ok i hi e).2
        rw [(mq_sh0i hs hi).mp y] at this
        exact absurd this (by decide)
      · rw [i2 j hj]
        by_cases z3 : j = i
        · rw [z3, decide_eq_false e, Bool.and_false, Bool.and_false]
        · have y : (j < i + 1) = (j < i) := propext ⟨fun _ => by omega, fun _ => by omega⟩
          simp only [y]
      · rcases Nat.lt_or_ge j i with w | w
        · exact i3 j w hne
        · have e2 : j = i := by omega
          rw [e2]
          exact ⟨z, mq_bf (fun w => y ((mq_sh0i hs hi).mpr w))⟩
theorem mq_lo_ct {l : Nat} {f : Nat → Nat} (h : ∀ i, i < 8 → l.testBit i = decide (f i = i)) : mq_cn f + mq_ct l.testBit 8 = 8 := by
  have s := mq_ct_sum (mq_mv f) 8
  have e : mq_ct l.testBit 8 = mq_ct (fun i => !mq_mv f i) 8 := by
    refine mq_ct_congr 8 (fun i hi => ?_)
    rw [h i hi]
    show decide (f i = i) = !mq_mv f i
    by_cases z : f i = i
    · rw [mq_mv_f z, decide_eq_true z]; rfl
    · rw [mq_mv_t z, decide_eq_false z]; rfl
  unfold mq_cn
  omega
theorem mq_yMost {post : Int32 → Prop} {s : Nat} (hn : mq_St near g) (hT : mq_Ta pgs) (hs : s < 256) (h : ∀ m, mq_M (mq_G g) s.testBit m → post (nI m)) : wpY_mostWithin post (my, near, pgs, wt, dc) (nI s) := by
  refine loop_0 (fun k n (m : Nat) => wY_mostWithin_4 post (nI s) my near pgs wt dc k (nI m) (nI n))
    (fun n m => m ≤ 4 ∧ (m = 0 ∨ ∃ n', n' < n ∧ mq_Ok (mq_G g) s.testBit (mq_at (mq_T n')) ∧ mq_cn (mq_at (mq_T n')) = 2 * m) ∧ ∀ n', n' < n → mq_Ok (mq_G g) s.testBit (mq_at (mq_T n')) → mq_cn (mq_at (mq_T n')) ≤ 2 * m) 764 0
    ⟨by omega, Or.inl rfl, fun j hj => absurd hj (Nat.not_lt_zero j)⟩ ?_ ?_
  · intro k m ⟨i1, i2, i3⟩
    exact br_t (nI_le (a := 764) (b := 764) (by omega) (by decide)) (h m (mq_M_T i2 i3))
  · intro k n m hn7 ⟨i1, i2, i3⟩ K
    have ev := mq_T_even n hn7
    have le8 : mq_cn (mq_at (mq_T n)) ≤ 8 := mq_ct_le _ 8
    have keep : (mq_Ok (mq_G g) s.testBit (mq_at (mq_T n)) → mq_cn (mq_at (mq_T n)) ≤ 2 * m) → wY_mostWithin_4 post (nI s) my near pgs wt dc k (nI m) (nI (n + 1)) := by
      intro a
      refine K m ⟨i1, ?_, fun n' hn' ok => ?_⟩
      · rcases i2 with y | ⟨n', y1, y2, y3⟩
        · exact Or.inl y
        · exact Or.inr ⟨n', by omega, y2, y3⟩
      · rcases Nat.lt_or_ge n' n with y | y
        · exact i3 n' y ok
        · have e : n' = n := by omega
          rw [e] at ok ⊢
          exact a ok
    refine br_f (nI_ge (b := 764) hn7 (by decide)) (mq_yLeft hn hT hn7 hs (fun l hl tb ok => br_t (nI_pos' (by omega)) (mq_yBits hl ⟨by decide, ?_⟩)) (fun no => br_f (by decide) (br_t (nI_pos' (by omega)) (nm_r (nI_1 n) (keep (fun ok => absurd ok no))))))
    have c := mq_lo_ct tb
    have e0 : ((8 : Int32) - nI (mq_ct l.testBit 8)) / 2 = nI (mq_cn (mq_at (mq_T n)) / 2) := by
      have e1 : (8 : Int32) - nI (mq_ct l.testBit 8) = nI (mq_cn (mq_at (mq_T n))) := by
        have := pk_sub (a := 8) (b := mq_ct l.testBit 8) (by omega)
        have e2 : 8 - mq_ct l.testBit 8 = mq_cn (mq_at (mq_T n)) := by omega
        rw [e2] at this
        exact this
      rw [e1]
      exact pk_div (d := 2) (by omega) (by decide) (by decide)
    rw [e0]
    refine pk_le (mq_cn (mq_at (mq_T n)) / 2) m (fun y => nm_r (nI_1 n) (keep (fun _ => by omega))) (fun y => nm_r (nI_1 n) (K _ ⟨by omega, Or.inr ⟨n, by omega, ok, by omega⟩, fun n' hn' ok' => ?_⟩))
    rcases Nat.lt_or_ge n' n with w | w
    · have := i3 n' w ok'
      omega
    · have e : n' = n := by omega
      rw [e]
      omega
theorem mq_tt255 : ∀ i, i < 8 → (255 : Nat).testBit i = true := by decide +kernel
theorem mq_yGreat {post : Int32 → Prop} {n m : Nat} (hn : mq_St near g) (hT : mq_Ta pgs) (n7 : n < 764) (hm : m ≤ 4) (h1 : mq_gb (mq_G g) m n = true → post 1) (h0 : mq_gb (mq_G g) m n = false → post 0) : wpY_isGreatest post (my, near, pgs, wt, dc) (nI n) (nI m) := by
  have le8 : mq_cn (mq_at (mq_T n)) ≤ 8 := mq_ct_le _ 8
  refine mq_yLeft (s := 255) hn hT n7 (by decide) (fun l hl tb ok => br_f (nI_pos (by omega)) (mq_yBits hl ?_)) (fun no => br_t (by decide) (h0 (mq_gb_no (fun z => no (mq_Ok_mono (fun i hi _ => mq_tt255 i hi) z.1)))))
  have c := mq_lo_ct tb
  refine pk_eq (mq_cn (mq_at (mq_T n))) (2 * m) (fun y => h1 (mq_gb_of ⟨mq_Ok_mono (fun _ _ _ => rfl) ok, y⟩)) (fun y => h0 (mq_gb_no (fun z => y z.2))) ?_ (pk_mul 2 m)
  have := pk_sub (a := 8) (b := mq_ct l.testBit 8) (by omega)
  have e2 : 8 - mq_ct l.testBit 8 = mq_cn (mq_at (mq_T n)) := by omega
  rw [e2] at this
  exact this
theorem mq_yPointF {post : Int32 → Prop} {x y : Int32} (hx : mq_bad x 8 ∨ mq_bad y 8 ∨ x = y) (h : post 0) : wpY_isPair post (my, near, pgs, wt, dc) x y := by
  have l : ∀ z : Int32, nI 8 ≤ z → 7 < z := fun z hz => Int32.lt_of_lt_of_le (by decide) hz
  refine br_c (fun _ => h) (fun a1 => br_c (fun _ => h) (fun a2 => br_c (fun _ => h) (fun a3 => br_c (fun _ => h) (fun a4 => br_c (fun _ => h) (fun a5 => ?_)))))
  exfalso
  rcases hx with (b | b) | (b | b) | b
  · exact a1 b
  · exact a2 (l x b)
  · exact a3 b
  · exact a4 (l y b)
  · exact a5 b
theorem mq_yPointT {post : Int32 → Prop} {p q : Nat} (hp : p < 8) (hq : q < 8) (hn : p ≠ q) (h : post 1) : wpY_isPair post (my, near, pgs, wt, dc) (nI p) (nI q) :=
  br_f (nI_pos (by omega)) (br_f (nI_nlt (a := 7) (by omega) (by decide)) (br_f (nI_pos (by omega)) (br_f (nI_nlt (a := 7) (by omega) (by decide)) (br_f (fun z => hn ((nI_eq (by omega) (by omega)).mp z)) h))))
theorem mq_ySetT {post : Int32 → Prop} {s : Nat} (hs : s < 256) (h : post 1) : wpY_isSet post (my, near, pgs, wt, dc) (nI s) :=
  br_f (nI_pos (by omega)) (br_f (nI_nlt (a := 255) (by omega) (by decide)) h)
theorem mq_ySetF {post : Int32 → Prop} {x : Int32} (hx : mq_bad x 256) (h : post 0) : wpY_isSet post (my, near, pgs, wt, dc) x := by
  refine br_c (fun _ => h) (fun a1 => br_c (fun _ => h) (fun a2 => ?_))
  exfalso
  rcases hx with b | b
  · exact a1 b
  · exact a2 (Int32.lt_of_lt_of_le (by decide) b)
end
