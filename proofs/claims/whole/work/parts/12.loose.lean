/-! loose, beside -/
def mq_Bd (Q : Nat → Prop) (p l : Nat) : Prop := l < 256 ∧ ∀ j, j < 8 → (l.testBit j = true ↔ j < p ∧ Q j)
theorem mq_Bd_0 {Q : Nat → Prop} : mq_Bd Q 0 0 := by
  refine ⟨by decide, fun j _ => ⟨fun z => ?_, fun z => absurd z.1 (Nat.not_lt_zero j)⟩⟩
  rw [Nat.zero_testBit] at z
  exact absurd z (by decide)
theorem mq_Bd_t {Q : Nat → Prop} {p l : Nat} (hp : p < 8) (h : mq_Bd Q p l) (q : Q p) : mq_Bd Q (p + 1) (l ||| 2 ^ p) := by
  refine ⟨mq_or_lt h.1 (mq_p2 p hp), fun j hj => ?_⟩
  rw [Nat.testBit_or, Nat.testBit_two_pow, Bool.or_eq_true, h.2 j hj, decide_eq_true_eq]
  constructor
  · rintro (⟨a, b⟩ | a)
    · exact ⟨by omega, b⟩
    · rw [← a]; exact ⟨by omega, q⟩
  · rintro ⟨a, b⟩
    by_cases e : p = j
    · exact Or.inr e
    · exact Or.inl ⟨by omega, b⟩
theorem mq_Bd_f {Q : Nat → Prop} {p l : Nat} (h : mq_Bd Q p l) (q : ¬ Q p) : mq_Bd Q (p + 1) l := by
  refine ⟨h.1, fun j hj => ?_⟩
  rw [h.2 j hj]
  constructor
  · rintro ⟨a, b⟩
    exact ⟨by omega, b⟩
  · rintro ⟨a, b⟩
    by_cases e : j = p
    · rw [e] at b; exact absurd b q
    · exact ⟨by omega, b⟩
theorem mq_Bd_uni {Q : Nat → Prop} {l l' : Nat} (h : mq_Bd Q 8 l) (h' : mq_Bd Q 8 l') : l = l' :=
  mq_ext8 h.1 h'.1 (fun i hi => mq_bi (fun z => (h'.2 i hi).mpr ((h.2 i hi).mp z)) (fun z => (h.2 i hi).mpr ((h'.2 i hi).mp z)))
def mq_LL (g : Nat → Nat) (m p : Nat) : Prop := ∃ n, n < 764 ∧ mq_gb (mq_G g) m n = true ∧ mq_at (mq_T n) p = p
theorem mq_Pt_all {g : Nat → Nat} {pairs : Nat → Int32} {mm : Nat → Nat} (h : mq_Pt g pairs mm) : mq_M (mq_G g) (fun _ => true) (mm 255) :=
  mq_M_congr (fun i hi => mq_tt255 i hi) (h 255 (by decide)).2
theorem mq_Pt_out {g : Nat → Nat} {pairs : Nat → Int32} {mm : Nat → Nat} (h : mq_Pt g pairs mm) {p : Nat} (hp : p < 8) : mq_M (mq_G g) (mq_rm (fun _ => true) p) (mm (mq_wo 255 p)) :=
  mq_M_congr (fun i hi => by rw [mq_wo_tb 255 hp hi]; exact mq_rm_congr (mq_tt255 i hi)) (h _ (mq_wo_lt p (by decide))).2
theorem mq_Pt_pair {g : Nat → Nat} {pairs : Nat → Int32} {mm : Nat → Nat} (h : mq_Pt g pairs mm) {p q : Nat} (hp : p < 8) (hq : q < 8) : mq_M (mq_G g) (mq_rm (mq_rm (fun _ => true) p) q) (mm (mq_wo (mq_wo 255 p) q)) :=
  mq_M_congr (fun i hi => by rw [mq_wo2_tb 255 hp hq hi]; exact mq_rm_congr (mq_rm_congr (mq_tt255 i hi))) (h _ (mq_wo_lt q (mq_wo_lt p (by decide)))).2
theorem mq_xLooseAll {post : Int32 → Prop} {near pairs : Nat → Int32} {g mm : Nat → Nat} (hP : mq_Pt g pairs mm) (h : ∀ l, mq_Bd (mq_LL g (mm 255)) 8 l → post (nI l)) : wpX_loose post (near, pairs) := by
  refine loop_0 (fun n p (l : Nat) => wX_loose_4 post near pairs n (nI l) (nI p)) (fun p l => mq_Bd (mq_LL g (mm 255)) p l) 8 0 mq_Bd_0 ?_ ?_
  · intro n l I
    exact br_t (nI_le (a := 8) (b := 8) (by omega) (by decide)) (h l I)
  · intro n p l hp I k
    have o := mq_outT hp (mq_Pt_all hP) (mq_Pt_out hP hp)
    exact br_f (nI_ge (b := 8) hp (by decide)) (mq_xLoose hP hp
      (fun e => br_f (by decide) (nm_r (e' := nI (l ||| 2 ^ p)) (by rw [mq_sh1 p hp, mq_n_or]) (nm_r (nI_1 p) (k _ (mq_Bd_t hp I (o.mp e))))))
      (fun e => br_t rfl (nm_r (nI_1 p) (k l (mq_Bd_f I (fun z => e (o.mpr z)))))))
def mq_QB (g : Nat → Nat) (l p : Nat) : Prop := l.testBit p = false ∧ g p &&& l ≠ 0
theorem mq_nz2 {a b : Nat} (ha : a < 256) : nI a &&& nI b = 0 ↔ a &&& b = 0 := by
  have l : a &&& b < 256 := mq_and_lt ha
  rw [nx_and, ← nI_0, nI_eq (by omega) (by omega)]
theorem mq_xBeside {post : Int32 → Prop} {near pairs : Nat → Int32} {g mm : Nat → Nat} (hn : mq_St near g) (hP : mq_Pt g pairs mm) (h : ∀ l b, mq_Bd (mq_LL g (mm 255)) 8 l → mq_Bd (mq_QB g l) 8 b → post (nI b)) : wpX_beside post (near, pairs) := by
  unfold wpX_beside
  dsimp only
  refine mq_xLooseAll hP (fun l hl => ?_)
  refine loop_0 (fun n p (b : Nat) => wX_beside_9 post (nI l) near pairs n (nI b) (nI p)) (fun p b => mq_Bd (mq_QB g l) p b) 8 0 mq_Bd_0 ?_ ?_
  · intro n b I
    exact br_t (nI_le (a := 8) (b := 8) (by omega) (by decide)) (h l b hl I)
  · intro n p b hp I k
    refine br_f (nI_ge (b := 8) hp (by decide)) (mq_xHas hl.1 hp (fun z => br_f (by decide) (nm_r (nI_1 p) (k b (mq_Bd_f I (fun q => absurd (z.symm.trans q.1) (by decide)))))) (fun z => br_t rfl ⟨vp_in_nI hp (by decide), ?_⟩))
    rw [nI_clamp (by omega), (hn p hp).1]
    exact ⟨fun y => nm_r (nI_1 p) (k b (mq_Bd_f I (fun q => q.2 ((mq_nz2 (hn p hp).2).mp y)))),
      fun y => nm_r (e' := nI (b ||| 2 ^ p)) (by rw [mq_sh1 p hp, mq_n_or]) (nm_r (nI_1 p) (k _ (mq_Bd_t hp I ⟨z, fun w => y ((mq_nz2 (hn p hp).2).mpr w)⟩)))⟩
section
variable {my : Int32} {near pgs wt dc : Nat → Int32} {g : Nat → Nat}
theorem mq_yMostAll {post : Int32 → Prop} {m : Nat} (hn : mq_St near g) (hT : mq_Ta pgs) (hM : mq_M (mq_G g) (fun _ => true) m) (h : post (nI m)) : wpY_mostWithin post (my, near, pgs, wt, dc) 255 := by
  refine mq_yMost (s := 255) hn hT (by decide) (fun m' hm' => ?_)
  rw [mq_M_uni (mq_M_congr (fun i hi => mq_tt255 i hi) hm') hM]
  exact h
theorem mq_yLooseAll {post : Int32 → Prop} {m : Nat} (hn : mq_St near g) (hT : mq_Ta pgs) (hM : mq_M (mq_G g) (fun _ => true) m) (h : ∀ l, mq_Bd (mq_LL g m) 8 l → post (nI l)) : wpY_loose post (my, near, pgs, wt, dc) := by
  unfold wpY_loose
  dsimp only
  refine mq_yMostAll hn hT hM ?_
  have m4 := mq_M_le4 hM
  refine loop_0 (fun k n (l : Nat) => wY_loose_12 post (nI m) my near pgs wt dc k (nI l) (nI n)) (fun n l => l < 256 ∧ ∀ j, j < 8 → (l.testBit j = true ↔ ∃ n', n' < n ∧ mq_gb (mq_G g) m n' = true ∧ mq_at (mq_T n') j = j)) 764 0 ?_ ?_ ?_
  · refine ⟨by decide, fun j _ => ⟨fun z => ?_, fun ⟨n', a, _⟩ => absurd a (Nat.not_lt_zero n')⟩⟩
    rw [Nat.zero_testBit] at z
    exact absurd z (by decide)
  · intro k l I
    refine br_t (nI_le (a := 764) (b := 764) (by omega) (by decide)) (h l ⟨I.1, fun j hj => ?_⟩)
    rw [I.2 j hj]
    exact ⟨fun z => ⟨hj, z⟩, fun z => z.2⟩
  · intro k n l hn7 I K
    refine br_f (nI_ge (b := 764) hn7 (by decide)) (mq_yGreat hn hT hn7 m4 (fun z => br_f (by decide) ?_) (fun z => br_t rfl (nm_r (nI_1 n) (K l ⟨I.1, fun j hj => ?_⟩))))
    · refine mq_yLeft (s := 255) hn hT hn7 (by decide) (fun l' hl' tb ok => nm_r (mq_n_or l l') (nm_r (nI_1 n) (K (l ||| l') ⟨mq_or_lt I.1 hl', fun j hj => ?_⟩))) (fun no => absurd (mq_Ok_mono (fun i hi _ => mq_tt255 i hi) (mq_gb_to z).1) no)
      rw [Nat.testBit_or, Bool.or_eq_true, I.2 j hj, tb j hj, decide_eq_true_eq]
      constructor
      · rintro (⟨n', a, b, c⟩ | a)
        · exact ⟨n', by omega, b, c⟩
        · exact ⟨n, by omega, z, a⟩
      · rintro ⟨n', a, b, c⟩
        rcases Nat.lt_or_ge n' n with w | w
        · exact Or.inl ⟨n', w, b, c⟩
        · have e : n' = n := by omega
          rw [e] at c
          exact Or.inr c
    · rw [I.2 j hj]
      constructor
      · rintro ⟨n', a, b, c⟩
        exact ⟨n', by omega, b, c⟩
      · rintro ⟨n', a, b, c⟩
        rcases Nat.lt_or_ge n' n with w | w
        · exact ⟨n', w, b, c⟩
        · have e : n' = n := by omega
          rw [e, z] at b
          exact absurd b (by decide)
theorem mq_yBeside {post : Int32 → Prop} {m : Nat} (hn : mq_St near g) (hT : mq_Ta pgs) (hM : mq_M (mq_G g) (fun _ => true) m) (h : ∀ l b, mq_Bd (mq_LL g m) 8 l → mq_Bd (mq_QB g l) 8 b → post (nI b)) : wpY_beside post (my, near, pgs, wt, dc) := by
  unfold wpY_beside
  dsimp only
  refine mq_yLooseAll hn hT hM (fun l hl => ?_)
  refine loop_0 (fun n p (b : Nat) => wY_beside_9 post (nI l) my near pgs wt dc n (nI b) (nI p)) (fun p b => mq_Bd (mq_QB g l) p b) 8 0 mq_Bd_0 ?_ ?_
  · intro n b I
    exact br_t (nI_le (a := 8) (b := 8) (by omega) (by decide)) (h l b hl I)
  · intro n p b hp I k
    refine br_f (nI_ge (b := 8) hp (by decide)) ⟨vp_in_nI hp (by decide), ?_⟩
    rw [nI_clamp (by omega), (hn p hp).1]
    refine ⟨fun y => ?_, fun y => ⟨fun z => ?_, fun z => ?_⟩⟩
    · exact br_t rfl (nm_r (nI_1 p) (k b (mq_Bd_f I (fun q => q.2 ((mq_nz2 (hn p hp).2).mp y)))))
    · exact br_f (by decide) (nm_r (e' := nI (b ||| 2 ^ p)) (by rw [mq_sh1 p hp, mq_n_or]) (nm_r (nI_1 p) (k _ (mq_Bd_t hp I ⟨(mq_sh0i hl.1 hp).mp z, fun w => y ((mq_nz2 (hn p hp).2).mpr w)⟩))))
    · exact br_t rfl (nm_r (nI_1 p) (k b (mq_Bd_f I (fun q => z ((mq_sh0i hl.1 hp).mpr q.1)))))
end
