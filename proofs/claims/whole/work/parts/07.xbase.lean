/-! the component: small methods, the table of greatest pairings -/
theorem mq_xPointT {post : Int32 → Prop} {p : Nat} (hp : p < 8) (h : post 1) : wpX_isPoint post (nI p) :=
  br_f (nI_pos (by omega)) (br_f (nI_ge (b := 8) hp (by decide)) h)
theorem mq_xPointF {post : Int32 → Prop} {x : Int32} (hx : mq_bad x 8) (h : post 0) : wpX_isPoint post x := by
  rcases hx with a | a
  · exact br_t a h
  · exact br_c (fun _ => h) (fun _ => br_t a h)
theorem mq_xSetT {post : Int32 → Prop} {s : Nat} (hs : s < 256) (h : post 1) : wpX_isSet post (nI s) :=
  br_f (nI_pos (by omega)) (br_f (nI_ge (b := 256) hs (by decide)) h)
theorem mq_xSetF {post : Int32 → Prop} {x : Int32} (hx : mq_bad x 256) (h : post 0) : wpX_isSet post x := by
  rcases hx with a | a
  · exact br_t a h
  · exact br_c (fun _ => h) (fun _ => br_t a h)
theorem mq_xHas {post : Int32 → Prop} {s p : Nat} (hs : s < 256) (hp : p < 8) (h1 : s.testBit p = true → post 1) (h0 : s.testBit p = false → post 0) : wpX_has post (nI s) (nI p) := by
  unfold wpX_has
  rw [mq_sh1 p hp]
  exact ⟨fun z => h0 ((mq_has hs hp).mp z), fun z => h1 (mq_bf (fun w => z ((mq_has hs hp).mpr w)))⟩
theorem mq_xWithout {post : Int32 → Prop} {s p : Nat} (hs : s < 256) (hp : p < 8) (h : post (nI (mq_wo s p))) : wpX_without post (nI s) (nI p) := by
  unfold wpX_without
  rw [mq_sh1 p hp, mq_wo_n hs hp]
  exact h
theorem mq_xIsLine {post : Int32 → Prop} {near pairs : Nat → Int32} {g : Nat → Nat} {p q : Nat} (hn : mq_St near g) (hp : p < 8) (hq : q < 8) (h1 : mq_G g p q = true → post 1) (h0 : mq_G g p q = false → post 0) : wpX_isLine post (near, pairs) (nI p) (nI q) := by
  refine ⟨vp_in_nI hp (by decide), ?_⟩
  rw [nI_clamp (by omega), (hn p hp).1]
  exact mq_xHas (hn p hp).2 hq (fun z => ⟨rfl, h1 z⟩) (fun z => ⟨rfl, h0 z⟩)
theorem mq_xSize {post : Int32 → Prop} {s : Nat} (hs : s < 256) (h : post (nI (mq_ct s.testBit 8))) : wpX_sizeOf post (nI s) := by
  refine loop_0 (fun n i (c : Nat) => wX_sizeOf_4 post (nI s) n (nI c) (nI i)) (fun i c => c = mq_ct s.testBit i) 8 0 rfl ?_ ?_
  · intro n c hc
    subst hc
    exact br_t (nI_le (a := 8) (b := 8) (by omega) (by decide)) h
  · intro n i c hi hc k
    exact br_f (nI_ge (b := 8) hi (by decide)) (mq_xHas hs hi
      (fun z => br_f (by decide) (nm_r (nI_1 c) (nm_r (nI_1 i) (k (c + 1) (by rw [mq_ct_t z, hc])))))
      (fun z => br_t rfl (nm_r (nI_1 i) (k c (by rw [mq_ct_f z, hc])))))
theorem mq_rm_congr {S S' : Nat → Bool} {p i : Nat} (h : S i = S' i) : mq_rm S p i = mq_rm S' p i := by
  unfold mq_rm; rw [h]
theorem mq_wo2_tb (s : Nat) {p q i : Nat} (hp : p < 8) (hq : q < 8) (hi : i < 8) : (mq_wo (mq_wo s p) q).testBit i = mq_rm (mq_rm s.testBit p) q i := by
  rw [mq_wo_tb _ hq hi]
  exact mq_rm_congr (mq_wo_tb s hp hi)
theorem mq_xTop {post : Int32 → Prop} {near pairs : Nat → Int32} {g mm : Nat → Nat} {s t : Nat} (hn : mq_St near g) (hG : mq_Gr (mq_G g)) (ht : t < 8) (hs : 2 ^ t ≤ s) (hs2 : s < 2 ^ (t + 1))
    (hp : ∀ s', s' < s → pairs s' = nI (mm s') ∧ mq_M (mq_G g) s'.testBit (mm s')) (h : ∀ m, mq_M (mq_G g) s.testBit m → post (nI m)) : wpX_pairsByTop post (near, pairs) (nI s) (nI t) := by
  have s8 : s < 256 := by have := mq_pw t ht; omega
  have tp := mq_top ht s8 hs hs2
  have r8 := mq_wo_lt t s8
  have rl := mq_wo_less s s8 t ht tp.1
  have tb : ∀ i, i < 8 → (mq_wo s t).testBit i = mq_rm s.testBit t i := fun i hi => mq_wo_tb s ht hi
  have hr := hp _ rl
  have tb2 : ∀ q, q < 8 → ∀ i, i < 8 → (mq_wo (mq_wo s t) q).testBit i = mq_rm (mq_rm s.testBit t) q i := fun q hq i hi => mq_wo2_tb s ht hq hi
  refine mq_xWithout (post := fun r_1 => (vp_in r_1 256 ∧ (∀ x4_3 : Int32, x4_3 = pairs r_1.toNatClampNeg → (∃ n17 : Nat, wX_pairsByTop_17 post (nI t) r_1 near pairs n17 x4_3 0)))) s8 ht ?_
  refine ⟨vp_in_nI r8 (by decide), nm_r (e' := nI (mm (mq_wo s t))) (by rw [nI_clamp (by omega)]; exact hr.1) ?_⟩
  generalize hrd : mq_wo s t = r at *
  have l4 : ∀ q, q < 8 → r.testBit q = true → mq_wo r q < s ∧ mm (mq_wo r q) ≤ 4 := by
    intro q hq z
    have a := mq_wo_less r r8 q hq z
    exact ⟨by omega, mq_M_le4 (hp _ (by omega)).2⟩
  have b4 := mq_M_le4 hr.2
  refine loop_0 (fun n q (b : Nat) => wX_pairsByTop_17 post (nI t) (nI r) near pairs n (nI b) (nI q))
    (fun q b => mm r ≤ b ∧ b ≤ 5 ∧ (∀ q', q' < q → s.testBit q' = true → mq_G g t q' = true → 1 + mm (mq_wo r q') ≤ b) ∧ (b = mm r ∨ ∃ q', q' < q ∧ s.testBit q' = true ∧ mq_G g t q' = true ∧ b = 1 + mm (mq_wo r q')))
    t (mm r) ⟨by omega, by omega, fun q' hq' => absurd hq' (Nat.not_lt_zero q'), Or.inl rfl⟩ ?_ ?_
  · intro n b ⟨i1, i2, i3, i4⟩
    refine br_t (nI_le (a := t) (b := t) (by omega) (by omega)) (h b ?_)
    refine mq_M_step (mm := fun q => mm (mq_wo r q)) hG ht tp.1 tp.2 (mq_M_congr tb hr.2) (fun q hq sq gq => ?_) i1 i3 i4
    have rq : r.testBit q = true := by rw [tb q (by omega), mq_rm_n (by omega)]; exact sq
    exact mq_M_congr (tb2 q (by omega)) (hp _ (l4 q (by omega) rq).1).2
  · intro n q b hq ⟨i1, i2, i3, i4⟩ k
    have q8 : q < 8 := by omega
    have rs : r.testBit q = s.testBit q := by rw [tb q q8, mq_rm_n (by omega)]
    have skip : (s.testBit q = true → mq_G g t q = true → False) → wX_pairsByTop_17 post (nI t) (nI r) near pairs n (nI b) (nI (q + 1)) := by
      intro no
      refine k b ⟨i1, i2, fun q' hq' a1 a2 => ?_, ?_⟩
      · rcases Nat.lt_or_ge q' q with y | y
        · exact i3 q' y a1 a2
        · have e : q' = q := by omega
          rw [e] at a1 a2
          exact absurd a2 (fun w => no a1 w)
      · rcases i4 with y | ⟨q', y1, y2, y3, y4⟩
        · exact Or.inl y
        · exact Or.inr ⟨q', by omega, y2, y3, y4⟩
    refine br_f (nI_ge hq (by omega)) (mq_xHas r8 q8 (fun z => br_f (by decide) ?_) (fun z => br_t rfl (nm_r (nI_1 q) (skip (fun a _ => by rw [← rs, z] at a; exact absurd a (by decide))))))
    refine mq_xIsLine hn ht q8 (fun z2 => br_f (by decide) ?_) (fun z2 => br_t rfl (nm_r (nI_1 q) (skip (fun _ a => by rw [z2] at a; exact absurd a (by decide)))))
    have l := l4 q q8 z
    refine mq_xWithout r8 q8 ⟨vp_in_nI (by omega) (by decide), nm_r (e' := nI (1 + mm (mq_wo r q))) (by rw [nI_clamp (by omega), (hp _ l.1).1]; exact nI_add 1 _) ?_⟩
    have z' : s.testBit q = true := by rw [← rs]; exact z
    refine pk_le (1 + mm (mq_wo r q)) b (fun y => nm_r (nI_1 q) (k b ⟨i1, i2, fun q' hq' a1 a2 => ?_, ?_⟩)) (fun y => nm_r (nI_1 q) (k _ ⟨by omega, by omega, fun q' hq' a1 a2 => ?_, Or.inr ⟨q, by omega, z', z2, rfl⟩⟩))
    · rcases Nat.lt_or_ge q' q with w | w
      · exact i3 q' w a1 a2
      · have e : q' = q := by omega
        rw [e]; exact y
    · rcases i4 with w | ⟨q', y1, y2, y3, y4⟩
      · exact Or.inl w
      · exact Or.inr ⟨q', by omega, y2, y3, y4⟩
    · rcases Nat.lt_or_ge q' q with w | w
      · have := i3 q' w a1 a2
        omega
      · have e : q' = q := by omega
        rw [e]; exact Nat.le_refl _
theorem mq_xFill {post : SX → Prop} {near pairs : Nat → Int32} {g : Nat → Nat} (hn : mq_St near g) (hG : mq_Gr (mq_G g)) (h0 : pairs 0 = 0) (h : ∀ pairs' mm, mq_Pt g pairs' mm → post (near, pairs')) : wpX_fillPairs post (near, pairs) := by
  refine loop_0 (fun n p (a : Nat → Int32) => wX_fillPairs_2 post n (nI p) near a)
    (fun p a => ∃ mm : Nat → Nat, ∀ s, s < 2 ^ p → a s = nI (mm s) ∧ mq_M (mq_G g) s.testBit (mm s)) 8 pairs ?_ ?_ ?_
  · refine ⟨fun _ => 0, fun s hs => ?_⟩
    have e : s = 0 := by
      have : s < 1 := hs
      omega
    subst e
    exact ⟨h0, mq_M_0 (fun i _ => Nat.zero_testBit i)⟩
  · intro n a ⟨mm, hm⟩
    exact br_t (nI_le (a := 8) (b := 8) (by omega) (by decide)) (h a mm hm)
  · intro n p a hp ⟨mm, hm⟩ k
    have pw := mq_pw p hp
    refine br_f (nI_ge (b := 8) hp (by decide)) (nm_r (mq_sh2 p hp) (nm_r (mq_sh1 p hp) ?_))
    refine pk_loop (fun m s (a : Nat → Int32) => wX_fillPairs_16 post (wX_fillPairs_2 post n) (nI p) (nI (2 ^ (p + 1))) m (nI s) near a)
      (fun s a => 2 ^ p ≤ s ∧ ∃ mm : Nat → Nat, ∀ s', s' < s → a s' = nI (mm s') ∧ mq_M (mq_G g) s'.testBit (mm s')) (2 ^ (p + 1)) (2 ^ p) a pw.2 ⟨Nat.le_refl _, mm, hm⟩ ?_ ?_
    · intro m a I
      exact br_t (nI_le (a := 2 ^ (p + 1)) (b := 2 ^ (p + 1)) (Nat.le_refl _) (by omega)) (nm_r (nI_1 p) (k a I.2))
    · intro m s a hs ⟨z, mm, hm⟩ k2
      refine br_f (nI_ge hs (by omega)) ?_
      refine mq_xTop (mm := mm) hn hG hp z hs hm (fun x hx => ⟨vp_in_nI (by omega) (by decide), nm_r (by rw [nI_clamp (by omega)]) (nm_r (nI_1 s) (k2 (upd a s (nI x)) ⟨by omega, fun s' => if s' = s then x else mm s', fun s' hs' => ?_⟩))⟩)
      show upd a s (nI x) s' = nI (if s' = s then x else mm s') ∧ mq_M (mq_G g) s'.testBit (if s' = s then x else mm s')
      by_cases e : s' = s
      · rw [e, pk_us, if_pos rfl]; exact ⟨rfl, hx⟩
      · rw [pk_un e, if_neg e]; exact hm s' (by omega)
theorem mq_xPairIn {post : Int32 → Prop} {near pairs : Nat → Int32} {g mm : Nat → Nat} {p q s : Nat} (hn : mq_St near g) (hP : mq_Pt g pairs mm) (hp : p < 8) (hq : q < 8) (hs : s < 256)
    (h1 : mq_G g p q = true → 1 + mm (mq_wo (mq_wo s p) q) = mm s → post 1) (h0 : (mq_G g p q = true → 1 + mm (mq_wo (mq_wo s p) q) ≠ mm s) → post 0) : wpX_isPairIn post (near, pairs) (nI p) (nI q) (nI s) := by
  have o8 := mq_wo_lt q (mq_wo_lt p hs)
  have m1 := mq_M_le4 (hP _ o8).2
  have m2 := mq_M_le4 (hP _ hs).2
  refine nm_r (e' := nI (mq_wo (mq_wo s p) q)) (by rw [mq_sh1 p hp, mq_sh1 q hq, mq_wo_n hs hp, mq_wo_n (mq_wo_lt p hs) hq]) ?_
  refine mq_xIsLine hn hp hq (fun z => br_f (by decide) ⟨vp_in_nI o8 (by decide), vp_in_nI hs (by decide), ?_⟩) (fun z => br_t rfl (h0 (fun w => by rw [z] at w; exact absurd w (by decide))))
  exact pk_eq (1 + mm (mq_wo (mq_wo s p) q)) (mm s) (fun y => h1 z y) (fun y => h0 (fun _ => y)) (by rw [nI_clamp (by omega), (hP _ o8).1]; exact nI_add 1 _) (by rw [nI_clamp (by omega), (hP _ hs).1])
theorem mq_xLoose {post : Int32 → Prop} {near pairs : Nat → Int32} {g mm : Nat → Nat} {p : Nat} (hP : mq_Pt g pairs mm) (hp : p < 8) (h1 : mm (mq_wo 255 p) = mm 255 → post 1) (h0 : mm (mq_wo 255 p) ≠ mm 255 → post 0) : wpX_isLoose post (near, pairs) (nI p) := by
  have o8 : mq_wo 255 p < 256 := mq_wo_lt p (by decide)
  have m1 := mq_M_le4 (hP _ o8).2
  have m2 := mq_M_le4 (hP 255 (by decide)).2
  refine mq_xWithout (post := fun r_1 => (vp_in r_1 256 ∧ ((pairs r_1.toNatClampNeg = pairs 255 → post 1) ∧ (¬ pairs r_1.toNatClampNeg = pairs 255 → post 0)))) (s := 255) (by decide) hp ⟨vp_in_nI o8 (by decide), ?_⟩
  exact pk_eq (mm (mq_wo 255 p)) (mm 255) h1 h0 (by rw [nI_clamp (by omega), (hP _ o8).1]) (hP 255 (by decide)).1
