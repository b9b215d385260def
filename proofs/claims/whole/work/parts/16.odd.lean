/-! odd, bound -/
theorem mq_255s : ∀ s, s < 256 → 255 &&& (255 - s) = 255 - s := by decide +kernel
theorem mq_stay {s : Nat} (hs : s < 256) : (255 : Int32) &&& (nI s ^^^ (-1)) = nI (255 - s) := by
  have h := mq_an (s := 255) (t := s) (by decide) hs
  rw [mq_255s s hs] at h
  exact h
theorem mq_xPart {post : Int32 → Prop} {near pairs : Nat → Int32} {g : Nat → Nat} {p a : Nat} (hn : mq_St near g) (hp : p < 8) (ha : a < 256)
    (h : ∀ c, c < 256 → (∀ i, i < 8 → c.testBit i = mq_C (mq_G g) a.testBit p i) → post (nI c)) : wpX_partOf post (near, pairs) (nI p) (nI a) := by
  refine nm_r (e' := nI (2 ^ p)) (mq_sh1 p hp) ?_
  refine pk_loop (fun n k (c : Nat) => wX_partOf_7 post (nI a) near pairs n (nI c) (nI k)) (fun k c => 1 ≤ k ∧ c < 256 ∧ mq_Pg (mq_G g) a.testBit p (k - 1) c.testBit) 8 1 (2 ^ p) (by omega) ⟨by omega, mq_p2 p hp, mq_Pg_0 hp (fun i _ => Nat.testBit_two_pow)⟩ ?_ ?_
  · intro n c ⟨_, i1, i2⟩
    exact br_t (nI_le (a := 8) (b := 8) (by omega) (by decide)) (h c i1 (mq_Pg_e (by omega) i2))
  · intro n k c hk ⟨i0, i1, i2⟩ K
    refine br_f (nI_ge (b := 8) hk (by decide)) ?_
    refine loop_0 (fun m q (r : Nat) => wX_partOf_20 post (wX_partOf_7 post (nI a) near pairs n) (nI a) (nI c) (nI k) near pairs m (nI r) (nI q)) (fun q r => r < 256 ∧ mq_Sw (mq_G g) a.testBit p c.testBit q r.testBit) 8 c ⟨i1, mq_Pg_sw0 i2⟩ ?_ ?_
    · intro m r ⟨j1, j2⟩
      have e : k + 1 - 1 = k - 1 + 1 := by omega
      exact br_t (nI_le (a := 8) (b := 8) (by omega) (by decide)) (nm_r (nI_1 k) (K r ⟨by omega, j1, by rw [e]; exact mq_Pg_s hp i2 j2⟩))
    · intro m q r hq ⟨j1, j2⟩ k2
      refine br_f (nI_ge (b := 8) hq (by decide)) (mq_xHas i1 hq (fun z => br_f (by decide) ⟨vp_in_nI hq (by decide), nm_r (e' := nI (r ||| (g q &&& a))) (by rw [nI_clamp (by omega), (hn q hq).1, nx_and, mq_n_or]) (nm_r (nI_1 q) (k2 _ ⟨mq_or_lt j1 (mq_and_lt (hn q hq).2), mq_Sw_s (c := true) hq j2 (fun _ => rfl) (fun _ => j2.1 q hq z) (fun i hi => ?_)⟩))⟩) (fun z => br_t rfl (nm_r (nI_1 q) (k2 r ⟨j1, mq_Sw_s (c := false) hq j2 (fun w => absurd (z.symm.trans w) (by decide)) (fun w => absurd w (by decide)) (fun i hi => ?_)⟩))))
      · rw [Nat.testBit_or, Nat.testBit_and, Bool.true_and]
        rfl
      · rw [Bool.false_and, Bool.or_false]
theorem mq_xOdd {post : Int32 → Prop} {near pairs : Nat → Int32} {g : Nat → Nat} {s : Nat} (hn : mq_St near g) (hs : s < 256) (h : post (nI (mq_oc (mq_G g) (255 - s).testBit))) : wpX_oddParts post (near, pairs) (nI s) := by
  refine nm_r (e' := nI (255 - s)) (mq_stay hs) ?_
  unfold mq_oc at h
  have a8 : 255 - s < 256 := by omega
  generalize 255 - s = a at a8 h ⊢
  refine loop_0 (fun n p (x : Nat × Nat) => wX_oddParts_16 post (nI a) near pairs n (nI x.1) (nI x.2) (nI p)) (fun p x => x.1 < 256 ∧ mq_Sn (mq_G g) a.testBit p x.1.testBit ∧ x.2 = mq_ct (mq_od (mq_G g) a.testBit) p) 8 (0, 0) ⟨by decide, mq_Sn_0 (fun i _ => Nat.zero_testBit i), rfl⟩ ?_ ?_
  · intro n ⟨sn, c⟩ ⟨i1, i2, i3⟩
    have i3' : c = mq_ct (mq_od (mq_G g) a.testBit) 8 := i3
    subst i3'
    exact br_t (nI_le (a := 8) (b := 8) (by omega) (by decide)) h
  · intro n p ⟨sn, c⟩ hp ⟨i1, i2, i3⟩ k
    have i1' : sn < 256 := i1
    have i2' : mq_Sn (mq_G g) a.testBit p sn.testBit := i2
    have i3' : c = mq_ct (mq_od (mq_G g) a.testBit) p := i3
    clear i1 i2 i3
    have skip : ¬ (a.testBit p = true ∧ sn.testBit p = false) → wX_oddParts_16 post (nI a) near pairs n (nI sn) (nI c) (nI (p + 1)) := by
      intro z
      obtain ⟨s1, s2⟩ := mq_Sn_skip hp i2' z
      exact k (sn, c) ⟨i1', s1, i3'.trans s2.symm⟩
    refine br_f (nI_ge (b := 8) hp (by decide)) (mq_xHas a8 hp (fun z => br_f (by decide) ?_) (fun z => br_t rfl (nm_r (nI_1 p) (skip (fun w => absurd (z.symm.trans w.1) (by decide))))))
    refine mq_xHas i1' hp (fun z2 => br_f (by decide) (nm_r (nI_1 p) (skip (fun w => absurd (z2.symm.trans w.2) (by decide))))) (fun z2 => br_t rfl ?_)
    refine mq_xPart hn hp a8 (fun b hb tb => nm_r (mq_n_or sn b) (mq_xSize hb ⟨by decide, ?_⟩))
    have b8 : mq_ct b.testBit 8 ≤ 8 := mq_ct_le _ 8
    obtain ⟨s1, s2⟩ := mq_Sn_step (S' := (sn ||| b).testBit) hp i2' z z2 (fun i hi => by rw [Nat.testBit_or, tb i hi])
    rw [← mq_ct_congr 8 tb] at s2
    refine nm_r (e' := nI (c + mq_ct b.testBit 8 % 2)) (by rw [mq_rem2 (by omega), nI_add]) (nm_r (nI_1 p) (k (sn ||| b, c + mq_ct b.testBit 8 % 2) ⟨mq_or_lt i1' hb, s1, ?_⟩))
    show c + mq_ct b.testBit 8 % 2 = _
    rw [s2, i3']
section
variable {my : Int32} {near pgs wt dc : Nat → Int32} {g : Nat → Nat}
theorem mq_y23 {post : Int32 → Prop} {J : Int32 → Int32 → Prop} {p l cnt : Nat} (hn : mq_St near g) (hp : p < 8) (hl : l < 256) (c9 : cnt < 100)
    (h : ∀ c, c < 256 → (∀ i, i < 8 → c.testBit i = mq_C (mq_G g) l.testBit p i) → J (nI (l &&& (255 - c))) (nI (cnt + mq_ct c.testBit 8 % 2))) :
    ∃ n, wY_oddWithout_23 post J (nI l) (nI cnt) my near pgs wt dc n (nI (2 ^ p)) 0 := by
  refine loop_0 (fun m i (c : Nat) => wY_oddWithout_23 post J (nI l) (nI cnt) my near pgs wt dc m (nI c) (nI i)) (fun i c => c < 256 ∧ ∃ X, mq_Pg (mq_G g) l.testBit p (i / 8) X ∧ mq_Sw (mq_G g) l.testBit p X (i % 8) c.testBit) 64 (2 ^ p) ?_ ?_ ?_
  · have P := mq_Pg_0 (G := mq_G g) (A := l.testBit) (X := (2 ^ p).testBit) hp (fun i _ => Nat.testBit_two_pow)
    exact ⟨mq_p2 p hp, _, P, mq_Pg_sw0 P⟩
  · intro m c ⟨i1, X, P, S⟩
    have b8 : mq_ct c.testBit 8 ≤ 8 := mq_ct_le _ 8
    have tb : ∀ i, i < 8 → c.testBit i = mq_C (mq_G g) l.testBit p i := fun i hi => mq_bi (S.2.1 i hi) (fun z => S.1 i hi (by rw [mq_Pg_e (k := 64 / 8) (by decide) P i hi]; exact z))
    refine br_t (nI_le (a := 64) (b := 64) (by omega) (by decide)) (mq_yBits i1 ⟨by decide, nm_r (e' := nI (cnt + mq_ct c.testBit 8 % 2)) (by rw [mq_rem2 (by omega), nI_add]) (nm_r (mq_an hl i1) (h c i1 tb))⟩)
  · intro m i c hi ⟨i1, X, P, S⟩ k
    have q8 : i % 8 < 8 := Nat.mod_lt _ (by decide)
    have fin : ∀ c', c' < 256 → mq_Sw (mq_G g) l.testBit p X (i % 8 + 1) c'.testBit → wY_oddWithout_23 post J (nI l) (nI cnt) my near pgs wt dc m (nI c') (nI (i + 1)) := by
      intro c' hc' S'
      refine k c' ⟨hc', ?_⟩
      rcases Nat.lt_or_ge (i % 8 + 1) 8 with y | y
      · have e1 : (i + 1) / 8 = i / 8 := by omega
        have e2 : (i + 1) % 8 = i % 8 + 1 := by omega
        rw [e1, e2]
        exact ⟨X, P, S'⟩
      · have e1 : (i + 1) / 8 = i / 8 + 1 := by omega
        have e2 : (i + 1) % 8 = 0 := by omega
        have e3 : i % 8 + 1 = 8 := by omega
        rw [e3] at S'
        rw [e1, e2]
        have P' := mq_Pg_s hp P S'
        exact ⟨_, P', mq_Pg_sw0 P'⟩
    refine br_f (nI_ge (b := 64) hi (by decide)) ⟨by decide, nm_r (e' := nI (i % 8)) (pk_rem (d := 8) (by omega) (by decide) (by decide)) ⟨fun z => ⟨vp_in_nI q8 (by decide), ?_⟩, fun z => ?_⟩⟩
    · have z' := (mq_sh1i i1 q8).mp z
      refine nm_r (e' := nI (c ||| (g (i % 8) &&& l))) (by rw [nI_clamp (by omega), (hn _ q8).1, nx_and, mq_n_or]) (nm_r (nI_1 i) (fin _ (mq_or_lt i1 (mq_and_lt (hn _ q8).2)) (mq_Sw_s (c := true) q8 S (fun _ => rfl) (fun _ => z') (fun j hj => ?_))))
      rw [Nat.testBit_or, Nat.testBit_and, Bool.true_and]
      rfl
    · have z' : c.testBit (i % 8) = false := mq_bt (fun w => z ((mq_sh1i i1 q8).mpr w))
      refine nm_r (nI_1 i) (fin c i1 (mq_Sw_s (c := false) q8 S (fun w => ?_) (fun w => absurd w (by decide)) (fun j hj => ?_)))
      · exact absurd (z'.symm.trans (S.1 _ q8 w)) (by decide)
      · rw [Bool.false_and, Bool.or_false]
theorem mq_y10 {post : Int32 → Prop} {a : Nat} (hn : mq_St near g) (hG : mq_Gr (mq_G g)) (h : post (nI (mq_oc (mq_G g) a.testBit))) : ∀ (n p0 l cnt : Nat) (S : Nat → Bool), 8 - p0 < n → p0 ≤ 8 → l < 256 → mq_Sn (mq_G g) a.testBit p0 S → (∀ i, i < 8 → l.testBit i = (a.testBit i && !S i)) → (∀ i, i < 8 → l.testBit i = true → p0 ≤ i) → cnt = mq_ct (mq_od (mq_G g) a.testBit) p0 →
    wY_oddWithout_10 post my near pgs wt dc n (nI l) (nI cnt) := by
  intro n
  induction n with
  | zero => intro p0 l cnt S h1; omega
  | succ n ih =>
    intro p0 l cnt S h1 h2 hl hS hL hlow hc
    have c8 : cnt ≤ p0 := by rw [hc]; exact mq_ct_le _ p0
    have noS : ∀ i, i < 8 → l.testBit i = false → ¬ (a.testBit i = true ∧ S i = false) := by
      intro i hi z w
      rw [hL i hi, w.1, w.2] at z
      exact absurd z (by decide)
    refine ⟨fun z => ?_, fun z => ?_⟩
    · have z' := (mq_nz hl).mp z
      obtain ⟨_, e⟩ := mq_Sn_to hS 8 h2 (Nat.le_refl 8) (fun i _ hi => noS i hi (z' i hi))
      rw [hc, ← e]
      exact h
    · have l0 : 0 < l := by
        rcases Nat.eq_zero_or_pos l with y | y
        · rw [y] at z; exact absurd nI_0 z
        · exact y
      obtain ⟨t1, t2⟩ := mq_tz_n l hl l0
      obtain ⟨t3, t4⟩ := mq_tz_t hl l0
      refine nm_r t1 ?_
      generalize mq_tz l = p at t2 t3 t4 ⊢
      have pp := hlow p t2 t3
      obtain ⟨s1, s2⟩ := mq_Sn_to hS p pp (by omega) (fun i _ hi => noS i (by omega) (t4 i hi))
      have lp := t3
      rw [hL p t2] at lp
      have lp' : a.testBit p = true ∧ S p = false := by simpa using lp
      refine mq_y23 hn t2 hl (by omega) (fun c hc8 tb => ?_)
      have tb2 : ∀ i, i < 8 → c.testBit i = mq_C (mq_G g) a.testBit p i := fun i hi => by rw [tb i hi]; exact mq_C_left hG hS hL t2 t3 i hi
      obtain ⟨u1, u2⟩ := mq_Sn_step (S' := fun i => S i || mq_C (mq_G g) a.testBit p i) t2 s1 lp'.1 lp'.2 (fun i _ => rfl)
      rw [← mq_ct_congr 8 tb2, s2, ← hc] at u2
      have L' : ∀ i, i < 8 → (l &&& (255 - c)).testBit i = (a.testBit i && !(S i || mq_C (mq_G g) a.testBit p i)) := by
        intro i hi
        rw [Nat.testBit_and, mq_c255 c hc8 i hi, hL i hi, ← tb2 i hi]
        cases a.testBit i <;> cases S i <;> cases c.testBit i <;> rfl
      refine ih (p + 1) _ _ _ (by omega) (by omega) (mq_and_lt hl) u1 L' (fun i hi w => ?_) u2.symm
      rw [Nat.testBit_and, Bool.and_eq_true, mq_c255 c hc8 i hi] at w
      rcases Nat.lt_trichotomy i p with y | y | y
      · rw [t4 i y] at w; exact absurd w.1 (by decide)
      · rw [y, tb p t2, mq_C_self] at w; exact absurd w.2 (by decide)
      · omega
theorem mq_yOdd {post : Int32 → Prop} {s : Nat} (hn : mq_St near g) (hG : mq_Gr (mq_G g)) (hs : s < 256) (h : post (nI (mq_oc (mq_G g) (255 - s).testBit))) : wpY_oddWithout post (my, near, pgs, wt, dc) (nI s) := by
  refine nm_r (e' := nI (255 - s)) (mq_stay hs) ⟨9, ?_⟩
  exact mq_y10 hn hG h 9 0 (255 - s) 0 (fun _ => false) (by omega) (by omega) (by omega) (mq_Sn_0 (fun _ _ => rfl)) (fun i _ => by rw [Bool.not_false, Bool.and_true]) (fun _ _ _ => Nat.zero_le _) rfl
end
noncomputable def mq_vl (g : Nat → Nat) (s : Nat) : Nat := 8 + mq_ct s.testBit 8 - mq_oc (mq_G g) (255 - s).testBit
def mq_BV (g : Nat → Nat) (l : Nat) : Prop := (∃ s, s < 256 ∧ l = mq_vl g s) ∧ ∀ s, s < 256 → l ≤ mq_vl g s
theorem mq_BV_uni {g : Nat → Nat} {l l' : Nat} (h : mq_BV g l) (h' : mq_BV g l') : l = l' := by
  obtain ⟨⟨s, a, b⟩, c⟩ := h
  obtain ⟨⟨s', a', b'⟩, c'⟩ := h'
  have := c s' a'
  have := c' s a
  omega
theorem mq_vl_0 (g : Nat → Nat) : mq_vl g 0 ≤ 8 := by
  have : mq_ct (Nat.testBit 0) 8 = 0 := mq_ct_ff _ 8 (fun i _ => Nat.zero_testBit i)
  unfold mq_vl
  omega
theorem mq_vl_16 (g : Nat → Nat) (s : Nat) : mq_vl g s ≤ 16 := by
  have : mq_ct s.testBit 8 ≤ 8 := mq_ct_le _ 8
  unfold mq_vl
  omega
theorem mq_vlI {g : Nat → Nat} {s : Nat} : ((8 : Int32) + nI (mq_ct s.testBit 8)) - nI (mq_oc (mq_G g) (255 - s).testBit) = nI (mq_vl g s) := by
  have o : mq_oc (mq_G g) (255 - s).testBit ≤ 8 := mq_ct_le _ 8
  have e : (8 : Int32) + nI (mq_ct s.testBit 8) = nI (8 + mq_ct s.testBit 8) := nI_add 8 _
  rw [e, pk_sub (by omega)]
  rfl
def mq_BI (g : Nat → Nat) (b s l : Nat) : Prop := l ≤ b ∧ (l = b ∨ ∃ s', s' < s ∧ l = mq_vl g s') ∧ ∀ s', s' < s → l ≤ mq_vl g s'
theorem mq_BI_0 {g : Nat → Nat} {b : Nat} : mq_BI g b 0 b := ⟨Nat.le_refl b, Or.inl rfl, fun s' hs' => absurd hs' (Nat.not_lt_zero s')⟩
theorem mq_BI_k {g : Nat → Nat} {b s l : Nat} (h : mq_BI g b s l) (w : l ≤ mq_vl g s) : mq_BI g b (s + 1) l := by
  obtain ⟨h1, h2, h3⟩ := h
  refine ⟨h1, ?_, fun s' hs' => ?_⟩
  · rcases h2 with y | ⟨s', y1, y2⟩
    · exact Or.inl y
    · exact Or.inr ⟨s', by omega, y2⟩
  · rcases Nat.lt_or_ge s' s with y | y
    · exact h3 s' y
    · have e : s' = s := by omega
      rw [e]; exact w
theorem mq_BI_n {g : Nat → Nat} {b s l : Nat} (h : mq_BI g b s l) (w : mq_vl g s < l) : mq_BI g b (s + 1) (mq_vl g s) := by
  obtain ⟨h1, h2, h3⟩ := h
  refine ⟨by omega, Or.inr ⟨s, by omega, rfl⟩, fun s' hs' => ?_⟩
  rcases Nat.lt_or_ge s' s with y | y
  · have := h3 s' y
    omega
  · have e : s' = s := by omega
    rw [e]; exact Nat.le_refl _
theorem mq_BI_e {g : Nat → Nat} {b l : Nat} (hb : 8 < b) (h : mq_BI g b 256 l) : mq_BV g l := by
  obtain ⟨h1, h2, h3⟩ := h
  refine ⟨?_, h3⟩
  rcases h2 with y | y
  · have := h3 0 (by decide)
    have := mq_vl_0 g
    omega
  · exact y
theorem mq_xBound {post : Int32 → Prop} {near pairs : Nat → Int32} {g : Nat → Nat} (hn : mq_St near g) (h : ∀ l, mq_BV g l → post (nI l / 2)) : wpX_bound post (near, pairs) := by
  refine loop_0 (fun n s (l : Nat) => wX_bound_5 post near pairs n (nI l) (nI s)) (fun s l => mq_BI g 16 s l) 256 16 mq_BI_0 ?_ ?_
  · intro n l I
    exact br_t (nI_le (a := 256) (b := 256) (by omega) (by decide)) ⟨by decide, h l (mq_BI_e (by decide) I)⟩
  · intro n s l hs I k
    have v16 := mq_vl_16 g s
    have l16 := I.1
    refine br_f (nI_ge (b := 256) hs (by decide)) (mq_xSize hs (mq_xOdd hn hs (nm_r mq_vlI ?_)))
    exact pk_le l (mq_vl g s) (fun y => nm_r (nI_1 s) (k l (mq_BI_k I y))) (fun y => nm_r (nI_1 s) (k _ (mq_BI_n I y)))
section
variable {my : Int32} {near pgs wt dc : Nat → Int32} {g : Nat → Nat}
theorem mq_yBound {post : Int32 → Prop} (hn : mq_St near g) (hG : mq_Gr (mq_G g)) (h : ∀ l, mq_BV g l → post (nI l / 2)) : wpY_bound post (my, near, pgs, wt, dc) := by
  refine loop_0 (fun n s (l : Nat) => wY_bound_5 post my near pgs wt dc n (nI l) (nI s)) (fun s l => mq_BI g 100 s l) 256 100 mq_BI_0 ?_ ?_
  · intro n l I
    exact br_t (nI_le (a := 256) (b := 256) (by omega) (by decide)) ⟨by decide, h l (mq_BI_e (by decide) I)⟩
  · intro n s l hs I k
    have v16 := mq_vl_16 g s
    have l16 := I.1
    refine br_f (nI_ge (b := 256) hs (by decide)) (mq_yBits hs (mq_yOdd hn hG hs (nm_r mq_vlI ?_)))
    exact pk_le l (mq_vl g s) (fun y => nm_r (nI_1 s) (k l (mq_BI_k I y))) (fun y => nm_r (nI_1 s) (k _ (mq_BI_n I y)))
end
