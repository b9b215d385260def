/-! line and lines -/
def mq_ex (g : Nat → Nat) (p q : Nat) : Nat → Nat := fun i => if i = p then g p ^^^ 2 ^ q else if i = q then g q ^^^ 2 ^ p else g i
def mq_E (p q i j : Nat) : Bool := (decide (i = p) && decide (j = q)) || (decide (i = q) && decide (j = p))
theorem mq_dc (a b : Nat) : decide (a = b) = decide (b = a) := by
  by_cases h : a = b
  · rw [h]
  · rw [decide_eq_false h, decide_eq_false (fun z => h z.symm)]
theorem mq_ex_tb {g : Nat → Nat} {p q : Nat} (hn : p ≠ q) (i j : Nat) : mq_G (mq_ex g p q) i j = (mq_G g i j ^^ mq_E p q i j) := by
  unfold mq_G mq_ex mq_E
  by_cases h1 : i = p
  · subst h1
    rw [if_pos rfl, Nat.testBit_xor, Nat.testBit_two_pow, decide_eq_true rfl, decide_eq_false hn, mq_dc q j]
    simp
  · rw [if_neg h1, decide_eq_false h1]
    by_cases h2 : i = q
    · subst h2
      rw [if_pos rfl, Nat.testBit_xor, Nat.testBit_two_pow, decide_eq_true rfl, mq_dc p j]
      simp
    · rw [if_neg h2, decide_eq_false h2]
      simp
theorem mq_ex_Gr {g : Nat → Nat} {p q : Nat} (hn : p ≠ q) (hG : mq_Gr (mq_G g)) : mq_Gr (mq_G (mq_ex g p q)) := by
  intro i j hi hj
  have a := hG i j hi hj
  rw [mq_ex_tb hn, mq_ex_tb hn, mq_ex_tb hn, a.1, a.2]
  constructor
  · unfold mq_E
    rw [Bool.or_comm, Bool.and_comm (decide (i = q)), Bool.and_comm (decide (i = p))]
  · unfold mq_E
    by_cases h : i = p
    · rw [decide_eq_false (fun z => hn (h.symm.trans z))]; simp
    · rw [decide_eq_false h]; simp
theorem mq_ex_lt {g : Nat → Nat} {p q : Nat} (hp : p < 8) (hq : q < 8) (h : ∀ i, i < 8 → g i < 256) : ∀ i, i < 8 → mq_ex g p q i < 256 := by
  intro i hi
  unfold mq_ex
  by_cases h1 : i = p
  · rw [if_pos h1]; exact mq_xor_lt (h p hp) (mq_p2 q hq)
  · rw [if_neg h1]
    by_cases h2 : i = q
    · rw [if_pos h2]; exact mq_xor_lt (h q hq) (mq_p2 p hp)
    · rw [if_neg h2]; exact h i hi
theorem mq_ex_St {near : Nat → Int32} {g : Nat → Nat} {p q : Nat} (hn : mq_St near g) (hp : p < 8) (hq : q < 8) (hne : p ≠ q) :
    mq_St (upd (upd near p (near p ^^^ nI (2 ^ q))) q (upd near p (near p ^^^ nI (2 ^ q)) q ^^^ nI (2 ^ p))) (mq_ex g p q) := by
  intro i hi
  refine ⟨?_, mq_ex_lt hp hq (fun i hi => (hn i hi).2) i hi⟩
  unfold mq_ex
  by_cases h2 : i = q
  · subst h2
    rw [pk_us, pk_un (fun z => hne z.symm), if_neg (fun z => hne z.symm), if_pos rfl, (hn i hi).1, nx_xor]
  · rw [pk_un h2]
    by_cases h1 : i = p
    · subst h1
      rw [pk_us, if_pos rfl, (hn i hi).1, nx_xor]
    · rw [pk_un h1, if_neg h1, if_neg h2, (hn i hi).1]
theorem mq_Pt0 {g : Nat → Nat} {pairs : Nat → Int32} {mm : Nat → Nat} (h : mq_Pt g pairs mm) : pairs 0 = 0 := by
  have a := h 0 (by decide)
  have b := mq_M_uni a.2 (mq_M_0 (fun i _ => Nat.zero_testBit i))
  rw [a.1, b]
  rfl
theorem mq_xLine {post : Int32 → SX → Prop} {near pairs : Nat → Int32} {g mm : Nat → Nat} {p q : Nat} (hn : mq_St near g) (hG : mq_Gr (mq_G g)) (hP : mq_Pt g pairs mm) (hp : p < 8) (hq : q < 8) (hne : p ≠ q)
    (h : ∀ near' pairs' mm', mq_St near' (mq_ex g p q) → mq_Pt (mq_ex g p q) pairs' mm' → post (nI (if mq_G (mq_ex g p q) p q = true then 1 else 0)) (near', pairs')) : wpX_line post (near, pairs) (nI p) (nI q) := by
  unfold wpX_line
  dsimp only
  refine mq_xPointT hp (br_f (by decide) (mq_xPointT hq (br_f (by decide) (br_f (fun z => hne ((nI_eq (by omega) (by omega)).mp z)) ⟨vp_in_nI hp (by decide), vp_in_nI hp (by decide), ?_⟩))))
  refine nm_r (e' := upd near p (near p ^^^ nI (2 ^ q))) (by rw [nI_clamp (by omega), mq_sh1 q hq]) ⟨vp_in_nI hq (by decide), vp_in_nI hq (by decide), ?_⟩
  refine nm_r (e' := upd (upd near p (near p ^^^ nI (2 ^ q))) q (upd near p (near p ^^^ nI (2 ^ q)) q ^^^ nI (2 ^ p))) (by rw [nI_clamp (n := q) (by omega), mq_sh1 p hp]) ?_
  have st := mq_ex_St hn hp hq hne
  refine mq_xFill st (mq_ex_Gr hne hG) (mq_Pt0 hP) (fun pairs' mm' hP' => ?_)
  have k := h _ pairs' mm' st hP'
  refine mq_xIsLine st hp hq (fun z => br_f (by decide) ?_) (fun z => br_t rfl ?_)
  · rw [if_pos z] at k; exact k
  · rw [if_neg (by rw [z]; decide)] at k; exact k
section
variable {my : Int32} {near pgs wt dc : Nat → Int32} {g : Nat → Nat}
theorem mq_yExch {post : SY → Prop} {p q : Nat} (hn : mq_St near g) (hp : p < 8) (hq : q < 8) (hne : p ≠ q) (h : ∀ near', mq_St near' (mq_ex g p q) → post (my, near', pgs, wt, dc)) : wpY_exchange post (my, near, pgs, wt, dc) (nI p) (nI q) := by
  refine ⟨vp_in_nI hp (by decide), vp_in_nI hp (by decide), ?_⟩
  refine nm_r (e' := upd near p (near p ^^^ nI (2 ^ q))) (by rw [nI_clamp (by omega), mq_sh1 q hq]) ⟨vp_in_nI hq (by decide), vp_in_nI hq (by decide), ?_⟩
  exact nm_r (e' := upd (upd near p (near p ^^^ nI (2 ^ q))) q (upd near p (near p ^^^ nI (2 ^ q)) q ^^^ nI (2 ^ p))) (by rw [nI_clamp (n := q) (by omega), mq_sh1 p hp]) (h _ (mq_ex_St hn hp hq hne))
theorem mq_yLine {post : Int32 → SY → Prop} {p q : Nat} (hn : mq_St near g) (hp : p < 8) (hq : q < 8) (hne : p ≠ q)
    (h : ∀ near', mq_St near' (mq_ex g p q) → post (nI (if mq_G (mq_ex g p q) p q = true then 1 else 0)) (my, near', pgs, wt, dc)) : wpY_line post (my, near, pgs, wt, dc) (nI p) (nI q) := by
  unfold wpY_line
  dsimp only
  refine mq_yPointT hp hq hne (br_f (by decide) (mq_yExch hn hp hq hne (fun near' st => ?_)))
  have k := h near' st
  refine mq_yHas st hp hq (fun z => br_f (by decide) ?_) (fun z => br_t rfl ?_)
  · rw [if_pos z] at k; exact k
  · rw [if_neg (by rw [z]; decide)] at k; exact k
end
def mq_ln (g : Nat → Nat) (p s : Nat) : Nat → Nat := fun i => if i = p then mq_wo s p else if s.testBit i = true then g i ||| 2 ^ p else mq_wo (g i) p
theorem mq_ln_p {g : Nat → Nat} {p s : Nat} : mq_ln g p s p = mq_wo s p := if_pos rfl
theorem mq_ln_t {g : Nat → Nat} {p s i : Nat} (h : i ≠ p) (z : s.testBit i = true) : mq_ln g p s i = g i ||| 2 ^ p := by
  unfold mq_ln; rw [if_neg h, if_pos z]
theorem mq_ln_f {g : Nat → Nat} {p s i : Nat} (h : i ≠ p) (z : s.testBit i = false) : mq_ln g p s i = mq_wo (g i) p := by
  unfold mq_ln; rw [if_neg h, if_neg (by rw [z]; decide)]
theorem mq_ln_lt {g : Nat → Nat} {p s : Nat} (hp : p < 8) (hs : s < 256) (h : ∀ i, i < 8 → g i < 256) : ∀ i, i < 8 → mq_ln g p s i < 256 := by
  intro i hi
  by_cases a : i = p
  · rw [a, mq_ln_p]; exact mq_wo_lt p hs
  · cases z : s.testBit i
    · rw [mq_ln_f a z]; exact mq_wo_lt p (h i hi)
    · rw [mq_ln_t a z]; exact mq_or_lt (h i hi) (mq_p2 p hp)
theorem mq_ln_tb {g : Nat → Nat} {p s i j : Nat} (hp : p < 8) (hj : j < 8) : (mq_ln g p s i).testBit j = if i = p then (if j = p then false else s.testBit j) else if j = p then s.testBit i else (g i).testBit j := by
  by_cases a : i = p
  · rw [if_pos a, a, mq_ln_p, mq_wo_tb s hp hj]
    rfl
  · rw [if_neg a]
    cases z : s.testBit i
    · rw [mq_ln_f a z, mq_wo_tb _ hp hj]
      rfl
    · rw [mq_ln_t a z, Nat.testBit_or, Nat.testBit_two_pow]
      by_cases b : j = p
      · rw [if_pos b, decide_eq_true b.symm, Bool.or_true]
      · rw [if_neg b, decide_eq_false (fun w => b w.symm), Bool.or_false]
theorem mq_ln_Gr {g : Nat → Nat} {p s : Nat} (hp : p < 8) (hG : mq_Gr (mq_G g)) : mq_Gr (mq_G (mq_ln g p s)) := by
  intro i j hi hj
  have a := hG i j hi hj
  unfold mq_G at a ⊢
  refine ⟨?_, ?_⟩
  · rw [mq_ln_tb hp hj, mq_ln_tb hp hi]
    by_cases h1 : i = p
    · by_cases h2 : j = p
      · simp only [if_pos h1, if_pos h2]
      · simp only [if_pos h1, if_neg h2]
    · by_cases h2 : j = p
      · simp only [if_neg h1, if_pos h2]
      · simp only [if_neg h1, if_neg h2]
        exact a.1
  · rw [mq_ln_tb hp hi]
    by_cases h1 : i = p
    · simp only [if_pos h1]
    · simp only [if_neg h1]
      exact a.2
theorem mq_xLines {post : Int32 → SX → Prop} {near pairs : Nat → Int32} {g mm : Nat → Nat} {p s : Nat} (hn : mq_St near g) (hG : mq_Gr (mq_G g)) (hP : mq_Pt g pairs mm) (hp : p < 8) (hs : s < 256)
    (h : ∀ near' pairs' mm', mq_St near' (mq_ln g p s) → mq_Pt (mq_ln g p s) pairs' mm' → post (nI (g p)) (near', pairs')) : wpX_lines post (near, pairs) (nI p) (nI s) := by
  have w8 := mq_wo_lt p hs
  unfold wpX_lines
  dsimp only
  refine mq_xPointT hp (br_f (by decide) (mq_xSetT hs (br_f (by decide) ⟨vp_in_nI hp (by decide), nm_r (e' := nI (g p)) (by rw [nI_clamp (by omega), (hn p hp).1]) ?_⟩)))
  refine mq_xWithout hs hp ⟨vp_in_nI hp (by decide), nm_r (e' := upd near p (nI (mq_wo s p))) (by rw [nI_clamp (by omega)]) ?_⟩
  refine loop_0 (fun n q (a : Nat → Int32) => wX_lines_41 post (nI p) (nI (g p)) (nI (mq_wo s p)) n (nI q) a pairs)
    (fun q a => ∀ i, i < 8 → a i = nI (if i < q then mq_ln g p s i else if i = p then mq_wo s p else g i)) 8 (upd near p (nI (mq_wo s p))) ?_ ?_ ?_
  · intro i hi
    rw [if_neg (Nat.not_lt_zero i)]
    by_cases a : i = p
    · rw [if_pos a, a, pk_us]
    · rw [if_neg a, pk_un a, (hn i hi).1]
  · intro n a I
    have st : mq_St a (mq_ln g p s) := fun i hi => ⟨by rw [I i hi, if_pos hi], mq_ln_lt hp hs (fun i hi => (hn i hi).2) i hi⟩
    exact br_t (nI_le (a := 8) (b := 8) (by omega) (by decide)) (mq_xFill st (mq_ln_Gr hp hG) (mq_Pt0 hP) (fun pairs' mm' hP' => h a pairs' mm' st hP'))
  · intro n q a hq I k
    have aq := I q hq
    rw [if_neg (Nat.lt_irrefl q)] at aq
    have next : ∀ x : Nat, x = mq_ln g p s q → ∀ i, i < 8 → upd a q (nI x) i = nI (if i < q + 1 then mq_ln g p s i else if i = p then mq_wo s p else g i) := by
      intro x hx i hi
      by_cases e : i = q
      · rw [e, pk_us, if_pos (Nat.lt_succ_self q), hx]
      · rw [pk_un e, I i hi]
        have y : (i < q + 1) = (i < q) := propext ⟨fun _ => by omega, fun _ => by omega⟩
        simp only [y]
    refine br_f (nI_ge (b := 8) hq (by decide)) (mq_xHas w8 hq (fun z => br_f (by decide) ?_) (fun z => br_t rfl ?_))
    · rw [mq_wo_tb s hp hq] at z
      obtain ⟨z1, z2⟩ := mq_rm_t z
      rw [if_neg z1] at aq
      refine ⟨vp_in_nI hq (by decide), vp_in_nI hq (by decide), nm_r (e' := upd a q (nI (g q ||| 2 ^ p))) (by rw [nI_clamp (by omega), aq, mq_sh1 p hp, mq_n_or]) (nm_r (nI_1 q) (k _ (next _ (mq_ln_t z1 z2).symm)))⟩
    · rw [mq_wo_tb s hp hq] at z
      refine ⟨vp_in_nI hq (by decide), ?_⟩
      rw [nI_clamp (by omega), aq]
      by_cases e : q = p
      · rw [if_pos e]
        refine mq_xWithout w8 hp ⟨vp_in_nI hq (by decide), nm_r (e' := upd a q (nI (mq_wo (mq_wo s p) p))) rfl (nm_r (nI_1 q) (k _ (next _ ?_)))⟩
        rw [e, mq_ln_p]
        refine mq_ext8 (mq_wo_lt p w8) w8 (fun i hi => ?_)
        rw [mq_wo2_tb s hp hp hi, mq_wo_tb s hp hi]
        by_cases y : i = p
        · rw [y, mq_rm_p, mq_rm_p]
        · rw [mq_rm_n y]
      · rw [if_neg e]
        rw [mq_rm_n e] at z
        exact mq_xWithout (hn q hq).2 hp ⟨vp_in_nI hq (by decide), nm_r (e' := upd a q (nI (mq_wo (g q) p))) rfl (nm_r (nI_1 q) (k _ (next _ (mq_ln_f e z).symm)))⟩
