/-! the reference's constructor makes the table -/
def mq_Rp (w d : Nat → Int32) : List (Nat × Nat) → Prop
  | [] => True
  | e :: st => w st.length = nI e.1 ∧ d st.length = nI e.2 ∧ mq_Rp w d st
theorem mq_Rp_up {w d : Nat → Int32} {x y : Int32} {k : Nat} : ∀ st : List (Nat × Nat), st.length ≤ k → mq_Rp w d st → mq_Rp (upd w k x) (upd d k y) st := by
  intro st
  induction st with
  | nil => intro _ _; exact True.intro
  | cons e st ih =>
    intro h ⟨a, b, c⟩
    have h' : st.length + 1 ≤ k := h
    exact ⟨by rw [pk_un (by omega)]; exact a, by rw [pk_un (by omega)]; exact b, ih (by omega) c⟩
theorem mq_Rp_push {w d : Nat → Int32} {st : List (Nat × Nat)} {a b : Nat} (h : mq_Rp w d st) : mq_Rp (upd w st.length (nI a)) (upd d st.length (nI b)) ((a, b) :: st) :=
  ⟨pk_us, pk_us, mq_Rp_up st (Nat.le_refl _) h⟩
section
variable {my : Int32} {near pgs : Nat → Int32}
theorem mq_y87 {post : Int32 → SY → Prop} {c u p : Nat} (hp : p < 8) (hu : u < 256) : ∀ (k : Nat) (st : List (Nat × Nat)) (wt dc : Nat → Int32), p + k < 8 → st.length + k ≤ 60 → mq_Rp wt dc st →
    (∀ (wt' dc' : Nat → Int32), mq_Rp wt' dc' (mq_ps c u p k st) → post (nI (mq_ps c u p k st).length) (my, near, pgs, wt', dc')) → wY_extend_87 post (nI c) (nI u) (nI p) my (k + 1) (nI st.length) (nI (p + k)) near pgs wt dc := by
  intro k
  induction k with
  | zero =>
    intro st wt dc h1 h2 hR h
    exact br_t (nI_le (a := p + 0) (b := p) (by omega) (by omega)) (h wt dc hR)
  | succ k ih =>
    intro st wt dc h1 h2 hR h
    have q8 : p + k + 1 < 8 := by omega
    have hq := mq_sh0i hu q8
    refine br_f (nI_ge (a := p) (b := p + k + 1) (by omega) (by omega)) ⟨fun z => ?_, fun z => ?_⟩
    · have tb := hq.mp z
      have e : mq_ps c u p (k + 1) st = mq_ps c u p k ((c ||| (p + k + 1) * 2 ^ (3 * p) ||| p * 2 ^ (3 * (p + k + 1)), u ||| 2 ^ p ||| 2 ^ (p + k + 1)) :: st) := by
        simp only [mq_ps]
        rw [if_neg (by rw [tb]; decide)]
      rw [e] at h
      refine ⟨vp_in_nI (by omega) (by decide), nm_r (e' := upd wt st.length (nI (c ||| (p + k + 1) * 2 ^ (3 * p) ||| p * 2 ^ (3 * (p + k + 1))))) ?_ ⟨vp_in_nI (by omega) (by decide), nm_r (e' := upd dc st.length (nI (u ||| 2 ^ p ||| 2 ^ (p + k + 1)))) ?_ (nm_r (nI_1 st.length) (nm_r (pk_m1 (p + k)) (ih _ _ _ (by omega) ?_ (mq_Rp_push hR) h)))⟩⟩
      · rw [nI_clamp (by omega)]
        show upd wt st.length ((nI c ||| (nI (p + k + 1) <<< ((3 : Int32) * nI p &&& 31))) ||| (nI p <<< ((3 : Int32) * nI (p + k + 1) &&& 31))) = _
        rw [mq_shlI q8 hp, mq_shlI hp q8, mq_n_or, mq_n_or]
      · rw [nI_clamp (by omega)]
        show upd dc st.length ((nI u ||| ((1 : Int32) <<< (nI p &&& 31))) ||| ((1 : Int32) <<< (nI (p + k + 1) &&& 31))) = _
        rw [mq_sh1 p hp, mq_sh1 (p + k + 1) q8, mq_n_or, mq_n_or]
      · show st.length + 1 + k ≤ 60
        omega
    · have tb : u.testBit (p + k + 1) = true := mq_bf (fun w => z (hq.mpr w))
      have e : mq_ps c u p (k + 1) st = mq_ps c u p k st := by
        simp only [mq_ps]
        rw [if_pos tb]
      rw [e] at h
      exact nm_r (pk_m1 (p + k)) (ih st wt dc (by omega) (by omega) hR h)
theorem mq_y32 {post : Int32 → SY → Prop} {c u : Nat} {st : List (Nat × Nat)} {wt dc : Nat → Int32} (hu : u < 256) (hl : st.length ≤ 40) (hR : mq_Rp wt dc st) : ∀ (d p : Nat), p + d = 8 → mq_lw u d p < 8 →
    (∀ (wt' dc' : Nat → Int32), mq_Rp wt' dc' (mq_kids c u (mq_lw u d p) st) → post (nI (mq_kids c u (mq_lw u d p) st).length) (my, near, pgs, wt', dc')) → wY_extend_32 post (nI c) (nI u) (nI st.length) my near pgs wt dc (d + 1) (nI p) := by
  intro d
  induction d with
  | zero =>
    intro p h1 h2
    simp only [mq_lw] at h2
    omega
  | succ d ih =>
    intro p h1 h2 h
    have p8 : p < 8 := by omega
    cases tb : u.testBit p
    · have e : mq_lw u (d + 1) p = p := by
        simp only [mq_lw]
        rw [if_neg (by rw [tb]; decide)]
      rw [e] at h
      refine br_f (fun z => by rw [(mq_sh1i hu p8).mp z] at tb; exact absurd tb (by decide)) ⟨vp_in_nI (by omega) (by decide), nm_r (e' := upd wt st.length (nI (c ||| p * 2 ^ (3 * p)))) (by rw [nI_clamp (by omega), mq_shlI p8 p8, mq_n_or]) ⟨vp_in_nI (by omega) (by decide), nm_r (e' := upd dc st.length (nI (u ||| 2 ^ p))) (by rw [nI_clamp (by omega), mq_sh1 p p8, mq_n_or]) (nm_r (nI_1 st.length) ⟨7 - p + 1, ?_⟩)⟩⟩
      have r := mq_y87 (post := post) (my := my) (near := near) (pgs := pgs) (c := c) (u := u) p8 hu (7 - p) ((c ||| p * 2 ^ (3 * p), u ||| 2 ^ p) :: st) _ _ (by omega) (by show st.length + 1 + (7 - p) ≤ 60; omega) (mq_Rp_push hR) h
      have e7 : p + (7 - p) = 7 := by omega
      rw [e7] at r
      exact r
    · have e : mq_lw u (d + 1) p = mq_lw u d (p + 1) := by
        simp only [mq_lw]
        rw [if_pos tb]
      rw [e] at h h2
      exact br_t ((mq_sh1i hu p8).mpr tb) (nm_r (nI_1 p) (ih (p + 1) (by omega) h2 h))
theorem mq_y39 {post : SY → Prop} (h : ∀ (my' : Int32) (pgs' wt' dc' : Nat → Int32), mq_Ta pgs' → post (my', near, pgs', wt', dc')) : ∀ (d : Nat) (st : List (Nat × Nat)) (i : Nat) (pgs wt dc : Nat → Int32), mq_run d st i = true → mq_Rp wt dc st → (∀ n, n < i → pgs n = nI (mq_T n)) →
    wY_init_39 post d (nI st.length) (nI i) near pgs wt dc := by
  intro d
  induction d with
  | zero => intro st i pgs wt dc hr; simp [mq_run] at hr
  | succ d ih =>
    intro st i pgs wt dc hr hR hp
    cases st with
    | nil =>
      simp only [mq_run, decide_eq_true_eq] at hr
      subst hr
      exact br_t (by decide) (h _ _ _ _ hp)
    | cons e st =>
      simp only [mq_run] at hr
      rw [Bool.and_eq_true] at hr
      obtain ⟨h4, hr⟩ := hr
      have l40 : st.length ≤ 40 := of_decide_eq_true h4
      obtain ⟨r1, r2, r3⟩ := hR
      refine br_f (nI_nle (n := st.length + 1) (by omega) (by omega)) (nm_r (pk_m1 st.length) ⟨vp_in_nI (by omega) (by decide), vp_in_nI (by omega) (by decide), ?_⟩)
      rw [nI_clamp (by omega), r1, r2]
      by_cases z : e.2 = 255
      · rw [if_pos z] at hr
        simp only [Bool.and_eq_true, decide_eq_true_eq] at hr
        obtain ⟨h1, h2, h3⟩ := hr
        refine br_t (by rw [z]; rfl) ⟨vp_in_nI h1 (by decide), nm_r (e' := upd pgs i (nI e.1)) (by rw [nI_clamp (by omega)]) (nm_r (nI_1 i) (ih st (i + 1) _ wt dc h3 r3 (fun n hn => ?_)))⟩
        by_cases y : n = i
        · rw [y, pk_us, h2]
        · rw [pk_un y]; exact hp n (by omega)
      · rw [if_neg z] at hr
        simp only [Bool.and_eq_true, decide_eq_true_eq] at hr
        obtain ⟨h1, h2, h3, h5⟩ := hr
        refine br_f (fun y => z ((nI_eq (b := 255) (by omega) (by decide)).mp y)) ⟨9, mq_y32 h2 l40 r3 8 0 (by omega) h3 (fun wt' dc' hR' => ?_)⟩
        exact ih _ i pgs wt' dc' h5 hR' hp
end
theorem mq_yInit {post : SY → Prop} (h : ∀ (my' : Int32) (pgs' wt' dc' : Nat → Int32), mq_Ta pgs' → post (my', (fun _ => 0), pgs', wt', dc')) : wpY_init post :=
  ⟨1800, mq_y39 h 1800 [(0, 0)] 0 _ _ _ mq_run_ok ⟨rfl, rfl, True.intro⟩ (fun n hn => absurd hn (Nat.not_lt_zero n))⟩
