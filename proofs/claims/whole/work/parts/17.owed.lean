/-- both sides hold the same lines (g); the component's table holds greatest pairings; the reference's holds all pairings -/
def i_Rel (k : Nat) (u : SX) (v : SY) : Prop := ∃ (near pairs : Nat → Int32) (my : Int32) (near' pgs wt dc : Nat → Int32) (g mm : Nat → Nat), u = (near, pairs) ∧ v = (my, near', pgs, wt, dc) ∧ mq_St near g ∧ mq_Gr (mq_G g) ∧ mq_Pt g pairs mm ∧ mq_St near' g ∧ mq_Ta pgs
theorem i_up {k : Nat} {u : SX} {v : SY} (h : i_Rel k u v) : i_Rel (k + 3) u v := h
theorem mq_M_none {G : Nat → Nat → Bool} {S : Nat → Bool} (h : ∀ p q, G p q = false) : mq_M G S 0 := by
  refine ⟨⟨fun p => p, mq_Inv_id, mq_Ok_id, mq_cn_id⟩, fun f _ hk => ?_⟩
  have : mq_cn f = 0 := mq_ct_ff _ 8 (fun i hi => mq_mv_f (by
    apply Classical.byContradiction
    intro z
    exact absurd ((h i (f i)).symm.trans (hk i hi z).1) (by decide)))
  omega
theorem mq_G0 (p q : Nat) : mq_G (fun _ => 0) p q = false := Nat.zero_testBit q
theorem i_vc0 : wpX_init (fun u => wpY_init (fun v => i_Rel 0 u v)) := by
  unfold wpX_init
  exact mq_yInit (fun my pgs wt dc hT => ⟨_, _, _, _, _, _, _, fun _ => 0, fun _ => 0, rfl, rfl, fun _ _ => ⟨rfl, (by decide : (0 : Nat) < 256)⟩, fun p q _ _ => ⟨by rw [mq_G0, mq_G0], mq_G0 p p⟩, fun s _ => ⟨rfl, mq_M_none mq_G0⟩, fun _ _ => ⟨rfl, (by decide : (0 : Nat) < 256)⟩, hT⟩)
theorem i_vc_line {k : Nat} {u : SX} {v : SY} (I : i_Rel k u v) (hk : k + 3 ≤ 1536) (v1 : Int32) (v2 : Int32) : wpX_line (fun r u' => wpY_line (fun r' v' => r' = r ∧ i_Rel (k + 3) u' v') v v1 v2) u v1 v2 := by
  have R := i_up I
  obtain ⟨near, pairs, my, near', pgs, wt, dc, g, mm, rfl, rfl, hn, hG, hP, hn', hT⟩ := I
  have bad : (mq_bad v1 8 ∨ mq_bad v2 8 ∨ v1 = v2) → wpY_line (fun r' v' => r' = -1 ∧ i_Rel (k + 3) (near, pairs) v') (my, near', pgs, wt, dc) v1 v2 := by
    intro b
    unfold wpY_line
    dsimp only
    exact mq_yPointF b (br_t rfl ⟨rfl, R⟩)
  rcases mq_cases v1 (n := 8) (by decide) with b1 | ⟨p, hp, rfl⟩
  · unfold wpX_line
    dsimp only
    exact mq_xPointF b1 (br_t rfl (bad (Or.inl b1)))
  · rcases mq_cases v2 (n := 8) (by decide) with b2 | ⟨q, hq, rfl⟩
    · unfold wpX_line
      dsimp only
      exact mq_xPointT hp (br_f (by decide) (mq_xPointF b2 (br_t rfl (bad (Or.inr (Or.inl b2))))))
    · by_cases e : p = q
      · subst e
        unfold wpX_line
        dsimp only
        exact mq_xPointT hp (br_f (by decide) (mq_xPointT hp (br_f (by decide) (br_t rfl (bad (Or.inr (Or.inr rfl)))))))
      · refine mq_xLine hn hG hP hp hq e (fun near2 pairs2 mm2 st hP2 => ?_)
        exact mq_yLine hn' hp hq e (fun near3 st3 => ⟨rfl, _, _, _, _, _, _, _, _, _, rfl, rfl, st, mq_ex_Gr e hG, hP2, st3, hT⟩)
theorem i_vc_lines {k : Nat} {u : SX} {v : SY} (I : i_Rel k u v) (hk : k + 3 ≤ 1536) (v1 : Int32) (v2 : Int32) : wpX_lines (fun r u' => wpY_lines (fun r' v' => r' = r ∧ i_Rel (k + 3) u' v') v v1 v2) u v1 v2 := by
  have R := i_up I
  obtain ⟨near, pairs, my, near', pgs, wt, dc, g, mm, rfl, rfl, hn, hG, hP, hn', hT⟩ := I
  have bad : (mq_bad v1 8 ∨ mq_bad v2 256) → wpY_lines (fun r' v' => r' = -1 ∧ i_Rel (k + 3) (near, pairs) v') (my, near', pgs, wt, dc) v1 v2 := by
    intro b
    unfold wpY_lines
    dsimp only
    refine br_c (fun _ => ⟨rfl, R⟩) (fun a1 => br_c (fun _ => ⟨rfl, R⟩) (fun a2 => ?_))
    rcases b with (b | b) | b
    · exact absurd b a1
    · exact absurd (Int32.lt_of_lt_of_le (show (7 : Int32) < nI 8 by decide) b) a2
    · exact mq_ySetF b (br_t rfl ⟨rfl, R⟩)
  rcases mq_cases v1 (n := 8) (by decide) with b1 | ⟨p, hp, rfl⟩
  · unfold wpX_lines
    dsimp only
    exact mq_xPointF b1 (br_t rfl (bad (Or.inl b1)))
  · rcases mq_cases v2 (n := 256) (by decide) with b2 | ⟨s, hs, rfl⟩
    · unfold wpX_lines
      dsimp only
      exact mq_xPointT hp (br_f (by decide) (mq_xSetF b2 (br_t rfl (bad (Or.inr b2)))))
    · refine mq_xLines hn hG hP hp hs (fun near2 pairs2 mm2 st hP2 => ?_)
      exact mq_yLines hn' hG hp hs (fun near3 st3 => ⟨rfl, _, _, _, _, _, _, _, _, _, rfl, rfl, st, mq_ln_Gr hp hG, hP2, st3, hT⟩)
theorem i_vc_most {k : Nat} {u : SX} {v : SY} (I : i_Rel k u v) (hk : k + 3 ≤ 1536) : wpX_most (fun r => wpY_most (fun r' => r' = r ∧ i_Rel (k + 3) u v) v) u := by
  have R := i_up I
  obtain ⟨near, pairs, my, near', pgs, wt, dc, g, mm, rfl, rfl, hn, hG, hP, hn', hT⟩ := I
  unfold wpX_most wpY_most
  dsimp only
  exact mq_yMostAll hn' hT (mq_Pt_all hP) ⟨(hP 255 (by decide)).1.symm, R⟩
theorem i_vc_mostIn {k : Nat} {u : SX} {v : SY} (I : i_Rel k u v) (hk : k + 3 ≤ 1536) (v1 : Int32) : wpX_mostIn (fun r => wpY_mostIn (fun r' => r' = r ∧ i_Rel (k + 3) u v) v v1) u v1 := by
  have R := i_up I
  obtain ⟨near, pairs, my, near', pgs, wt, dc, g, mm, rfl, rfl, hn, hG, hP, hn', hT⟩ := I
  unfold wpX_mostIn wpY_mostIn
  dsimp only
  rcases mq_cases v1 (n := 256) (by decide) with b | ⟨s, hs, rfl⟩
  · exact mq_xSetF b (br_t rfl (mq_ySetF b (br_t rfl ⟨rfl, R⟩)))
  · refine mq_xSetT hs (br_f (by decide) ⟨vp_in_nI hs (by decide), mq_ySetT hs (br_f (by decide) (mq_yMost hn' hT hs (fun m hm => ⟨?_, R⟩)))⟩)
    rw [nI_clamp (by omega), (hP s hs).1, mq_M_uni hm (hP s hs).2]
theorem i_vc_partner {k : Nat} {u : SX} {v : SY} (I : i_Rel k u v) (hk : k + 3 ≤ 1536) (v1 : Int32) : wpX_partner (fun r => wpY_partner (fun r' => r' = r ∧ i_Rel (k + 3) u v) v v1) u v1 := by
  have R := i_up I
  obtain ⟨near, pairs, my, near', pgs, wt, dc, g, mm, rfl, rfl, hn, hG, hP, hn', hT⟩ := I
  rcases mq_cases v1 (n := 8) (by decide) with b | ⟨p, hp, rfl⟩
  · unfold wpX_partner wpY_partner
    dsimp only
    refine mq_xPointF b (br_t rfl (br_c (fun _ => ⟨rfl, R⟩) (fun a1 => br_c (fun a2 => ?_) (fun _ => ⟨rfl, R⟩))))
    rcases b with b | b
    · exact absurd b a1
    · exact absurd (Int32.lt_of_lt_of_le (show (7 : Int32) < nI 8 by decide) b) (Int32.not_lt.mpr a2)
  · obtain ⟨n0, ⟨h7, g0⟩, l0⟩ := pk_least (fun n => n < 764 ∧ mq_gb (mq_G g) (mm 255) n = true) (mq_gb_ex (mq_Pt_all hP))
    have l1 : ∀ n, n < n0 → mq_gb (mq_G g) (mm 255) n = false := fun n hn1 => mq_bt (fun w => l0 n hn1 ⟨by omega, w⟩)
    have F := mq_FstT h7 (mq_Pt_all hP) g0 l1
    exact mq_xPartner hn hG hP F hp (mq_yPartner hn' hT (mq_Pt_all hP) hp h7 g0 l1 ⟨rfl, R⟩)
theorem i_vc_loose {k : Nat} {u : SX} {v : SY} (I : i_Rel k u v) (hk : k + 3 ≤ 1536) : wpX_loose (fun r => wpY_loose (fun r' => r' = r ∧ i_Rel (k + 3) u v) v) u := by
  have R := i_up I
  obtain ⟨near, pairs, my, near', pgs, wt, dc, g, mm, rfl, rfl, hn, hG, hP, hn', hT⟩ := I
  exact mq_xLooseAll hP (fun l hl => mq_yLooseAll hn' hT (mq_Pt_all hP) (fun l' hl' => ⟨by rw [mq_Bd_uni hl hl'], R⟩))
theorem i_vc_beside {k : Nat} {u : SX} {v : SY} (I : i_Rel k u v) (hk : k + 3 ≤ 1536) : wpX_beside (fun r => wpY_beside (fun r' => r' = r ∧ i_Rel (k + 3) u v) v) u := by
  have R := i_up I
  obtain ⟨near, pairs, my, near', pgs, wt, dc, g, mm, rfl, rfl, hn, hG, hP, hn', hT⟩ := I
  refine mq_xBeside hn hP (fun l b hl hb => mq_yBeside hn' hT (mq_Pt_all hP) (fun l' b' hl' hb' => ⟨?_, R⟩))
  have e := mq_Bd_uni hl hl'
  subst e
  rw [mq_Bd_uni hb hb']
theorem i_vc_fast {k : Nat} {u : SX} {v : SY} (I : i_Rel k u v) (hk : k + 3 ≤ 1536) : wpX_fast (fun r => wpY_fast (fun r' => r' = r ∧ i_Rel (k + 3) u v) v) u := by
  have R := i_up I
  obtain ⟨near, pairs, my, near', pgs, wt, dc, g, mm, rfl, rfl, hn, hG, hP, hn', hT⟩ := I
  unfold wpX_fast wpY_fast
  dsimp only
  refine mq_xLooseAll hP (fun l hl => mq_xBeside hn hP (fun l1 b hl1 hb => mq_yLooseAll hn' hT (mq_Pt_all hP) (fun l2 hl2 => mq_yBeside hn' hT (mq_Pt_all hP) (fun l3 b' hl3 hb' => ⟨?_, R⟩))))
  have e := mq_Bd_uni hl1 hl3
  subst e
  rw [mq_Bd_uni hl hl2, mq_Bd_uni hb hb']
theorem i_vc_can {k : Nat} {u : SX} {v : SY} (I : i_Rel k u v) (hk : k + 3 ≤ 1536) (v1 : Int32) (v2 : Int32) : wpX_can (fun r => wpY_can (fun r' => r' = r ∧ i_Rel (k + 3) u v) v v1 v2) u v1 v2 := by
  have R := i_up I
  obtain ⟨near, pairs, my, near', pgs, wt, dc, g, mm, rfl, rfl, hn, hG, hP, hn', hT⟩ := I
  have bad : (mq_bad v1 8 ∨ mq_bad v2 8 ∨ v1 = v2) → wpY_can (fun r' => r' = 0 ∧ i_Rel (k + 3) (near, pairs) (my, near', pgs, wt, dc)) (my, near', pgs, wt, dc) v1 v2 := by
    intro b
    unfold wpY_can
    dsimp only
    exact mq_yPointF b (br_t rfl ⟨rfl, R⟩)
  rcases mq_cases v1 (n := 8) (by decide) with b1 | ⟨p, hp, rfl⟩
  · unfold wpX_can
    dsimp only
    exact mq_xPointF b1 (br_t rfl (bad (Or.inl b1)))
  · rcases mq_cases v2 (n := 8) (by decide) with b2 | ⟨q, hq, rfl⟩
    · unfold wpX_can
      dsimp only
      exact mq_xPointT hp (br_f (by decide) (mq_xPointF b2 (br_t rfl (bad (Or.inr (Or.inl b2))))))
    · refine mq_xCan hn hG hP hp hq (fun z w => ?_) (fun no => ?_)
      · exact mq_yCan hn' hT hG (mq_Pt_all hP) hp hq (fun _ _ => ⟨rfl, R⟩) (fun no => absurd w (no z))
      · exact mq_yCan hn' hT hG (mq_Pt_all hP) hp hq (fun z w => absurd w (no z)) (fun _ => ⟨rfl, R⟩)
theorem i_vc_must {k : Nat} {u : SX} {v : SY} (I : i_Rel k u v) (hk : k + 3 ≤ 1536) (v1 : Int32) (v2 : Int32) : wpX_must (fun r => wpY_must (fun r' => r' = r ∧ i_Rel (k + 3) u v) v v1 v2) u v1 v2 := by
  have R := i_up I
  obtain ⟨near, pairs, my, near', pgs, wt, dc, g, mm, rfl, rfl, hn, hG, hP, hn', hT⟩ := I
  have bad : (mq_bad v1 8 ∨ mq_bad v2 8 ∨ v1 = v2) → wpY_must (fun r' => r' = 0 ∧ i_Rel (k + 3) (near, pairs) (my, near', pgs, wt, dc)) (my, near', pgs, wt, dc) v1 v2 := by
    intro b
    unfold wpY_must
    dsimp only
    exact mq_yPointF b (br_t rfl ⟨rfl, R⟩)
  rcases mq_cases v1 (n := 8) (by decide) with b1 | ⟨p, hp, rfl⟩
  · unfold wpX_must
    dsimp only
    exact mq_xPointF b1 (br_t rfl (bad (Or.inl b1)))
  · rcases mq_cases v2 (n := 8) (by decide) with b2 | ⟨q, hq, rfl⟩
    · unfold wpX_must
      dsimp only
      exact mq_xPointT hp (br_f (by decide) (mq_xPointF b2 (br_t rfl (bad (Or.inr (Or.inl b2))))))
    · refine mq_xMust hn hG hP hp hq (fun z w => ?_) (fun no => ?_)
      · exact mq_yMust hn' hT hG (mq_Pt_all hP) hp hq (fun _ _ => ⟨rfl, R⟩) (fun no => absurd w (no z))
      · exact mq_yMust hn' hT hG (mq_Pt_all hP) hp hq (fun z w => absurd w (no z)) (fun _ => ⟨rfl, R⟩)
theorem i_vc_critical {k : Nat} {u : SX} {v : SY} (I : i_Rel k u v) (hk : k + 3 ≤ 1536) (v1 : Int32) : wpX_critical (fun r => wpY_critical (fun r' => r' = r ∧ i_Rel (k + 3) u v) v v1) u v1 := by
  have R := i_up I
  obtain ⟨near, pairs, my, near', pgs, wt, dc, g, mm, rfl, rfl, hn, hG, hP, hn', hT⟩ := I
  rcases mq_cases v1 (n := 256) (by decide) with b | ⟨s, hs, rfl⟩
  · unfold wpX_critical wpY_critical
    dsimp only
    exact mq_xSetF b (br_t rfl (mq_ySetF b (br_t rfl ⟨rfl, R⟩)))
  · have hM : ∀ s, s < 256 → mq_M (mq_G g) s.testBit (mm s) := fun s hs => (hP s hs).2
    refine mq_xCrit hP hs (fun z => ?_) (fun no => ?_)
    · exact mq_yCrit hn' hT hM hs (fun _ => ⟨rfl, R⟩) (fun no => absurd z no)
    · exact mq_yCrit hn' hT hM hs (fun z => absurd z no) (fun _ => ⟨rfl, R⟩)
theorem i_vc_odd {k : Nat} {u : SX} {v : SY} (I : i_Rel k u v) (hk : k + 3 ≤ 1536) (v1 : Int32) : wpX_odd (fun r => wpY_odd (fun r' => r' = r ∧ i_Rel (k + 3) u v) v v1) u v1 := by
  have R := i_up I
  obtain ⟨near, pairs, my, near', pgs, wt, dc, g, mm, rfl, rfl, hn, hG, hP, hn', hT⟩ := I
  unfold wpX_odd wpY_odd
  dsimp only
  rcases mq_cases v1 (n := 256) (by decide) with b | ⟨s, hs, rfl⟩
  · exact mq_xSetF b (br_t rfl (mq_ySetF b (br_t rfl ⟨rfl, R⟩)))
  · exact mq_xSetT hs (br_f (by decide) (mq_xOdd hn hs (mq_ySetT hs (br_f (by decide) (mq_yOdd hn' hG hs ⟨rfl, R⟩)))))
theorem i_vc_bound {k : Nat} {u : SX} {v : SY} (I : i_Rel k u v) (hk : k + 3 ≤ 1536) : wpX_bound (fun r => wpY_bound (fun r' => r' = r ∧ i_Rel (k + 3) u v) v) u := by
  have R := i_up I
  obtain ⟨near, pairs, my, near', pgs, wt, dc, g, mm, rfl, rfl, hn, hG, hP, hn', hT⟩ := I
  exact mq_xBound hn (fun l hl => mq_yBound hn' hG (fun l' hl' => ⟨by rw [mq_BV_uni hl hl'], R⟩))
theorem i_vc_missing {k : Nat} {u : SX} {v : SY} (I : i_Rel k u v) (hk : k + 3 ≤ 1536) : wpX_missing (fun r => wpY_missing (fun r' => r' = r ∧ i_Rel (k + 3) u v) v) u := by
  have R := i_up I
  obtain ⟨near, pairs, my, near', pgs, wt, dc, g, mm, rfl, rfl, hn, hG, hP, hn', hT⟩ := I
  unfold wpX_missing
  dsimp only
  have m4 := mq_M_le4 (mq_Pt_all hP)
  refine mq_yMiss hn' hT hG (mq_Pt_all hP) ⟨?_, R⟩
  rw [(hP 255 (by decide)).1]
  exact (pk_sub (a := 4) (by omega)).symm
