/-! the calls that tell of lines and pages -/
section KPAGE
theorem LkT.n {L : Ob} {X : TX} (h : LkT L X) : L 9 0 = nI X.1 := h.1.1
theorem n_neg (a : Nat) (ha : a < 2000) : ¬ nI a < nI 0 := by rw [n_lt ha (by omega)]; omega
theorem k_line : K_line Inv := by
  intro S M x y hI
  have hI' := hI
  obtain ⟨⟨X, hT⟩, hIP, hIJ⟩ := hI
  obtain ⟨⟨n, sg, bk, ru⟩, hX⟩ : ∃ Y : TX, Y = X := ⟨_, rfl⟩
  subst hX
  obtain ⟨⟨⟨b2, b3, b4, b9, b5⟩, b6, b7, b8⟩, hL, hM, hR⟩ := hT
  simp only at b2 b3 b4 b9 b5 b6 b7 b8
  have hL' : LK (S 5) n sg bk ru := hL
  have hM' : StOK (M 0) n sg bk ru := hM
  unfold p_X3_line p_X4_line p_X4_isLine
  rw [r_many hM', b6]
  simp only [Option.bind_some]
  rcases x3 x n (by omega) with h | h | ⟨j, hj, rfl⟩
  · rw [if_pos h, in_lo h]
    exact ⟨_, M, rfl, rfl, hI'⟩
  · rw [if_neg (ge_nlt h (by omega) (by omega)), if_neg (ge_nlt h (Nat.le_refl _) (by omega)), in_hi (ge_pred h (by omega))]
    exact ⟨_, M, rfl, rfl, hI'⟩
  · rw [if_neg (n_neg j (by omega)), it (by omega) (by omega), if_pos hj, pk_sub (show 1 ≤ n by omega), r_in (by omega) (by omega) (by omega)]
    simp only [Option.bind_some]
    rw [if_pos (show 0 ≤ j ∧ j ≤ n - 1 by omega), if_neg (show ¬ nI 1 = nI 0 by decide)]
    obtain ⟨M1, g1, g2, g3⟩ := layPages_ok hM'
    rw [g1]
    simp only [Option.bind_some]
    have hI1 := hI'.same g2
    obtain ⟨c1, c2⟩ := b3 j hj
    obtain ⟨d1, d2, d3, d4⟩ := g3.1.2.2.1 j hj
    obtain ⟨l0, l1, l2, l3⟩ := hL'.1.2.2.1 j hj
    obtain ⟨e5, e6, e7, e8⟩ := g3.2.2.1 j hj
    have hs := okS_lt c2
    have hsc := sgC_lt c2
    have hpl := pgOf_lt (sg := sg) (bk := bk) (ru := ru) (show j < 60 by omega)
    rw [show nI 0 + nI j = nI j by rw [nI_add, Nat.zero_add], show nI 60 + nI j = nI (60 + j) from nI_add 60 j]
    by_cases y0 : y = nI 0
    · rw [if_pos y0, if_pos y0, ld_ok (by omega) (by omega), c1, ld_ok (by omega) (by omega), d1]
      simp only [Option.bind_some]
      rw [p_classOf _ (by omega), isC_sgC, isS_sgC, ie (by omega) (by omega)]
      simp only [Option.bind_some]
      by_cases s0 : sg j = 0
      · rw [if_pos s0, s0]
        exact ⟨_, _, rfl, rfl, hI1⟩
      · have e : sgC (sg j) = sg j := by unfold sgC; rw [if_neg s0]
        have hne : ¬ ((if isC (sg j) = true then nI 0 else if isS (sg j) = true then nI 1 else (-6 : Int32)) = -6) := by
          rcases c2 with q | q | q
          · exact absurd q s0
          · rw [if_pos q]; decide
          · by_cases q2 : isC (sg j) = true
            · rw [if_pos q2]; decide
            · rw [if_neg q2, if_pos q]; decide
        rw [if_neg hne, if_neg s0, e]
        exact ⟨_, _, rfl, rfl, hI1⟩
    · rw [if_neg y0, if_neg y0]
      by_cases y1 : y = nI 1
      · rw [if_pos y1, if_pos y1, ld_ok (by omega) (by omega), ld_ok (by omega) (by omega), l0, e5]
        exact ⟨_, _, rfl, rfl, hI1⟩
      · rw [if_neg y1, if_neg y1]
        by_cases y2 : y = nI 2
        · have hpp := pgOf_pos (sg := sg) (bk := bk) (ru := ru) j
          have hple := pgOf_le (sg := sg) (bk := bk) (ru := ru) hj
          have hb : bef sg bk ru n (pgOf sg bk ru j) = bef sg bk ru j (pgOf sg bk ru j) := bef_keep (Nat.le_refl _) n (by omega)
          have hla := line_at (sg := sg) (bk := bk) (ru := ru) j
          rw [if_pos y2, if_pos y2, ld_ok (by omega) (by omega), l0, ld_ok (by omega) (by omega), e6]
          simp only [Option.bind_some]
          rw [ld_ok (by omega) (by omega), (hL'.1.2.2.2 _ hpp hple).1]
          simp only [Option.bind_some]
          rw [hb, pk_sub (by omega), show j - bef sg bk ru j (pgOf sg bk ru j) = cnt sg bk ru j (pgOf sg bk ru j) by omega]
          exact ⟨_, _, rfl, rfl, hI1⟩
        · rw [if_neg y2, if_neg y2]
          by_cases y3 : y = nI 3
          · rw [if_pos y3, if_pos y3, ld_ok (by omega) (by omega), ld_ok (by omega) (by omega), d2, (b7 j hj).1]
            exact ⟨_, _, rfl, rfl, hI1⟩
          · rw [if_neg y3, if_neg y3]
            by_cases y4 : y = nI 4
            · rw [if_pos y4, if_pos y4, y4, pk_mul, nI_add, pk_sub (by omega), show 2 * j + 4 - 4 = 2 * j by omega, ld_ok (by omega) (by omega), ld_ok (by omega) (by omega), l2, e7]
              exact ⟨_, _, rfl, rfl, hI1⟩
            · rw [if_neg y4, if_neg y4]
              by_cases y5 : y = nI 5
              · rw [if_pos y5, if_pos y5, y5, pk_mul, nI_add, pk_sub (by omega), show 2 * j + 5 - 4 = 2 * j + 1 by omega, ld_ok (by omega) (by omega), ld_ok (by omega) (by omega), l3, e8]
                exact ⟨_, _, rfl, rfl, hI1⟩
              · rw [if_neg y5, if_neg y5]
                exact ⟨_, _, rfl, rfl, hI1⟩
/-- a page that is there, as both sides ask for it -/
theorem page_ask {L M : Ob} {n : Nat} {sg bk ru : Nat → Nat} {x : Int32} (hn : n ≤ 60) (hL : LJ L n sg bk ru n (curP sg bk ru n).1) (hM : MJ M n sg bk ru n (curP sg bk ru n).1) : (p_X1_hasPage L x = some (nI 0) ∧ p_X4_isPage M x = some (nI 0)) ∨ ∃ p, 1 ≤ p ∧ p ≤ (curP sg bk ru n).1 ∧ x = nI p ∧ p_X1_hasPage L x = some (nI 1) ∧ p_X4_isPage M x = some (nI 1) := by
  have hpg := PG_lt (sg := sg) (bk := bk) (ru := ru) hn
  unfold p_X1_hasPage p_X4_isPage
  rw [hL.2.1, hM.2.1]
  rcases x3 x ((curP sg bk ru n).1 + 1) (by omega) with h | h | ⟨p, hp, rfl⟩
  · left
    rw [if_pos (neg_lt h (by omega)), in_lo (neg_lt h (by omega))]
    exact ⟨rfl, rfl⟩
  · left
    rw [if_neg (ge_nlt h (by omega) (by omega)), if_pos (ge_lt h (by omega) (by omega)), in_hi (ge_lt h (by omega) (by omega))]
    exact ⟨rfl, rfl⟩
  · rw [it (by omega) (by omega), it (by omega) (by omega), r_in (by omega) (by omega) (by omega)]
    by_cases p0 : p < 1
    · left
      rw [if_pos p0, if_neg (by omega)]
      exact ⟨rfl, rfl⟩
    · right
      rw [if_neg p0, if_neg (by omega), if_pos (by omega)]
      exact ⟨p, by omega, by omega, rfl, rfl, rfl⟩
theorem k_page : K_page Inv := by
  intro S M x y hI
  have hI' := hI
  obtain ⟨⟨X, hT⟩, hIP, hIJ⟩ := hI
  obtain ⟨⟨n, sg, bk, ru⟩, hX⟩ : ∃ Y : TX, Y = X := ⟨_, rfl⟩
  subst hX
  obtain ⟨⟨⟨b2, b3, b4, b9, b5⟩, b6, b7, b8⟩, hL, hM, hR⟩ := hT
  simp only at b2 b3 b4 b9 b5 b6 b7 b8
  have hL' : LK (S 5) n sg bk ru := hL
  have hM' : StOK (M 0) n sg bk ru := hM
  have hR' : RuR ru := hR
  have hpg := PG_lt (sg := sg) (bk := bk) (ru := ru) b2
  obtain ⟨M1, g1, g2, g3⟩ := layPages_ok hM'
  have hI1 := hI'.same g2
  unfold p_X3_page p_X4_page
  rw [g1]
  simp only [Option.bind_some]
  rcases page_ask (x := x) b2 hL'.1 g3 with ⟨q1, q2⟩ | ⟨p, p1, p2, rfl, q1, q2⟩
  · rw [q1, q2]
    simp only [Option.bind_some]
    rw [if_pos trivial, if_pos trivial]
    exact ⟨_, _, rfl, rfl, hI1⟩
  · rw [q1, q2]
    simp only [Option.bind_some]
    rw [if_neg (show ¬ nI 1 = nI 0 by decide), if_neg (show ¬ nI 1 = nI 0 by decide)]
    obtain ⟨l4, l5, l6, l7⟩ := hL'.1.2.2.2 p p1 p2
    obtain ⟨m9, m8⟩ := g3.2.2.2 p p1 p2
    have hbc := cnt_le (sg := sg) (bk := bk) (ru := ru) (p := p) n
    by_cases y0 : y = nI 0
    · rw [if_pos y0, if_pos y0, ld_ok (by omega) (by omega), ld_ok (by omega) (by omega), l5, m9]
      exact ⟨_, _, rfl, rfl, hI1⟩
    · rw [if_neg y0, if_neg y0]
      by_cases y1 : y = nI 1
      · rw [if_pos y1, if_pos y1, ld_ok (by omega) (by omega), ld_ok (by omega) (by omega), ld_ok (by omega) (by omega), l5, m8, l4]
        simp only [Option.bind_some]
        rw [ie (by omega) (by omega)]
        by_cases c : cnt sg bk ru n p = 0
        · rw [if_pos c, if_pos c]
          exact ⟨_, _, rfl, rfl, hI1⟩
        · rw [if_neg c, if_neg c]
          exact ⟨_, _, rfl, rfl, hI1⟩
      · rw [if_neg y1, if_neg y1]
        by_cases y2 : y = nI 2
        · rw [if_pos y2, if_pos y2, ld_ok (by omega) (by omega), hL'.2 p p1 p2, rheadOf_ok hR'.ok g3 p1 p2]
          exact ⟨_, _, rfl, rfl, hI1⟩
        · rw [if_neg y2, if_neg y2]
          by_cases y3 : y = nI 3
          · rw [if_pos y3, if_pos y3, isShared_ok b2 hL'.1 p1 p2, rShared_ok g3 p1 p2]
            simp only [Option.bind_some]
            by_cases c : shP n sg bk ru p = true
            · rw [if_pos c, if_neg (show ¬ nI 1 = nI 0 by decide), if_neg (show ¬ nI 1 = nI 0 by decide)]
              exact ⟨_, _, rfl, rfl, hI1⟩
            · rw [if_neg c, if_pos rfl, if_pos rfl]
              exact ⟨_, _, rfl, rfl, hI1⟩
          · rw [if_neg y3, if_neg y3]
            exact ⟨_, _, rfl, rfl, hI1⟩
theorem k_mark : K_mark Inv := by
  intro S M x y z hI
  have hI' := hI
  obtain ⟨⟨X, hT⟩, hIP, hIJ⟩ := hI
  obtain ⟨⟨n, sg, bk, ru⟩, hX⟩ : ∃ Y : TX, Y = X := ⟨_, rfl⟩
  subst hX
  obtain ⟨⟨⟨b2, b3, b4, b9, b5⟩, b6, b7, b8⟩, hL, hM, hR⟩ := hT
  simp only at b2 b3 b4 b9 b5 b6 b7 b8
  have hL' : LK (S 5) n sg bk ru := hL
  have hM' : StOK (M 0) n sg bk ru := hM
  have hpg := PG_lt (sg := sg) (bk := bk) (ru := ru) b2
  obtain ⟨M1, g1, g2, g3⟩ := layPages_ok hM'
  have hI1 := hI'.same g2
  unfold p_X3_mark p_X4_mark
  rw [g1]
  simp only [Option.bind_some]
  rcases page_ask (x := x) b2 hL'.1 g3 with ⟨q1, q2⟩ | ⟨p, p1, p2, rfl, q1, q2⟩
  · rw [q1, q2]
    simp only [Option.bind_some]
    rw [if_pos trivial, if_pos trivial]
    exact ⟨_, _, rfl, rfl, hI1⟩
  · rw [q1, q2]
    simp only [Option.bind_some]
    rw [if_neg (show ¬ nI 1 = nI 0 by decide), if_neg (show ¬ nI 1 = nI 0 by decide)]
    rcases x3 y 2 (by omega) with h | h | ⟨c, hc, rfl⟩
    · rw [if_pos h, in_lo h]
      exact ⟨_, _, rfl, rfl, hI1⟩
    · rw [if_neg (ge_nlt h (by omega) (by omega)), if_pos h, in_hi (ge_lt h (by omega) (by omega))]
      exact ⟨_, _, rfl, rfl, hI1⟩
    · rw [if_neg (n_neg c (by omega)), il (by omega) (by omega), if_neg (show ¬ 2 ≤ c by omega), r_in (by omega) (by omega) (by omega), if_pos (show 0 ≤ c ∧ c ≤ 1 by omega)]
      simp only [Option.bind_some]
      rw [if_neg (show ¬ nI 1 = nI 0 by decide)]
      rcases x3 z 3 (by omega) with h | h | ⟨w, hw, rfl⟩
      · rw [if_pos h, in_lo h]
        exact ⟨_, _, rfl, rfl, hI1⟩
      · rw [if_neg (ge_nlt h (by omega) (by omega)), if_neg (fun q => absurd q (Int32.not_le.mpr (ge_lt h (show 2 < 3 by omega) (by omega)))), in_hi (ge_lt h (by omega) (by omega))]
        exact ⟨_, _, rfl, rfl, hI1⟩
      · rw [if_neg (n_neg w (by omega)), il (by omega) (by omega), if_pos (show w ≤ 2 by omega), r_in (by omega) (by omega) (by omega), if_pos (show 0 ≤ w ∧ w ≤ 2 by omega)]
        simp only [Option.bind_some]
        rw [if_neg (show ¬ nI 1 = nI 0 by decide), markOf_ok b2 hL'.1 p1 p2 hc (by omega), rmarkOf_ok g3 p1 p2 hc (by omega)]
        exact ⟨_, _, rfl, rfl, hI1⟩
end KPAGE
