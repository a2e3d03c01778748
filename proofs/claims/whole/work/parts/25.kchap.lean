/-! headed, chapter, count -/
section KCHAP
/-- a letter, as both sides ask for it -/
theorem letter_ask (x : Int32) : (p_X3_classOf x = some (-6) ∧ p_X4_isChapter x = some (nI 0) ∧ p_X4_isSection x = some (nI 0)) ∨ (∃ w, p_X3_classOf x = some w ∧ ¬ w = -6 ∧ ((p_X4_isChapter x = some (nI 1)) ∨ (p_X4_isChapter x = some (nI 0) ∧ p_X4_isSection x = some (nI 1)))) := by
  rcases x3 x 105 (by omega) with h | h | ⟨c, hc, rfl⟩
  · left
    unfold p_X3_classOf p_X3_classOf_14 p_X4_isChapter p_X4_isSection
    rw [if_pos (neg_lt h (by omega)), if_pos (neg_lt h (by omega)), in_lo (neg_lt h (by omega)), in_lo (neg_lt h (by omega))]
    exact ⟨rfl, rfl, rfl⟩
  · left
    unfold p_X3_classOf p_X3_classOf_14 p_X4_isChapter p_X4_isSection
    rw [if_neg (ge_nlt h (by omega) (by omega)), if_pos (ge_lt h (by omega) (by omega)), if_neg (ge_nlt h (by omega) (by omega)), if_pos (ge_lt h (by omega) (by omega)), in_hi (ge_lt h (by omega) (by omega)), in_hi (ge_lt h (by omega) (by omega))]
    exact ⟨rfl, rfl, rfl⟩
  · rw [p_classOf c (by omega), r_isC (by omega), r_isS (by omega)]
    by_cases e1 : isC c = true
    · right
      rw [if_pos e1, if_pos e1]
      exact ⟨_, rfl, by decide, Or.inl rfl⟩
    · rw [if_neg e1, if_neg e1]
      by_cases e2 : isS c = true
      · right
        rw [if_pos e2, if_pos e2]
        exact ⟨_, rfl, by decide, Or.inr ⟨rfl, rfl⟩⟩
      · left
        rw [if_neg e2, if_neg e2]
        exact ⟨rfl, rfl, rfl⟩
theorem headed_loop {S : Nat → Ob} {M : Ob} {n : Nat} {sg bk ru : Nat → Nat} (hn : n ≤ 60) (hr : RuOK ru) (hL : LK (S 5) n sg bk ru) (hM : MJ M n sg bk ru n (curP sg bk ru n).1) (x y : Int32) : ∀ (m p : Nat) (z : Int32), 1 ≤ p → p ≤ (curP sg bk ru n).1 + 1 → (curP sg bk ru n).1 + 1 < p + m → ∃ r, p_X3_headed_17 S m x y z (nI p) = some r ∧ p_X4_headed_26 m x y z (nI p) M = some (r, M) := by
  have hpg := PG_lt (sg := sg) (bk := bk) (ru := ru) hn
  intro m
  induction m with
  | zero => intro p z a b c; omega
  | succ m ih =>
    intro p z a b c
    rw [p_X3_headed_17, p_X4_headed_26, hL.1.2.1, hM.2.1, it (by omega) (by omega), it (by omega) (by omega)]
    by_cases e : (curP sg bk ru n).1 < p
    · rw [if_pos e, if_pos e]
      by_cases q : y = -1
      · rw [if_pos q, if_pos q]; exact ⟨_, rfl, rfl⟩
      · rw [if_neg q, if_neg q]; exact ⟨_, rfl, rfl⟩
    · rw [if_neg e, if_neg e, ld_ok (by omega) (by omega), hL.2 p a (by omega), rheadOf_ok hr hM a (by omega)]
      simp only [Option.bind_some]
      unfold p_X3_headed_54 p_X4_headed_56
      rw [nI_add]
      by_cases q : headP n sg bk ru p = x
      · rw [if_pos q, if_pos q]
        by_cases w : z = y
        · rw [if_pos w, if_pos w]; exact ⟨_, rfl, rfl⟩
        · rw [if_neg w, if_neg w]; exact ih (p + 1) _ (by omega) (by omega) (by omega)
      · rw [if_neg q, if_neg q]; exact ih (p + 1) _ (by omega) (by omega) (by omega)
theorem k_headed : K_headed Inv := by
  intro S M x y hI
  have hI' := hI
  obtain ⟨⟨X, hT⟩, hIP, hIJ⟩ := hI
  obtain ⟨⟨n, sg, bk, ru⟩, hX⟩ : ∃ Y : TX, Y = X := ⟨_, rfl⟩
  subst hX
  obtain ⟨⟨⟨b2, b3, b4, b9, b5⟩, b6, b7, b8⟩, hL, hM, hR⟩ := hT
  simp only at b2 b3 b4 b9 b5 b6 b7 b8
  have hL' : LK (S 5) n sg bk ru := hL
  have hM' : StOK (M 0) n sg bk ru := hM
  have hR' : RuR ru := hR
  have hpg := PG_lt (sg := sg) (bk := bk) (ru := ru) b2
  obtain ⟨M1, g1, g2, g3⟩ := layPages_ok hM'
  have hI1 := hI'.same g2
  obtain ⟨r, l1, l2⟩ := headed_loop b2 hR'.ok hL' g3 x y 200 1 (nI 0) (by omega) (by omega) (by omega)
  have h17 : p_X4_headed_17 x y M = some (r, M1) := by
    unfold p_X4_headed_17
    rw [g1]
    exact l2
  unfold p_X3_headed p_X4_headed
  rcases letter_ask x with ⟨q1, q2, q3⟩ | ⟨w, q1, q2, q3⟩
  · rw [q1, q2, q3]
    exact ⟨_, _, rfl, rfl, hI'⟩
  · rw [q1]
    simp only [Option.bind_some]
    rw [if_neg q2, l1, h17]
    rcases q3 with q3 | ⟨q3, q4⟩
    · rw [q3]
      exact ⟨_, _, rfl, rfl, hI1⟩
    · rw [q3, q4]
      exact ⟨_, _, rfl, rfl, hI1⟩
theorem k_chapter : K_chapter Inv := by
  intro S M x y hI
  have hI' := hI
  obtain ⟨⟨X, hT⟩, hIP, hIJ⟩ := hI
  obtain ⟨⟨n, sg, bk, ru⟩, hX⟩ : ∃ Y : TX, Y = X := ⟨_, rfl⟩
  subst hX
  obtain ⟨⟨hBL, b6, b7, b8⟩, hL, hM, hR⟩ := hT
  have hB : BL (S 2) n sg ru := hBL
  have b2 : n ≤ 60 := hB.1
  have hL' : LK (S 5) n sg bk ru := hL
  have hM' : StOK (M 0) n sg bk ru := hM
  have hcn := chn_le (sg := sg) n
  unfold p_X3_chapter p_X4_chapter
  rw [countChapters_ok b2 hL'.1, rChapters_ok hM']
  simp only [Option.bind_some]
  rcases x3 y 5 (by omega) with h | h | ⟨w, hw, rfl⟩
  · rw [if_pos h, in_lo h]
    exact ⟨_, _, rfl, rfl, hI'⟩
  · rw [if_neg (ge_nlt h (by omega) (by omega)), if_neg (fun q => absurd q (Int32.not_le.mpr (ge_lt h (show 4 < 5 by omega) (by omega)))), in_hi (ge_lt h (by omega) (by omega))]
    exact ⟨_, _, rfl, rfl, hI'⟩
  · rw [if_neg (n_neg w (by omega)), il (by omega) (by omega), if_pos (show w ≤ 4 by omega), r_in (by omega) (by omega) (by omega), if_pos (show 0 ≤ w ∧ w ≤ 4 by omega)]
    simp only [Option.bind_some]
    rw [if_neg (show ¬ nI 1 = nI 0 by decide)]
    rcases x3 x (chn sg n) (by omega) with h | h | ⟨j, hj, rfl⟩
    · rw [if_pos h, in_lo h]
      exact ⟨_, _, rfl, rfl, hI'⟩
    · rw [if_neg (ge_nlt h (by omega) (by omega)), if_neg (ge_nlt h (Nat.le_refl _) (by omega)), in_hi (ge_pred h (by omega))]
      exact ⟨_, _, rfl, rfl, hI'⟩
    · rw [if_neg (n_neg j (by omega)), it (by omega) (by omega), if_pos hj, pk_sub (show 1 ≤ chn sg n by omega), r_in (by omega) (by omega) (by omega), if_pos (show 0 ≤ j ∧ j ≤ chn sg n - 1 by omega)]
      simp only [Option.bind_some]
      rw [if_neg (show ¬ nI 1 = nI 0 by decide)]
      obtain ⟨M1, g1, g2, g3⟩ := layPages_ok hM'
      have hI1 := hI'.same g2
      obtain ⟨a, b, hab⟩ := chr_ex hj
      have hab' := hab
      obtain ⟨r1, r2, -, -, -⟩ := hab'
      rw [g1]
      simp only [Option.bind_some]
      rw [titleLineOf_ok b2 hL'.1 hab (by omega), lastLineOf_ok b2 hL'.1 hab (by omega), rTitle_ok g3.1 hab (by omega), linesOf_ok (s := 0) g3.1 (by omega) (by omega), linesOf_ok (s := 1) g3.1 (by omega) (by omega), csN_all hab n (Nat.le_refl _)]
      simp only [Option.bind_some]
      rw [countSections_ok hB hab (by omega)]
      simp only [Option.bind_some]
      rw [show min n (b + 1) - a = b - a + 1 by omega, show nI b - nI a + nI 1 = nI (b - a + 1) by rw [pk_sub r1, nI_add], show nI a + nI (b - a + 1) - nI 1 = nI b by rw [nI_add, pk_sub (by omega), show a + (b - a + 1) - 1 = b by omega], show nI 0 + nI a = nI a by rw [nI_add, Nat.zero_add]]
      obtain ⟨s1, s2⟩ := hB.2.1 a (by omega)
      obtain ⟨d1, d2, d3, d4⟩ := g3.1.2.2.1 a (by omega)
      have hC : isC (sg a) = true := by
        have e1 : chn sg (a + 1) = j + 1 := (hab.2.2.1 a (by omega)).mpr ⟨Nat.le_refl _, r1⟩
        have e2 : chn sg a ≤ j := by
          rcases Nat.eq_zero_or_pos a with q | q
          · subst q; exact Nat.zero_le _
          · have := hab.2.2.2.1 (a - 1) (by omega)
            rw [show a - 1 + 1 = a by omega] at this
            exact this
        rw [chn] at e1
        by_cases q : isC (sg a) = true
        · exact q
        · rw [if_neg q] at e1; omega
      have hsa : sgC (sg a) = sg a := by have := isC_iff.mp hC; unfold sgC; rw [if_neg (by omega)]
      have e0 : ldI (S 2 0) 60 (nI a) = some (nI (sg a)) := by rw [ld_ok (by omega) (by omega), s1, hsa]
      have f0 : ldI (M1 0) 130 (nI a) = some (nI (sg a)) := by rw [ld_ok (by omega) (by omega), d1]
      have e1 : ldI (S 5 0) 60 (nI a) = some (nI (pgOf sg bk ru a)) := by rw [ld_ok (by omega) (by omega), (hL'.1.2.2.1 a (by omega)).1]
      have f1 : ldI (M1 5) 60 (nI a) = some (nI (pgOf sg bk ru a)) := by rw [ld_ok (by omega) (by omega), (g3.2.2.1 a (by omega)).1]
      have e2 : ldI (S 5 0) 60 (nI b) = some (nI (pgOf sg bk ru b)) := by rw [ld_ok (by omega) (by omega), (hL'.1.2.2.1 b (by omega)).1]
      have f2 : ldI (M1 5) 60 (nI b) = some (nI (pgOf sg bk ru b)) := by rw [ld_ok (by omega) (by omega), (g3.2.2.1 b (by omega)).1]
      rw [e0, f0, e1, f1, e2, f2]
      simp only [Option.bind_some]
      rw [ie (by omega) (by omega), ie (by omega) (by omega), ie (by omega) (by omega), ie (by omega) (by omega), ie (by omega) (by omega), ie (by omega) (by omega), ie (by omega) (by omega), ie (by omega) (by omega)]
      rcases (show w = 0 ∨ w = 1 ∨ w = 2 ∨ w = 3 ∨ w = 4 by omega) with e | e | e | e | e <;> subst e <;> exact ⟨_, _, rfl, rfl, hI1⟩
theorem k_count : K_count Inv := by
  intro S M x hI
  have hI' := hI
  obtain ⟨⟨X, hT⟩, ⟨pn, ps, ⟨p1, p2, p3⟩, m1, m2⟩, ⟨K, Y, j1, j2⟩⟩ := hI
  obtain ⟨⟨n, sg, bk, ru⟩, hX⟩ : ∃ Y : TX, Y = X := ⟨_, rfl⟩
  subst hX
  obtain ⟨⟨hBL, b6, b7, b8⟩, hL, hM, hR⟩ := hT
  have hB : BL (S 2) n sg ru := hBL
  have b2 : n ≤ 60 := hB.1
  have hL' : LK (S 5) n sg bk ru := hL
  have hM' : StOK (M 0) n sg bk ru := hM
  have hR' : RuR ru := hR
  simp only at b6 b7 b8
  have hru : ∀ r, r < 9 → ldI (S 2 2) 9 (nI r) = some (nI (ru r)) := fun r hr => by
    rw [ld_ok hr (by omega)]
    rcases Nat.eq_zero_or_pos r with q | q
    · subst q; rw [b8]
    · rw [hB.2.2.1 r q hr]
  by_cases hin : ∃ c, c < 9 ∧ x = nI (c + 10)
  · obtain ⟨c, hc, rfl⟩ := hin
    unfold p_X3_count p_X4_count
    rw [it (by omega) (by omega), if_neg (by omega), il (by omega) (by omega), if_neg (by omega), pk_sub (show 10 ≤ c + 10 by omega), show c + 10 - 10 = c by omega, hru c hc, r_in (by omega) (by omega) (by omega), if_pos (show 10 ≤ c + 10 ∧ c + 10 ≤ 18 by omega)]
    simp only [Option.bind_some]
    rw [if_neg (show ¬ nI 1 = nI 0 by decide), nI_add, pk_sub (by omega), show 121 + (c + 10) - 10 = 121 + c by omega, ld_ok (by omega) (by omega), (hM'.2.2.2.1 c hc).1]
    exact ⟨_, _, rfl, rfl, hI'⟩
  · have hout : p_X3_count S x = p_X3_count_25 S x ∧ p_X4_in x (nI 10) (nI 18) = some (nI 0) := by
      unfold p_X3_count
      rcases x3 x 19 (by omega) with h | h | ⟨c, hc, rfl⟩
      · rw [if_pos (neg_lt h (by omega)), in_lo (neg_lt h (by omega))]; exact ⟨rfl, rfl⟩
      · rw [if_neg (ge_nlt h (by omega) (by omega)), if_pos h, in_hi (ge_lt h (by omega) (by omega))]; exact ⟨rfl, rfl⟩
      · have hc10 : c < 10 := by
          rcases Nat.lt_or_ge c 10 with q | q
          · exact q
          · exact absurd ⟨c - 10, by omega, by rw [show c - 10 + 10 = c by omega]⟩ hin
        rw [it (by omega) (by omega), if_pos hc10, r_in (by omega) (by omega) (by omega), if_neg (by omega)]; exact ⟨rfl, rfl⟩
    obtain ⟨M1, g1, g2, g3⟩ := layPages_ok hM'
    have hI1 := hI'.same g2
    have hpg := PG_lt (sg := sg) (bk := bk) (ru := ru) b2
    rw [hout.1]
    unfold p_X4_count p_X3_count_25
    rw [hout.2, g1]
    simp only [Option.bind_some]
    rw [if_pos trivial]
    by_cases y0 : x = nI 0
    · rw [if_pos y0, if_pos y0, b6, r_many g3.1]; exact ⟨_, _, rfl, rfl, hI1⟩
    rw [if_neg y0, if_neg y0]
    by_cases y1 : x = nI 1
    · rw [if_pos y1, if_pos y1, hL'.1.2.1, g3.2.1]; exact ⟨_, _, rfl, rfl, hI1⟩
    rw [if_neg y1, if_neg y1]
    by_cases y2 : x = nI 2
    · rw [if_pos y2, if_pos y2, countBlank_ok b2 hL', y2, pagesThat_ok hR'.ok g3 (Or.inl ⟨rfl, rfl⟩)]; exact ⟨_, _, rfl, rfl, hI1⟩
    rw [if_neg y2, if_neg y2]
    by_cases y3 : x = nI 3
    · rw [if_pos y3, if_pos y3, countBreaks_ok b2 b6 b7, rBreaks_ok g3.1]; exact ⟨_, _, rfl, rfl, hI1⟩
    rw [if_neg y3, if_neg y3]
    by_cases y4 : x = nI 4
    · rw [if_pos y4, if_pos y4, countChapters_ok b2 hL'.1, rChapters_ok g3.1]; exact ⟨_, _, rfl, rfl, hI1⟩
    rw [if_neg y4, if_neg y4]
    by_cases y5 : x = nI 5
    · rw [if_pos y5, if_pos y5, countShared_ok b2 hL', y5, pagesThat_ok hR'.ok g3 (Or.inr (Or.inl ⟨rfl, rfl⟩))]; exact ⟨_, _, rfl, rfl, hI1⟩
    rw [if_neg y5, if_neg y5]
    by_cases y6 : x = nI 6
    · rw [if_pos y6, if_pos y6, countHeads_ok b2 hL', y6, pagesThat_ok hR'.ok g3 (Or.inr (Or.inr ⟨rfl, rfl⟩))]; exact ⟨_, _, rfl, rfl, hI1⟩
    rw [if_neg y6, if_neg y6]
    by_cases y7 : x = nI 7
    · rw [if_pos y7, if_pos y7, p1, g2.2.2.2.2.1, m1]; exact ⟨_, _, rfl, rfl, hI1⟩
    rw [if_neg y7, if_neg y7]
    by_cases y8 : x = nI 8
    · obtain ⟨k0, t0, -⟩ := j2 0 (by omega)
      obtain ⟨k1, t1, -⟩ := j2 1 (by omega)
      unfold p_X4_count_125
      rw [if_pos y8, if_pos y8, j1, g2.2.2.1, ld_ok (i := 0) (by omega) (by omega), t0, ld_ok (i := 1) (by omega) (by omega), t1]
      simp only [Option.bind_some]
      rcases (show K 0 = 0 ∨ K 0 = 1 by omega) with a | a <;> rcases (show K 1 = 0 ∨ K 1 = 1 by omega) with b | b <;> rw [a, b] <;> exact ⟨_, _, rfl, rfl, hI1⟩
    rw [if_neg y8, if_neg y8]
    exact ⟨_, _, rfl, rfl, hI1⟩
end KCHAP
