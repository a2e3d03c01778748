/-! cut, rule -/
section KCUT
theorem flp_none (bk : Nat → Nat) : bk = flp bk none := by
  funext j
  unfold flp
  rw [if_neg (fun h => by cases h)]
theorem layNow_ok {S : Nat → Ob} {X : TX} (hB : BkT (S 2) X) (hR : RuR X.2.2.2) : ∃ L1, p_X3_layNow S = some (va_up S 5 L1) ∧ LkT L1 X := by
  obtain ⟨n, sg, bk, ru⟩ := X
  obtain ⟨h1, h2, h3, h4⟩ := hB
  simp only at h1 h2 h3 h4 hR
  obtain ⟨L1, g1, g2⟩ := lay_ok (L := S 5) (bk := bk) (f := none) h1 hR.ok h2 h3 (fun j h => by cases h) (flp_none bk)
  unfold p_X3_layNow
  rw [ld_ok (i := 0) (by omega) (by omega), h4]
  simp only [Option.bind_some]
  rw [show (-1 : Int32) = flI none from rfl, g1]
  exact ⟨L1, rfl, g2⟩
/-- a changed book, laid anew on the class's side -/
theorem laid {S : Nat → Ob} {M M1 : Ob} {B : Ob} {X : TX} (hB : BkT B X) (hM : StT (M1 0) X) (hR : RuR X.2.2.2) (hP : IP S M) (hJ : IJ S M) (e1 : M1 1 = M 1) (e2 : M1 2 = M 2) (e3 : M1 3 = M 3) (e4 : M1 4 = M 4) : ∃ L1, p_X3_layNow (va_up S 2 B) = some (va_up (va_up S 2 B) 5 L1) ∧ Inv (va_up (va_up S 2 B) 5 L1) M1 := by
  obtain ⟨L1, g1, g2⟩ := layNow_ok (S := va_up S 2 B) (X := X) hB hR
  exact ⟨L1, g1, ⟨X, hB, g2, hM, hR⟩, hP.keep rfl e3 e4, hJ.keep rfl rfl rfl e1 e2⟩
theorem cut_book {B : Ob} {n : Nat} {sg bk ru : Nat → Nat} {j v : Nat} (h : BkT B (n, sg, bk, ru)) (hv : v ≤ 1) : BkT (va_up B 1 (upd (B 1) j (nI v))) (n, sg, va_up bk j v, ru) := by
  obtain ⟨h1, h2, h3, h4⟩ := h
  refine ⟨h1, h2, fun i hi => ?_, h4⟩
  show upd (B 1) j (nI v) i = nI (va_up bk j v i) ∧ va_up bk j v i ≤ 1
  by_cases e : i = j
  · rw [e, ud_s, up_s]; exact ⟨rfl, hv⟩
  · rw [ud_n e, up_n e]; exact h3 i hi
theorem cut_st {st : Nat → Int32} {n : Nat} {sg bk ru : Nat → Nat} {j v : Nat} (h : StOK st n sg bk ru) (hj : j < 60) (hv : v ≤ 1) : StOK (upd st (60 + j) (nI v)) n sg (va_up bk j v) ru := by
  obtain ⟨h1, h2, h3, h4, h5⟩ := h
  refine ⟨by rw [ud_n (by omega)]; exact h1, h2, fun i hi => ?_, fun r hr => ?_, h5⟩
  · obtain ⟨a, b, c, d⟩ := h3 i hi
    refine ⟨by rw [ud_n (by omega)]; exact a, ?_, c, ?_⟩
    · by_cases e : i = j
      · rw [e, ud_s, up_s]
      · rw [ud_n (by omega), up_n e]; exact b
    · by_cases e : i = j
      · rw [e, up_s]; exact hv
      · rw [up_n e]; exact d
  · rw [ud_n (by omega)]; exact h4 r hr
theorem k_cut : K_cut Inv := by
  intro S M x y hI
  have hI' := hI
  obtain ⟨⟨X, hT⟩, hIP, hIJ⟩ := hI
  obtain ⟨⟨n, sg, bk, ru⟩, hX⟩ : ∃ Y : TX, Y = X := ⟨_, rfl⟩
  subst hX
  obtain ⟨hB, hL, hM, hR⟩ := hT
  have b2 : n ≤ 60 := hB.1.1
  have b6 : S 2 3 0 = nI n := hB.2.1
  have hM' : StOK (M 0) n sg bk ru := hM
  unfold p_X3_cut p_X4_cut p_X0_canBreakAhead
  rw [r_many hM', b6]
  simp only [Option.bind_some]
  rcases x3 x n (by omega) with h | h | ⟨j, hj, rfl⟩
  · rw [if_pos (neg_lt h (by omega)), in_lo (neg_lt h (by omega))]
    exact ⟨_, _, _, rfl, rfl, hI'⟩
  · by_cases h1 : x < nI 1
    · rw [if_pos h1, in_lo h1]
      exact ⟨_, _, _, rfl, rfl, hI'⟩
    · rw [if_neg h1, if_pos h, in_hi (ge_pred h (by omega))]
      exact ⟨_, _, _, rfl, rfl, hI'⟩
  · rw [it (by omega) (by omega), il (by omega) (by omega), pk_sub (show 1 ≤ n by omega), r_in (by omega) (by omega) (by omega)]
    by_cases h1 : j < 1
    · rw [if_pos h1, if_neg (show ¬ (1 ≤ j ∧ j ≤ n - 1) by omega)]
      exact ⟨_, _, _, rfl, rfl, hI'⟩
    · rw [if_neg h1, if_neg (show ¬ n ≤ j by omega), if_pos (show 1 ≤ j ∧ j ≤ n - 1 by omega)]
      simp only [Option.bind_some]
      rw [if_neg (show ¬ nI 1 = nI 0 by decide), if_neg (show ¬ nI 1 = nI 0 by decide)]
      have go : ∀ v : Nat, v ≤ 1 → ∃ (r : Int32) (S1 : Nat → Ob) (M1 : Ob), p_X3_cut_25 (nI j) (nI v) S = some (r, S1) ∧ ((stO M 0 130 (nI 60 + nI j) (nI v)).bind fun N => ((p_X4_breaks N).bind fun w => (some (w, N)))) = some (r, M1) ∧ Inv S1 M1 := by
        intro v hv
        have c1 := cut_book (j := j) hB hv
        have c2 := cut_st (j := j) hM' (by omega) hv
        obtain ⟨L1, g1, g2⟩ := laid (S := S) (M := M) (M1 := va_up M 0 (upd (M 0) (60 + j) (nI v))) c1 c2 hR hIP hIJ rfl rfl rfl rfl
        have hB2 : BkT ((va_up (va_up S 2 (va_up (S 2) 1 (upd (S 2 1) j (nI v)))) 5 L1) 2) (n, sg, va_up bk j v, ru) := c1
        unfold p_X3_cut_25
        rw [st_ok (by omega) (by omega), nI_add, st_ok (by omega) (by omega)]
        simp only [Option.bind_some]
        rw [g1]
        simp only [Option.bind_some]
        rw [countBreaks_ok b2 hB2.2.1 hB2.2.2.1, rBreaks_ok (M := va_up M 0 (upd (M 0) (60 + j) (nI v))) c2]
        exact ⟨_, _, _, rfl, rfl, g2⟩
      by_cases y0 : y = nI 0
      · subst y0
        obtain ⟨r, S1, M1, q1, q2, q3⟩ := go 0 (by omega)
        rw [if_pos rfl, q1, show p_X4_in (nI 0) (nI 0) (nI 1) = some (nI 1) from rfl]
        simp only [Option.bind_some]
        rw [if_neg (show ¬ nI 1 = nI 0 by decide), q2]
        exact ⟨_, _, _, rfl, rfl, q3⟩
      · rw [if_neg y0]
        by_cases y1 : y = nI 1
        · subst y1
          obtain ⟨r, S1, M1, q1, q2, q3⟩ := go 1 (by omega)
          rw [if_pos rfl, q1, show p_X4_in (nI 1) (nI 0) (nI 1) = some (nI 1) from rfl]
          simp only [Option.bind_some]
          rw [if_neg (show ¬ nI 1 = nI 0 by decide), q2]
          exact ⟨_, _, _, rfl, rfl, q3⟩
        · rw [if_neg y1]
          have : p_X4_in y (nI 0) (nI 1) = some (nI 0) := by
            rcases x3 y 2 (by omega) with q | q | ⟨c, hc, rfl⟩
            · exact in_lo q
            · exact in_hi (ge_lt q (by omega) (by omega))
            · rcases (show c = 0 ∨ c = 1 by omega) with z | z
              · rw [z] at y0; exact absurd rfl y0
              · rw [z] at y1; exact absurd rfl y1
          rw [this]
          exact ⟨_, _, _, rfl, rfl, hI'⟩
def leR (r : Nat) : Nat := if r = 0 then 2 else 0
def moR (r : Nat) : Nat := ([9, 2, 2, 1, 1, 1, 1, 2, 2] : List Nat).getD r 1
theorem tab_le : ∀ r, r < 9 → tLeast r = nI (leR r) ∧ tMost r = nI (moR r) ∧ p_X4_least (nI r) = some (nI (leR r)) ∧ p_X4_most (nI r) = some (nI (moR r)) ∧ leR r ≤ 9 ∧ moR r ≤ 9 := by decide
theorem rule_book {B : Ob} {n : Nat} {sg bk ru : Nat → Nat} {r v : Nat} (h : BkT B (n, sg, bk, ru)) (hr : r < 9) (hR : RuR (va_up ru r v)) : BkT (va_up B 2 (upd (B 2) r (nI v))) (n, sg, bk, va_up ru r v) := by
  obtain ⟨⟨b2, b3, b4, b9, b5⟩, h2, h3, h4⟩ := h
  refine ⟨⟨b2, b3, fun q q1 q2 => ?_, hR.nine, by have := hR.1; show 1 ≤ va_up ru r v 0; omega⟩, h2, h3, ?_⟩
  · show upd (B 2) r (nI v) q = nI (va_up ru r v q)
    by_cases e : q = r
    · rw [e, ud_s, up_s]
    · rw [ud_n e, up_n e]; exact b4 q q1 q2
  · show upd (B 2) r (nI v) 0 = nI (va_up ru r v 0)
    by_cases e : 0 = r
    · rw [← e, ud_s, up_s]
    · rw [ud_n e, up_n e]; exact h4
theorem rule_st {st : Nat → Int32} {n : Nat} {sg bk ru : Nat → Nat} {r v : Nat} (h : StOK st n sg bk ru) (hr : r < 9) (hR : RuR (va_up ru r v)) : StOK (upd st (121 + r) (nI v)) n sg bk (va_up ru r v) := by
  obtain ⟨h1, h2, h3, h4, h5⟩ := h
  refine ⟨by rw [ud_n (by omega)]; exact h1, h2, fun i hi => ?_, fun q hq => ?_, by have := hR.1; omega⟩
  · obtain ⟨a, b, c, d⟩ := h3 i hi
    exact ⟨by rw [ud_n (by omega)]; exact a, by rw [ud_n (by omega)]; exact b, c, d⟩
  · refine ⟨?_, hR.nine q hq⟩
    by_cases e : q = r
    · rw [e, ud_s, up_s]
    · rw [ud_n (by omega), up_n e]; exact (h4 q hq).1
/-- may the rule be so? -/
def mayR (ru : Nat → Nat) (r v : Nat) : Prop := leR r ≤ v ∧ v ≤ moR r ∧ (if r = 2 then v else ru 2) < (if r = 0 then v else ru 0)
theorem mayR_ok {ru : Nat → Nat} {r v : Nat} (hr : r < 9) (h : RuR ru) (hm : mayR ru r v) : RuR (va_up ru r v) := by
  obtain ⟨m1, m2, m3⟩ := hm
  obtain ⟨h0, h1, h2, h3, h4, h5, h6, h7, h8, h9, h10⟩ := h
  match r, hr with
  | 0, _ =>
    have e1 : leR 0 = 2 := rfl
    have e2 : moR 0 = 9 := rfl
    rw [if_neg (by decide), if_pos rfl] at m3
    exact ⟨by show 2 ≤ v; omega, by show v ≤ 9; omega, h2, h3, h4, h5, h6, h7, h8, h9, m3⟩
  | 1, _ => have e2 : moR 1 = 2 := rfl; exact ⟨h0, h1, by show v ≤ 2; omega, h3, h4, h5, h6, h7, h8, h9, h10⟩
  | 2, _ =>
    have e2 : moR 2 = 2 := rfl
    rw [if_pos rfl, if_neg (by decide)] at m3
    exact ⟨h0, h1, h2, by show v ≤ 2; omega, h4, h5, h6, h7, h8, h9, m3⟩
  | 3, _ => have e2 : moR 3 = 1 := rfl; exact ⟨h0, h1, h2, h3, by show v ≤ 1; omega, h5, h6, h7, h8, h9, h10⟩
  | 4, _ => have e2 : moR 4 = 1 := rfl; exact ⟨h0, h1, h2, h3, h4, by show v ≤ 1; omega, h6, h7, h8, h9, h10⟩
  | 5, _ => have e2 : moR 5 = 1 := rfl; exact ⟨h0, h1, h2, h3, h4, h5, by show v ≤ 1; omega, h7, h8, h9, h10⟩
  | 6, _ => have e2 : moR 6 = 1 := rfl; exact ⟨h0, h1, h2, h3, h4, h5, h6, by show v ≤ 1; omega, h8, h9, h10⟩
  | 7, _ => have e2 : moR 7 = 2 := rfl; exact ⟨h0, h1, h2, h3, h4, h5, h6, h7, by show v ≤ 2; omega, h9, h10⟩
  | 8, _ => have e2 : moR 8 = 2 := rfl; exact ⟨h0, h1, h2, h3, h4, h5, h6, h7, h8, by show v ≤ 2; omega, h10⟩
  | k + 9, h => omega
theorem k_rule : K_rule Inv := by
  intro S M x y hI
  have hI' := hI
  obtain ⟨⟨X, hT⟩, hIP, hIJ⟩ := hI
  obtain ⟨⟨n, sg, bk, ru⟩, hX⟩ : ∃ Y : TX, Y = X := ⟨_, rfl⟩
  subst hX
  obtain ⟨hB, hL, hM, hR⟩ := hT
  have hM' : StOK (M 0) n sg bk ru := hM
  have hR' : RuR ru := hR
  have hru : ∀ r, r < 9 → ldI (S 2 2) 9 (nI r) = some (nI (ru r)) := fun r hr => by
    rw [ld_ok hr (by omega)]
    rcases Nat.eq_zero_or_pos r with q | q
    · subst q; exact congrArg some hB.2.2.2
    · exact congrArg some (hB.1.2.2.1 r q hr)
  have hrm : ∀ r, r < 9 → ldI (M 0) 130 (nI (121 + r)) = some (nI (ru r)) := fun r hr => by rw [ld_ok (by omega) (by omega), (hM'.2.2.2.1 r hr).1]
  have q0 := hR'.nine 0 (by omega)
  have q2 := hR'.nine 2 (by omega)
  unfold p_X3_rule p_X4_rule
  rcases x3 x 9 (by omega) with h | h | ⟨r, hr, rfl⟩
  · rw [if_pos h, in_lo h]
    exact ⟨_, _, _, rfl, rfl, hI'⟩
  · rw [if_neg (ge_nlt h (by omega) (by omega)), if_pos h, in_hi (ge_lt h (by omega) (by omega))]
    exact ⟨_, _, _, rfl, rfl, hI'⟩
  · obtain ⟨t1, t2, t3, t4, t5, t6⟩ := tab_le r hr
    rw [if_neg (n_neg r (by omega)), il (by omega) (by omega), if_neg (show ¬ 9 ≤ r by omega), r_in (by omega) (by omega) (by omega), if_pos (show 0 ≤ r ∧ r ≤ 8 by omega), t3, t4]
    simp only [Option.bind_some]
    rw [if_neg (show ¬ nI 1 = nI 0 by decide)]
    unfold p_X0_mayRule
    rw [ld_ok (f := tLeast) hr (by omega), t1, ld_ok (f := tMost) hr (by omega), t2]
    simp only [Option.bind_some]
    rcases x3 y 10 (by omega) with h | h | ⟨v, hv, rfl⟩
    · rw [if_pos (neg_lt h (by omega)), in_lo (neg_lt h (by omega))]
      exact ⟨_, _, _, rfl, rfl, hI'⟩
    · rw [if_neg (ge_nlt h (by omega) (by omega)), if_neg (fun q => absurd q (Int32.not_le.mpr (ge_lt h (show moR r < 10 by omega) (by omega)))), in_hi (ge_lt h (by omega) (by omega))]
      exact ⟨_, _, _, rfl, rfl, hI'⟩
    · rw [it (by omega) (by omega), il (by omega) (by omega), r_in (by omega) (by omega) (by omega)]
      by_cases h1 : v < leR r
      · rw [if_pos h1, if_neg (show ¬ (leR r ≤ v ∧ v ≤ moR r) by omega)]
        exact ⟨_, _, _, rfl, rfl, hI'⟩
      · rw [if_neg h1]
        by_cases h2 : v ≤ moR r
        · rw [if_pos h2, if_pos (show leR r ≤ v ∧ v ≤ moR r by omega)]
          simp only [Option.bind_some]
          rw [if_neg (show ¬ nI 1 = nI 0 by decide)]
          -- the class's test of height and keep
          have hk : (if nI r = nI 0 then p_X0_mayRule_34 (S 2) (nI r) (nI v) (nI v) else (ldI (S 2 2) 9 (nI 0)).bind fun v_8 => p_X0_mayRule_34 (S 2) (nI r) (nI v) v_8) = some (if (if r = 0 then v else ru 0) ≤ (if r = 2 then v else ru 2) then nI 0 else nI 1) := by
            have h34 : ∀ hgt : Nat, hgt ≤ 9 → p_X0_mayRule_34 (S 2) (nI r) (nI v) (nI hgt) = some (if hgt ≤ (if r = 2 then v else ru 2) then nI 0 else nI 1) := by
              intro hgt hh
              unfold p_X0_mayRule_34 p_X0_mayRule_50
              rw [hru 2 (by omega)]
              simp only [Option.bind_some]
              rw [ie (by omega) (by omega), il (by omega) (by omega), il (by omega) (by omega)]
              by_cases e : r = 2
              · rw [if_pos e, if_pos e]; split <;> rfl
              · rw [if_neg e, if_neg e]; split <;> rfl
            rw [ie (by omega) (by omega), hru 0 (by omega)]
            simp only [Option.bind_some]
            by_cases e : r = 0
            · rw [if_pos e, if_pos e]; exact h34 v (by omega)
            · rw [if_neg e, if_neg e]; exact h34 (ru 0) q0
          rw [hk]
          simp only [Option.bind_some]
          have h62 : mayR ru r v → ∃ (w : Int32) (S1 : Nat → Ob) (M1 : Ob), ((ldI (S 2 2) 9 (nI r)).bind fun v_7 => ((stO (S 2) 2 9 (nI r) (nI v)).bind fun N_9 => ((p_X3_layNow (va_up S 2 N_9)).bind fun N_14 => (some (v_7, N_14))))) = some (w, S1) ∧ p_X4_rule_62 (nI r) (nI v) M = some (w, M1) ∧ Inv S1 M1 := by
            intro hm
            have hR2 := mayR_ok hr hR' hm
            have c1 := rule_book hB hr hR2
            have c2 := rule_st hM' hr hR2
            obtain ⟨L1, g1, g2⟩ := laid (S := S) (M := M) (M1 := va_up M 0 (upd (M 0) (121 + r) (nI v))) c1 c2 hR2 hIP hIJ rfl rfl rfl rfl
            unfold p_X4_rule_62
            rw [hru r hr, st_ok hr (by omega), nI_add, hrm r hr, st_ok (by omega) (by omega)]
            simp only [Option.bind_some]
            rw [g1]
            exact ⟨_, _, _, rfl, rfl, g2⟩
          have h43 : p_X4_rule_43 (nI r) (nI v) M = (if r = 2 then (if v < ru 0 then p_X4_rule_62 (nI r) (nI v) M else some (-2, M)) else p_X4_rule_62 (nI r) (nI v) M) := by
            unfold p_X4_rule_43
            rw [hrm 0 (by omega)]
            simp only [Option.bind_some]
            rw [ie (by omega) (by omega), it (by omega) (by omega)]
          rw [hrm 2 (by omega), h43, ie (by omega) (by omega)]
          simp only [Option.bind_some]
          rw [il (by omega) (by omega)]
          have r10 := hR'.2.2.2.2.2.2.2.2.2.2
          by_cases hm : mayR ru r v
          · obtain ⟨w, S1, M1, a1, a2, a3⟩ := h62 hm
            have hm3 := hm.2.2
            rw [if_neg (show ¬ (if r = 0 then v else ru 0) ≤ (if r = 2 then v else ru 2) by omega), if_neg (show ¬ nI 1 = nI 0 by decide), a1]
            refine ⟨w, S1, M1, rfl, ?_, a3⟩
            by_cases e0 : r = 0
            · rw [if_pos e0, if_neg (by rw [if_neg (by omega), if_pos e0] at hm3; omega), if_neg (by omega)]; exact a2
            · rw [if_neg e0]
              by_cases e2 : r = 2
              · rw [if_pos e2, if_pos (by rw [if_pos e2, if_neg e0] at hm3; omega)]; exact a2
              · rw [if_neg e2]; exact a2
          · have hn : ¬ (if r = 2 then v else ru 2) < (if r = 0 then v else ru 0) := fun q => hm ⟨by omega, h2, q⟩
            rw [if_pos (show (if r = 0 then v else ru 0) ≤ (if r = 2 then v else ru 2) by omega), if_pos rfl]
            refine ⟨_, S, M, rfl, ?_, hI'⟩
            by_cases e0 : r = 0
            · rw [if_pos e0, if_pos (by rw [if_neg (by omega), if_pos e0] at hn; omega)]
            · rw [if_neg e0]
              by_cases e2 : r = 2
              · rw [if_pos e2, if_neg (by rw [if_pos e2, if_neg e0] at hn; omega)]
              · rw [if_neg e2, if_neg e0] at hn; omega
        · rw [if_neg h2, if_neg (show ¬ (leR r ≤ v ∧ v ≤ moR r) by omega)]
          exact ⟨_, _, _, rfl, rfl, hI'⟩
end KCUT
