/-! the reference: all lines laid -/
section RLAY2
variable {sg bk ru : Nat → Nat} {n : Nat}
theorem place_ok {M : Ob} {k pg : Nat} {K : Int32 → Ob → Option Ob} (hk : k < n) (hpg : pg = pgOf sg bk ru k) (h : MJ M n sg bk ru k pg) : ∃ M1, p_X4_layPages_85 K (nI k) M = K (nI (k + 1)) M1 ∧ Same M M1 ∧ MJ M1 n sg bk ru (k + 1) pg := by
  obtain ⟨h1, h2, h3, h4⟩ := h
  have hn := h1.2.1
  have hpl : pg < 120 := by rw [hpg]; exact pgOf_lt (by omega)
  have hpp : 1 ≤ pg := by rw [hpg]; exact pgOf_pos k
  obtain ⟨g9, g8⟩ := h4 pg hpp (Nat.le_refl _)
  have hbc : bef sg bk ru k pg + cnt sg bk ru k pg = k := by rw [hpg]; exact line_at k
  unfold p_X4_layPages_85
  rw [h2, st_ok (by omega) (by omega)]
  simp only [Option.bind_some]
  obtain ⟨N1, hN1⟩ : ∃ N1 : Ob, N1 = va_up M 5 (upd (M 5) k (nI pg)) := ⟨_, rfl⟩
  rw [← hN1]
  have a9 : N1 9 = M 9 := by rw [hN1]; rfl
  have a10 : N1 10 0 = nI pg := by rw [hN1]; exact h2
  rw [a10, a9, ld_ok (by omega) (by omega), g9]
  simp only [Option.bind_some]
  rw [st_ok (by omega) (by omega)]
  simp only [Option.bind_some]
  obtain ⟨N2, hN2⟩ : ∃ N2 : Ob, N2 = va_up N1 6 (upd (N1 6) k (nI (cnt sg bk ru k pg))) := ⟨_, rfl⟩
  rw [← hN2]
  have b9 : N2 9 = M 9 := by rw [hN2, hN1]; rfl
  have b8 : N2 8 = M 8 := by rw [hN2, hN1]; rfl
  have b10 : N2 10 0 = nI pg := by rw [hN2, hN1]; exact h2
  rw [b10, b9, b8, ld_ok (by omega) (by omega), g9, ld_ok (by omega) (by omega), g8]
  simp only [Option.bind_some]
  rw [ie (by omega) (by omega)]
  have key : ∀ y : Int32, y = nI (bef sg bk ru k pg) → ∃ M1, p_X4_layPages_143 K (nI k) y (nI pg) N2 = K (nI (k + 1)) M1 ∧ Same M M1 ∧ MJ M1 n sg bk ru (k + 1) pg := by
    intro y hy
    unfold p_X4_layPages_143
    rw [st_ok (by omega) (by omega)]
    simp only [Option.bind_some]
    obtain ⟨N3, hN3⟩ : ∃ N3 : Ob, N3 = va_up N2 8 (upd (N2 8) pg y) := ⟨_, rfl⟩
    rw [← hN3]
    have c9 : N3 9 = M 9 := by rw [hN3, ← b9]; rfl
    have c10 : N3 10 0 = nI pg := by rw [hN3]; exact b10
    rw [c10, c9, ld_ok (by omega) (by omega), g9]
    simp only [Option.bind_some]
    rw [st_ok (by omega) (by omega), nI_add]
    simp only [Option.bind_some]
    obtain ⟨N4, hN4⟩ : ∃ N4 : Ob, N4 = va_up N3 9 (upd (N3 9) pg (nI (cnt sg bk ru k pg + 1))) := ⟨_, rfl⟩
    rw [← hN4]
    have d0 : N4 0 = M 0 := by rw [hN4, hN3, hN2, hN1]; rfl
    have d7 : N4 7 = M 7 := by rw [hN4, hN3, hN2, hN1]; rfl
    have d5 : N4 5 = upd (M 5) k (nI pg) := by rw [hN4, hN3, hN2, hN1]; rfl
    have d6 : N4 6 = upd (M 6) k (nI (cnt sg bk ru k pg)) := by rw [hN4, hN3, hN2, hN1]; rfl
    have d8 : N4 8 = upd (M 8) pg y := by rw [hN4, hN3, hN2, hN1]; rfl
    have d9 : N4 9 = upd (M 9) pg (nI (cnt sg bk ru k pg + 1)) := by rw [hN4, hN3, hN2, hN1]; rfl
    have d10 : N4 10 0 = nI pg := by rw [hN4, hN3, hN2, hN1]; exact h2
    have sm : Same M N4 := by rw [hN4, hN3, hN2, hN1]; exact ⟨rfl, rfl, rfl, rfl, rfl, rfl⟩
    obtain ⟨M1, q0, q1, q5, q6, q8, q9, q10, qa, qb, qc⟩ := layForce_ok (M := N4) hk (by rw [d0]; exact h1) (fun q => by
      rw [d7]
      obtain ⟨-, -, x1, x2⟩ := h3 (k - 1) (by omega)
      rw [show k - 1 + 1 = k by omega] at x1 x2
      exact ⟨x1, x2⟩)
    rw [q0]
    simp only [Option.bind_some]
    refine ⟨M1, by rw [nI_add], sm.tr q1, ?_, by rw [q10]; exact d10, fun j hj => ?_, fun p hp1 hp2 => ?_⟩
    · rw [q1.1, d0]; exact h1
    · by_cases e : j = k
      · subst e
        rw [q5, q6, d5, d6, ud_s, ud_s]
        exact ⟨by rw [hpg], by rw [hpg], qa, qb⟩
      · have hj2 : j < k := by omega
        obtain ⟨x1, x2, x3, x4⟩ := h3 j hj2
        rw [q5, q6, d5, d6, ud_n e, ud_n e, qc _ (by omega), qc _ (by omega), d7]
        exact ⟨x1, x2, x3, x4⟩
    · rw [q9, q8, d9, d8, cnt, bef]
      by_cases e : p = pg
      · subst e
        rw [ud_s, ud_s, if_pos hpg.symm, if_neg (by omega), if_neg (by omega), hy]
        exact ⟨rfl, rfl⟩
      · have x1 : (if pgOf sg bk ru k = p then 1 else 0) = 0 := if_neg (by omega)
        have x2 : (if pgOf sg bk ru k < p then 1 else 0) = 0 := if_neg (by omega)
        rw [ud_n e, ud_n e, x1, x2]
        exact h4 p hp1 hp2
  by_cases e : cnt sg bk ru k pg = 0
  · rw [if_pos e]
    exact key _ (by rw [show bef sg bk ru k pg = k by omega])
  · rw [if_neg e, if_neg e]
    exact key _ rfl
theorem pages_head : ∀ (m k : Nat) (M : Ob), k ≤ n → n < k + m → MJ M n sg bk ru k (curP sg bk ru k).1 → ∃ M1, p_X4_layPages_7 m (nI k) M = some M1 ∧ Same M M1 ∧ MJ M1 n sg bk ru n (curP sg bk ru n).1 := by
  intro m
  induction m with
  | zero => intro k M h1 h2; omega
  | succ m ih =>
    intro k M hk hm h
    have hn := h.1.2.1
    have hs := h.1
    obtain ⟨s1, s2, s3, s4, s5⟩ := hs
    obtain ⟨r1, r1'⟩ : M 0 122 = nI (ru 1) ∧ ru 1 ≤ 9 := s4 1 (by omega)
    have many : p_X4_many M = some (nI n) := by
      unfold p_X4_many
      rw [ld_ok (i := 120) (by omega) (by omega), s1]
      rfl
    rw [p_X4_layPages_7, many]
    simp only [Option.bind_some]
    rw [il (by omega) (by omega), ie (by omega) (by omega)]
    by_cases e : n ≤ k
    · have : k = n := by omega
      subst this
      rw [if_pos e]
      exact ⟨M, rfl, Same.rf, h⟩
    · rw [if_neg e]
      have hk2 : k < n := by omega
      obtain ⟨a1, a2, a3, a4⟩ := s3 k hk2
      have hsl := okS_lt a3
      have pl : ∀ X : Ob, Same M X → MJ X n sg bk ru k (pgOf sg bk ru k) → ∃ M1, p_X4_layPages_85 (p_X4_layPages_7 m) (nI k) X = some M1 ∧ Same M M1 ∧ MJ M1 n sg bk ru n (curP sg bk ru n).1 := by
        intro X hX hJ
        obtain ⟨X1, g1, g2, g3⟩ := place_ok (K := p_X4_layPages_7 m) hk2 rfl hJ
        obtain ⟨M1, g4, g5, g6⟩ := ih (k + 1) X1 (by omega) (by omega) g3
        exact ⟨M1, by rw [g1, g4], (hX.tr g2).tr g5, g6⟩
      have hpgl : (curP sg bk ru k).1 + 2 < 121 := by
        rcases Nat.eq_zero_or_pos k with q | q
        · subst q; show 0 + 2 < 121; omega
        · have := cur_pos (sg := sg) (bk := bk) (ru := ru) k q; omega
      by_cases k0 : k = 0
      · have ht : turnsB sg bk ru k (curP sg bk ru k).2 = true := by simp [turnsB, k0]
        rw [if_pos k0, begin_ok h.2.1 (by omega)]
        simp only [Option.bind_some]
        refine pl _ (bgP_same M _) ?_
        have e1 : pgOf sg bk ru k = (curP sg bk ru k).1 + 1 := by
          subst k0
          unfold pgOf
          rw [cur_one]
          rfl
        rw [e1]
        exact bgP_MJ h (by omega)
      · rw [if_neg k0]
        have hc := cur_pos (sg := sg) (bk := bk) (ru := ru) k (by omega)
        obtain ⟨g9, -⟩ := h.2.2.2 _ hc.1 (Nat.le_refl _)
        rw [cnt_cur k (by omega)] at g9
        rw [h.2.1, ld_ok (by omega) (by omega), g9]
        simp only [Option.bind_some]
        rw [isNew_ok hk2 (by omega) h.1]
        simp only [Option.bind_some]
        by_cases ht : turnsB sg bk ru k (curP sg bk ru k).2 = true
        · rw [if_pos ht, if_neg (by decide), begin_ok h.2.1 (by omega)]
          simp only [Option.bind_some]
          have e1 : pgOf sg bk ru k = newP sg ru k (curP sg bk ru k).1 := by unfold pgOf; rw [curP, if_pos ht]
          have hb := bgP_MJ h (by omega : (curP sg bk ru k).1 < (curP sg bk ru k).1 + 1)
          generalize hg : (curP sg bk ru k).1 = pg at h hb e1 hpgl
          have z0 : bgP M pg 0 = M 0 := rfl
          have z10 : bgP M pg 10 0 = nI (pg + 1) := rfl
          rw [z0, ld_ok (i := 122) (by omega) (by omega), r1]
          simp only [Option.bind_some]
          rw [ie (by omega) (by omega)]
          have stay : newP sg ru k pg = pg + 1 → ∃ M1, p_X4_layPages_85 (p_X4_layPages_7 m) (nI k) (bgP M pg) = some M1 ∧ Same M M1 ∧ MJ M1 n sg bk ru n (curP sg bk ru n).1 := by
            intro q
            refine pl _ (bgP_same M _) ?_
            rw [e1, q]; exact hb
          by_cases o2 : ru 1 = 2
          · rw [if_pos o2, nI_add, show 0 + k = k by omega, ld_ok (by omega) (by omega), a1]
            simp only [Option.bind_some]
            rw [r_isC (by omega)]
            simp only [Option.bind_some]
            by_cases ec : isC (sg k) = true
            · rw [if_pos ec, if_neg (by decide), z10, n_mod (by omega), ie (by omega) (by omega)]
              by_cases ep : (pg + 1) % 2 = 0
              · rw [if_pos ep, begin_ok (pg := pg + 1) rfl (by omega)]
                simp only [Option.bind_some]
                refine pl _ ((bgP_same M _).tr (bgP_same _ _)) ?_
                rw [e1, newP, if_pos ⟨o2, ec, ep⟩]
                exact bgP_MJ hb (by omega)
              · rw [if_neg ep]
                exact stay (by rw [newP, if_neg (fun x => ep x.2.2)])
            · rw [if_neg ec, if_pos rfl]
              exact stay (by rw [newP, if_neg (fun x => ec x.2.1)])
          · rw [if_neg o2]
            exact stay (by rw [newP, if_neg (fun x => o2 x.1)])
        · rw [if_neg ht, if_pos rfl]
          refine pl M Same.rf ?_
          have e1 : pgOf sg bk ru k = (curP sg bk ru k).1 := by unfold pgOf; rw [curP, if_neg ht]
          rw [e1]; exact h
/-- THE REFERENCE LAYS ITS PAGES -/
theorem layPages_ok {M : Ob} (hM : StOK (M 0) n sg bk ru) : ∃ M1, p_X4_layPages M = some M1 ∧ Same M M1 ∧ MJ M1 n sg bk ru n (curP sg bk ru n).1 := by
  have hn := hM.2.1
  unfold p_X4_layPages
  simp only [Option.bind_some]
  obtain ⟨M1, g1, g2, g3⟩ := pages_head (n := n) (sg := sg) (bk := bk) (ru := ru) 200 0 (puO M 10 (nI 0)) (Nat.zero_le _) (by omega) ⟨hM, rfl, fun j hj => absurd hj (by omega), fun p a b => by have : p ≤ 0 := b; omega⟩
  exact ⟨M1, g1, Same.tr (show Same M (puO M 10 (nI 0)) from ⟨rfl, rfl, rfl, rfl, rfl, rfl⟩) g2, g3⟩
end RLAY2
