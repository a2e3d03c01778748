/-! fit -/
section KFIT
variable {sg bk ru : Nat → Nat} {n : Nat}
def pgV (n : Nat) (sg bk ru : Nat → Nat) (v : Nat) : Nat := (curP sg bk (va_up ru 0 v) n).1
/-- the least height from 10 − k on with at most w pages -/
def fit0 (n : Nat) (sg bk ru : Nat → Nat) (w : Nat) : Nat → Int32
  | 0 => -6
  | k + 1 => if w < pgV n sg bk ru (9 - k) then fit0 n sg bk ru w k else nI (9 - k)
theorem fit_rur {v : Nat} (hR : RuR ru) (h1 : 2 ≤ v) (h2 : v ≤ 9) (h3 : ru 2 < v) : RuR (va_up ru 0 v) :=
  mayR_ok (by omega) hR ⟨h1, h2, by rw [if_neg (by decide), if_pos rfl]; exact h3⟩
theorem fit_class {w : Nat} (hw : w < 1000) (hR : RuR ru) : ∀ (m v : Nat) (S : Nat → Ob), BkT (S 2) (n, sg, bk, ru) → 2 ≤ v → ru 2 < v → v ≤ 10 → 10 < v + m → (∃ S1, p_X3_fit_35 m (nI w) (nI v) S = some (fit0 n sg bk ru w (10 - v), S1) ∧ ((∃ L, S1 = va_up S 6 L) ∨ S1 = S)) := by
  intro m
  induction m with
  | zero => intro v S _ a b c d; omega
  | succ m ih =>
    intro v S hB a b c d
    rw [p_X3_fit_35, ld_ok (i := 0) (by omega) (by omega), (tab_le 0 (by omega)).2.1]
    simp only [Option.bind_some]
    rw [show moR 0 = 9 from rfl, it (by omega) (by omega)]
    by_cases e : 9 < v
    · have : v = 10 := by omega
      subst this
      rw [if_pos e]
      exact ⟨S, rfl, Or.inr rfl⟩
    · have hR2 := fit_rur hR a (show v ≤ 9 by omega) b
      obtain ⟨⟨b2, b3, b4, b9, b5⟩, h2, h3, h4⟩ := hB
      simp only at b2 b3 b4 b9 b5 h2 h3 h4
      have hBL : BL (S 2) n sg (va_up ru 0 v) := ⟨b2, b3, fun r q1 q2 => by rw [up_n (by omega)]; exact b4 r q1 q2, hR2.nine, by rw [up_s]; omega⟩
      obtain ⟨L1, g1, g2⟩ := lay_ok (L := S 6) (bk := bk) (f := none) hBL hR2.ok h2 h3 (fun j h => by cases h) (flp_none bk)
      rw [up_s] at g1
      have hpg := PG_lt (sg := sg) (bk := bk) (ru := va_up ru 0 v) b2
      rw [if_neg e, show (-1 : Int32) = flI none from rfl, g1]
      simp only [Option.bind_some]
      rw [show (va_up S 6 L1) 6 10 0 = nI (pgV n sg bk ru v) from g2.1.2.1, it (by omega) (show pgV n sg bk ru v < 2000 by unfold pgV; omega), nI_add, show 10 - v = (9 - v) + 1 by omega, fit0, show 9 - (9 - v) = v by omega]
      by_cases q : w < pgV n sg bk ru v
      · rw [if_pos q, if_pos q]
        obtain ⟨S1, i1, i2⟩ := ih (v + 1) (va_up S 6 L1) ⟨⟨b2, b3, b4, b9, b5⟩, h2, h3, h4⟩ (by omega) (by omega) (by omega) (by omega)
        refine ⟨S1, ?_, ?_⟩
        · rw [i1, show 10 - (v + 1) = 9 - v by omega]
        · rcases i2 with ⟨L, hL⟩ | hL
          · refine Or.inl ⟨L, ?_⟩
            rw [hL]
            funext i
            by_cases w : i = 6
            · rw [w, up_s, up_s]
            · rw [up_n w, up_n w, up_n w]
          · exact Or.inl ⟨L1, hL⟩
      · rw [if_neg q, if_neg q]
        exact ⟨_, rfl, Or.inl ⟨L1, rfl⟩⟩
theorem fit_ref {w : Nat} (hw : w < 1000) (hR : RuR ru) {M0 : Ob} (hM : StOK (M0 0) n sg bk ru) : ∀ (m v : Nat) (M : Ob), ru 2 ≤ v → 1 ≤ v → v ≤ 9 → v < m → (∃ t, M 0 = upd (M0 0) 121 t) → M 1 = M0 1 → M 2 = M0 2 → M 3 = M0 3 → M 4 = M0 4 → (∃ M1, p_X4_fit_28 m (nI w) (M0 0 121) (fit0 n sg bk ru w (9 - v)) (nI v) M = some (fit0 n sg bk ru w (10 - (if 2 < ru 2 + 1 then ru 2 + 1 else 2)), M1) ∧ Sam M0 M1) := by
  have h123 : M0 0 123 = nI (ru 2) := (hM.2.2.2.1 2 (by omega)).1
  have q2 := hR.nine 2 (by omega)
  intro m
  induction m with
  | zero => intro v M a b c d; omega
  | succ m ih =>
    intro v M a b c d ⟨t, e0⟩ e1 e2 e3 e4
    have stop : 10 - (if 2 < ru 2 + 1 then ru 2 + 1 else 2) = 9 - v → ∃ M1, p_X4_fit_80 (M0 0 121) (fit0 n sg bk ru w (9 - v)) M = some (fit0 n sg bk ru w (10 - (if 2 < ru 2 + 1 then ru 2 + 1 else 2)), M1) ∧ Sam M0 M1 := by
      intro hv
      unfold p_X4_fit_80
      rw [st_ok (by omega) (by omega), hv, e0, ud_ud, ud_id]
      exact ⟨_, rfl, rfl, e1, e2, e3, e4⟩
    rw [p_X4_fit_28, it (by omega) (by omega)]
    by_cases e : v < 2
    · rw [if_pos e]
      exact stop (by split <;> omega)
    · rw [if_neg e, ld_ok (by omega) (by omega), e0, ud_n (by omega), h123]
      simp only [Option.bind_some]
      rw [il (by omega) (by omega)]
      by_cases e5 : v ≤ ru 2
      · rw [if_pos e5]
        exact stop (by split <;> omega)
      · have hR2 := fit_rur hR (show 2 ≤ v by omega) c (show ru 2 < v by omega)
        have hS := rule_st hM (show 0 < 9 by omega) hR2
        simp only [Nat.add_zero] at hS
        rw [if_neg e5, st_ok (by omega) (by omega), e0, ud_ud]
        simp only [Option.bind_some]
        obtain ⟨N, g1, ⟨s0, s1, s2, s3, s4, s5⟩, g3⟩ := layPages_ok (M := va_up M 0 (upd (M0 0) 121 (nI v))) hS
        have hpg := PG_lt (sg := sg) (bk := bk) (ru := va_up ru 0 v) hM.2.1
        rw [g1]
        simp only [Option.bind_some]
        unfold p_X4_fit_73
        rw [show N 10 0 = nI (pgV n sg bk ru v) from g3.2.1, it (by omega) (show pgV n sg bk ru v < 2000 by unfold pgV; omega), show nI v + (-1) = nI (v - 1) from sb_m1 (by omega)]
        obtain ⟨M1, i1, i2⟩ := ih (v - 1) N (by omega) (by omega) (by omega) (by omega) ⟨nI v, s0⟩ (s1.trans e1) (s2.trans e2) (s3.trans e3) (s4.trans e4)
        rw [show 9 - (v - 1) = (9 - v) + 1 by omega, fit0, show 9 - (9 - v) = v by omega] at i1
        refine ⟨M1, ?_, i2⟩
        by_cases q : w < pgV n sg bk ru v
        · rw [if_pos q] at i1
          rw [if_pos q]; exact i1
        · rw [if_neg q] at i1
          rw [if_neg q]; exact i1
theorem k_fit : K_fit Inv := by
  intro S M x hI
  have hI' := hI
  obtain ⟨⟨X, hT⟩, hIP, hIJ⟩ := hI
  obtain ⟨⟨n, sg, bk, ru⟩, hX⟩ : ∃ Y : TX, Y = X := ⟨_, rfl⟩
  subst hX
  obtain ⟨hB, hL, hM, hR⟩ := hT
  have b2 : n ≤ 60 := hB.1.1
  have hM' : StOK (M 0) n sg bk ru := hM
  have hR' : RuR ru := hR
  have q2 : ru 2 ≤ 2 := hR'.2.2.2.1
  have hb2 : S 2 2 2 = nI (ru 2) := hB.1.2.2.1 2 (by omega) (by omega)
  have hl0 : ldI tLeast 9 (nI 0) = some (nI 2) := by rw [ld_ok (by omega) (by omega), (tab_le 0 (by omega)).1]; rfl
  unfold p_X3_fit p_X4_fit
  rcases x3 x 100 (by omega) with h | h | ⟨w, hw, rfl⟩
  · rw [if_pos h, in_lo h]
    exact ⟨_, _, _, rfl, rfl, hI'⟩
  · rw [if_neg (ge_nlt h (by omega) (by omega)), if_neg (fun q => absurd q (Int32.not_le.mpr (ge_lt h (show 99 < 100 by omega) (by omega)))), in_hi (ge_lt h (by omega) (by omega))]
    exact ⟨_, _, _, rfl, rfl, hI'⟩
  · obtain ⟨v0, hv0⟩ : ∃ v0, v0 = (if 2 < ru 2 + 1 then ru 2 + 1 else 2) := ⟨_, rfl⟩
    have hv1 : (if nI 2 < nI (ru 2) + nI 1 then nI (ru 2) + nI 1 else nI 2) = nI v0 := by rw [nI_add, it (by omega) (by omega), hv0]; split <;> rfl
    have hv2 : 2 ≤ v0 ∧ ru 2 < v0 ∧ v0 ≤ 3 := by rw [hv0]; split <;> omega
    obtain ⟨S1, c1, c2⟩ := fit_class (w := w) (by omega) hR' 200 v0 S hB (by omega) (by omega) (by omega) (by omega)
    obtain ⟨M1, d1, d2⟩ := fit_ref (w := w) (by omega) hR' hM' 200 9 M (by omega) (by omega) (by omega) (by omega) ⟨M 0 121, ud_id.symm⟩ rfl rfl rfl rfl
    rw [← hv0, Nat.sub_self, fit0] at d1
    rw [if_neg (n_neg w (by omega)), il (by omega) (by omega), if_pos (show w ≤ 99 by omega), r_in (by omega) (by omega) (by omega), if_pos (show 0 ≤ w ∧ w ≤ 99 by omega), hl0, ld_ok (f := S 2 2) (i := 2) (by omega) (by omega), hb2]
    rw [Option.bind_some, Option.bind_some, Option.bind_some, Option.bind_some, hv1, c1, if_neg (show ¬ nI 1 = nI 0 by decide), ld_ok (i := 121) (by omega) (by omega), Option.bind_some, d1]
    refine ⟨_, S1, M1, rfl, rfl, ?_⟩
    rcases c2 with ⟨L, hL2⟩ | hL2
    · rw [hL2]; exact (hI'.sam d2).six
    · rw [hL2]; exact hI'.sam d2
end KFIT
