/-! read -/
section KREAD2
variable {ps : Nat → Nat} {pn : Nat}
theorem read_ok {M0 : Ob} (hM0 : PdM M0 pn ps) (hn : pn ≤ 60) (hp : ∀ j, j < pn → ps j ≤ 126) : ∀ (m k : Nat) (M : Ob), k ≤ pn → pn < k + m → RM M M0 ps k → ∃ M1, p_X4_read_14 m (nI (rdX ps k).1) (nI k) M = some (nI (rdX ps pn).1, puO (va_up M1 0 (upd (M1 0) 120 (nI (rdX ps pn).1))) 4 (nI 0)) ∧ RM M1 M0 ps pn := by
  intro m
  induction m with
  | zero => intro k M a b; omega
  | succ m ih =>
    intro k M a b h
    obtain ⟨q1, q2, q3, q4, q5, q6⟩ := h
    have hrl := rd_le (ps := ps) k
    rw [p_X4_read_14, q4, hM0.1, il (by omega) (by omega)]
    by_cases e : pn ≤ k
    · have : k = pn := by omega
      subst this
      rw [if_pos e, st_ok (i := 120) (by omega) (by omega)]
      exact ⟨M, rfl, q1, q2, q3, q4, q5, q6⟩
    · have h1 := hM0.2 k (by omega)
      have h2 := hp k (by omega)
      rw [if_neg e, q3, ld_ok (by omega) (by omega), h1]
      simp only [Option.bind_some]
      rw [ie (by omega) (by omega), ie (by omega) (by omega)]
      by_cases q : ps k = 47
      · unfold p_X4_read_96
        rw [if_pos q, nI_add]
        have := ih (k + 1) M (by omega) (by omega) (by unfold RM; rw [rdX, if_pos q]; exact ⟨q1, q2, q3, q4, q5, q6⟩)
        rw [rdX, if_pos q] at this
        exact this
      · rw [if_neg q]
        -- a line is put
        have c61 : ∀ s : Nat, s = (if ps k = 46 then 0 else ps k) → ∃ M1, p_X4_read_61 (p_X4_read_14 m) (nI (rdX ps k).1) (nI k) (nI s) (nI 0 + nI (rdX ps k).1) M = some (nI (rdX ps pn).1, puO (va_up M1 0 (upd (M1 0) 120 (nI (rdX ps pn).1))) 4 (nI 0)) ∧ RM M1 M0 ps pn := by
          intro s hs
          unfold p_X4_read_61 p_X4_read_91
          rw [nI_add, nI_add, Nat.zero_add, st_ok (by omega) (by omega)]
          simp only [Option.bind_some]
          obtain ⟨N, hN⟩ : ∃ N : Ob, N = va_up M 0 (upd (M 0) (rdX ps k).1 (nI s)) := ⟨_, rfl⟩
          rw [← hN]
          have n3 : N 3 = M0 3 := by rw [hN]; exact q3
          have c92 : ∀ z : Nat, z = baN ps k → ∃ M1, p_X4_read_92 (p_X4_read_14 m) (nI (rdX ps k).1) (nI k) (nI z) (nI (60 + (rdX ps k).1)) N = some (nI (rdX ps pn).1, puO (va_up M1 0 (upd (M1 0) 120 (nI (rdX ps pn).1))) 4 (nI 0)) ∧ RM M1 M0 ps pn := by
            intro z hz
            unfold p_X4_read_92 p_X4_read_96
            rw [st_ok (by omega) (by omega)]
            simp only [Option.bind_some]
            rw [nI_add, nI_add]
            have := ih (k + 1) (va_up N 0 (upd (N 0) (60 + (rdX ps k).1) (nI z))) (by omega) (by omega) (by
              unfold RM
              rw [rdX, if_neg q, hN]
              refine ⟨q1, q2, q3, q4, fun r hr => ?_, fun j hj => ?_⟩
              · show upd (upd (M 0) _ _) _ _ (121 + r) = _
                rw [ud_n (by omega), ud_n (by omega)]; exact q5 r hr
              · have hj' : j < (rdX ps k).1 + 1 := hj
                show upd (upd (M 0) _ _) _ _ j = nI (va_up _ _ _ j) ∧ upd (upd (M 0) _ _) _ _ (60 + j) = nI (va_up _ _ _ j)
                by_cases w : j = (rdX ps k).1
                · rw [w, ud_n (by omega), ud_s, ud_s, up_s, up_s, ← hs, hz]
                  exact ⟨rfl, rfl⟩
                · rw [ud_n (by omega), ud_n w, ud_n (by omega), ud_n (by omega), up_n w, up_n w]
                  exact q6 j (by omega))
            rw [rdX, if_neg q] at this
            exact this
          rw [il (by omega) (by omega)]
          by_cases k0 : k ≤ 0
          · rw [if_pos k0]
            exact c92 0 (by unfold baN; rw [if_neg (fun x => x.1 (by omega))])
          · have h3 := hM0.2 (k - 1) (by omega)
            have h4 := hp (k - 1) (by omega)
            rw [if_neg k0, pk_sub (by omega), n3, ld_ok (by omega) (by omega), h3]
            simp only [Option.bind_some]
            rw [ie (by omega) (by omega)]
            by_cases w : ps (k - 1) = 47
            · rw [if_pos w]
              exact c92 1 (by unfold baN; rw [if_pos ⟨by omega, w⟩])
            · rw [if_neg w]
              exact c92 0 (by unfold baN; rw [if_neg (fun x => w x.2)])
        by_cases w : ps k = 46
        · rw [if_pos w]
          exact c61 0 (by rw [if_pos w])
        · rw [if_neg w]
          exact c61 (ps k) (by rw [if_neg w])
theorem k_read : K_read Inv := by
  intro S M hI
  have hI' := hI
  obtain ⟨⟨X, hT⟩, ⟨pn, ps, hP, hM⟩, J⟩ := hI
  obtain ⟨⟨n, sg, bk, ru⟩, hX⟩ : ∃ Y : TX, Y = X := ⟨_, rfl⟩
  subst hX
  obtain ⟨hB, hL, hSt, hR⟩ := hT
  have hSt' : StOK (M 0) n sg bk ru := hSt
  have hR' : RuR ru := hR
  obtain ⟨r, h1, h2, h3⟩ := fault_both hP hM
  unfold p_X3_read p_X4_read
  rw [h1, h2]
  simp only [Option.bind_some]
  rcases h3 with ⟨h3, hc⟩ | ⟨q, hq, h3⟩
  · rw [if_pos h3, h3, if_pos (show (-6 : Int32) < nI 0 by decide)]
    have hrl := rd_le (ps := ps) pn
    have hp2 := hP.2.1
    have hok := rd_ok hc pn (Nat.le_refl _)
    obtain ⟨B1, t1, t2, t3, t4⟩ := take_ok (B0 := S 2) hP hc
    obtain ⟨M1, u1, u2⟩ := read_ok hM hp2 (fun j hj => (hP.2.2 j hj).2) 200 0 M (Nat.zero_le _) (by omega) ⟨rfl, rfl, rfl, rfl, fun _ _ => rfl, fun j hj => absurd hj (Nat.not_lt_zero _)⟩
    have u1' : p_X4_read_14 200 (nI 0) (nI 0) M = some (nI (rdX ps pn).1, puO (va_up M1 0 (upd (M1 0) 120 (nI (rdX ps pn).1))) 4 (nI 0)) := u1
    obtain ⟨m1, m2, m3, m4, m5, m6⟩ := u2
    rw [t1, u1']
    simp only [Option.bind_some]
    have hBk : BkT B1 ((rdX ps pn).1, (rdX ps pn).2.1, (rdX ps pn).2.2, ru) := by
      obtain ⟨⟨b2, b3, b4, b9, b5⟩, b6, b7, b8⟩ := hB
      refine ⟨⟨by omega, fun j hj => ⟨(t4 j hj).1, (hok j hj).1⟩, fun q a b => by rw [t3]; exact b4 q a b, b9, b5⟩, t2, fun j hj => ⟨(t4 j hj).2, (hok j hj).2⟩, by rw [t3]; exact b8⟩
    have hSk : StT (puO (va_up M1 0 (upd (M1 0) 120 (nI (rdX ps pn).1))) 4 (nI 0) 0) ((rdX ps pn).1, (rdX ps pn).2.1, (rdX ps pn).2.2, ru) := by
      obtain ⟨s1, s2, s3, s4, s5⟩ := hSt'
      show StOK (upd (M1 0) 120 (nI (rdX ps pn).1)) _ _ _ _
      refine ⟨ud_s, by omega, fun j hj => ?_, fun r hr => ?_, s5⟩
      · rw [ud_n (by omega), ud_n (by omega)]
        exact ⟨(m6 j hj).1, (m6 j hj).2, (hok j hj).1, (hok j hj).2⟩
      · rw [ud_n (by omega), m5 r hr]; exact s4 r hr
    obtain ⟨L1, g1, g2⟩ := layNow_ok (S := va_up (va_up S 2 B1) 1 (puO (va_up S 2 B1 1) 1 (nI 0))) (X := ((rdX ps pn).1, (rdX ps pn).2.1, (rdX ps pn).2.2, ru)) hBk hR'
    rw [g1]
    simp only [Option.bind_some]
    refine ⟨nI (rdX ps pn).1, va_up (va_up (va_up S 2 B1) 1 (puO (va_up S 2 B1 1) 1 (nI 0))) 5 L1, puO (va_up M1 0 (upd (M1 0) 120 (nI (rdX ps pn).1))) 4 (nI 0), ?_, rfl, ⟨((rdX ps pn).1, (rdX ps pn).2.1, (rdX ps pn).2.2, ru), hBk, g2, hSk, hR'⟩, ⟨0, ps, ⟨rfl, by omega, fun j hj => by omega⟩, rfl, fun j hj => by omega⟩, J.keep rfl rfl rfl m1 m2⟩
    refine congrArg some (Prod.ext ?_ rfl)
    exact t2
  · rw [if_neg (by rw [h3]; exact n_ne6 (by omega)), h3, if_neg (n_neg q (by omega))]
    exact ⟨_, _, _, rfl, rfl, hI'⟩
end KREAD2
