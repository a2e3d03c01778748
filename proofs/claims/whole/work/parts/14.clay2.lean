/-! the class lays a book: a line is put -/
section CLAY2
variable {sg bk ru : Nat → Nat} {n : Nat}
theorem forceBehind_ok {L : Ob} {c k : Nat} (hc : c < 2) (hk : k ≤ 60) (h : 1 ≤ k → L (2 + c) (k - 1) = frc sg ru k c) : p_X1_forceBehind L (nI c) (nI k) = some (frc sg ru k c) := by
  unfold p_X1_forceBehind
  rcases Nat.eq_zero_or_pos k with q | q
  · subst q; rw [if_pos rfl]; rfl
  · rw [if_neg (by rw [n_eq (by omega) (by omega)]; omega), pk_sub q]
    rcases (show c = 0 ∨ c = 1 by omega) with e | e <;> subst e
    · rw [if_pos rfl, ld_ok (by omega) (by omega), h q]; rfl
    · rw [if_neg (by decide), if_pos rfl, ld_ok (by omega) (by omega), h q]; rfl
def plN (L : Ob) (k pg c : Nat) (y f0 f1 : Int32) : Ob := va_up (va_up (va_up (va_up (va_up L 0 (upd (L 0) k (nI pg))) 5 (upd (L 5) pg (nI (c + 1)))) 1 (upd (L 1) k y)) 2 (upd (L 2) k f0)) 3 (upd (L 3) k f1)
theorem putLine_pre {B L : Ob} {k pg c : Nat} (hk : k < 60) (hpg : pg < 120) (h10 : L 10 0 = nI pg) (h5 : L 5 pg = nI c) (h1 : 1 ≤ k → L 1 (k - 1) = nI (chn sg k) - nI 1) (h2 : 1 ≤ k → L 2 (k - 1) = frc sg ru k 0) (h3 : 1 ≤ k → L 3 (k - 1) = frc sg ru k 1) :
    p_X1_putLine B (nI k) L = ((ldI (B 0) 60 (nI k)).bind fun v => ((p_X3_classOf v).bind fun w => (if w = (-6) then (some (plN L k pg c (nI (chn sg k) - nI 1) (frc sg ru k 0) (frc sg ru k 1))) else ((p_X1_putMark B (nI k) w (plN L k pg c (nI (chn sg k) - nI 1) (frc sg ru k 0) (frc sg ru k 1))).bind fun N => some N)))) := by
  unfold p_X1_putLine
  rw [h10, st_ok hk (by omega)]
  simp only [Option.bind_some]
  rw [show va_up L 0 (upd (L 0) k (nI pg)) 10 0 = nI pg from h10, show va_up L 0 (upd (L 0) k (nI pg)) 5 = L 5 from rfl, ld_ok hpg (by omega), h5]
  simp only [Option.bind_some]
  rw [st_ok hpg (by omega), nI_add]
  simp only [Option.bind_some]
  obtain ⟨N, hN⟩ : ∃ N : Ob, N = va_up (va_up L 0 (upd (L 0) k (nI pg))) 5 (upd (va_up L 0 (upd (L 0) k (nI pg)) 5) pg (nI (c + 1))) := ⟨_, rfl⟩
  rw [← hN]
  have n1 : N 1 = L 1 := by rw [hN]; rfl
  have n2 : N 2 = L 2 := by rw [hN]; rfl
  have n3 : N 3 = L 3 := by rw [hN]; rfl
  have key : ∀ y : Int32, p_X1_putLine_44 B (nI k) y (nI k) N = ((ldI (B 0) 60 (nI k)).bind fun v => ((p_X3_classOf v).bind fun w => (if w = (-6) then (some (plN L k pg c y (frc sg ru k 0) (frc sg ru k 1))) else ((p_X1_putMark B (nI k) w (plN L k pg c y (frc sg ru k 0) (frc sg ru k 1))).bind fun N => some N)))) := by
    intro y
    unfold p_X1_putLine_44
    rw [st_ok hk (by omega)]
    simp only [Option.bind_some]
    obtain ⟨N1, hN1⟩ : ∃ N1 : Ob, N1 = va_up N 1 (upd (N 1) k y) := ⟨_, rfl⟩
    rw [← hN1]
    have m2 : N1 2 = L 2 := by rw [hN1, ← n2]; rfl
    have m3 : N1 3 = L 3 := by rw [hN1, ← n3]; rfl
    rw [p_X1_putLine_47, if_neg (by decide), if_pos rfl, forceBehind_ok (sg := sg) (ru := ru) (c := 0) (by omega) (by omega) (fun q => by rw [show N1 (2 + 0) = L 2 from m2]; exact h2 q)]
    simp only [Option.bind_some]
    rw [st_ok hk (by omega)]
    simp only [Option.bind_some]
    obtain ⟨N2, hN2⟩ : ∃ N2 : Ob, N2 = va_up N1 2 (upd (N1 2) k (frc sg ru k 0)) := ⟨_, rfl⟩
    rw [← hN2]
    have k3 : N2 3 = L 3 := by rw [hN2, ← m3]; rfl
    rw [p_X1_putLine_47, if_neg (by decide), if_neg (by decide), if_pos (by decide), show nI 0 + nI 1 = nI 1 from rfl, forceBehind_ok (sg := sg) (ru := ru) (c := 1) (by omega) (by omega) (fun q => by rw [show N2 (2 + 1) = L 3 from k3]; exact h3 q)]
    simp only [Option.bind_some]
    rw [st_ok hk (by omega)]
    simp only [Option.bind_some]
    rw [p_X1_putLine_47, if_pos (by decide)]
    have hfin : va_up N2 3 (upd (N2 3) k (frc sg ru k 1)) = plN L k pg c y (frc sg ru k 0) (frc sg ru k 1) := by rw [hN2, hN1, hN]; rfl
    rw [hfin]
  rcases Nat.eq_zero_or_pos k with q | q
  · subst q
    rw [if_pos rfl, key (-1)]
    rfl
  · rw [if_neg (by rw [n_eq (by omega) (by omega)]; omega), pk_sub q, n1, ld_ok (by omega) (by omega), h1 q]
    simp only [Option.bind_some]
    exact key _
theorem putMark_0 {B L : Ob} {k pg sC : Nat} {o y : Int32} (hk : k < 60) (hpg : pg < 120) (hs : B 0 k = nI sC) (h10 : L 10 0 = nI pg) (h6 : L 6 pg = o) (h1 : L 1 k = y) (h3 : B 2 3 = nI (ru 3)) (hr : ru 3 ≤ 9) :
    ∃ L1, p_X1_putMark B (nI k) (nI 0) L = some L1 ∧ L1 0 = L 0 ∧ L1 1 = upd (L 1) k (y + nI 1) ∧ L1 2 = upd (L 2) k (nI sC) ∧ L1 3 = (if ru 3 = 1 then upd (L 3) k (-6) else L 3) ∧ L1 4 = L 4 ∧ L1 5 = L 5 ∧ L1 6 = (if o = -6 then upd (L 6) pg (nI sC) else L 6) ∧ L1 7 = L 7 ∧ L1 9 = L 9 ∧ L1 10 = L 10 := by
  unfold p_X1_putMark
  rw [if_pos rfl, ld_ok hk (by omega), hs]
  simp only [Option.bind_some]
  rw [st_ok hk (by omega)]
  simp only [Option.bind_some]
  obtain ⟨N, hN⟩ : ∃ N : Ob, N = va_up L 2 (upd (L 2) k (nI sC)) := ⟨_, rfl⟩
  rw [← hN]
  have a10 : N 10 0 = nI pg := by rw [hN]; exact h10
  have a6 : N 6 = L 6 := by rw [hN]; rfl
  rw [a10, a6, ld_ok hpg (by omega), h6]
  simp only [Option.bind_some]
  have key : ∀ X : Ob, X 1 k = y → ∃ L1, p_X1_putMark_47 B (nI k) (nI 0) X = some L1 ∧ L1 0 = X 0 ∧ L1 1 = upd (X 1) k (y + nI 1) ∧ L1 2 = X 2 ∧ L1 3 = (if ru 3 = 1 then upd (X 3) k (-6) else X 3) ∧ L1 4 = X 4 ∧ L1 5 = X 5 ∧ L1 6 = X 6 ∧ L1 7 = X 7 ∧ L1 9 = X 9 ∧ L1 10 = X 10 := by
    intro X hX
    unfold p_X1_putMark_47
    rw [if_pos rfl, ld_ok hk (by omega), hX]
    simp only [Option.bind_some]
    rw [st_ok hk (by omega), ld_ok (i := 3) (by omega) (by omega), h3]
    simp only [Option.bind_some]
    simp (disch := omega) only [n_eq]
    by_cases e : ru 3 = 1
    · rw [if_pos e, st_ok hk (by omega)]
      simp only [Option.bind_some]
      refine ⟨_, rfl, rfl, rfl, rfl, ?_, rfl, rfl, rfl, rfl, rfl, rfl⟩
      rw [if_pos e]; rfl
    · rw [if_neg e]
      refine ⟨_, rfl, rfl, rfl, rfl, ?_, rfl, rfl, rfl, rfl, rfl, rfl⟩
      rw [if_neg e]; rfl
  by_cases e : o = -6
  · rw [if_pos e, st_ok hpg (by omega)]
    simp only [Option.bind_some]
    obtain ⟨L1, q0, q1, q2, q3, q4, q5, q6, q7, q8, q9, q10⟩ := key (va_up N 6 (upd (N 6) pg (nI sC))) (by rw [hN]; exact h1)
    refine ⟨L1, q0, ?_, ?_, ?_, ?_, ?_, ?_, ?_, ?_, ?_, ?_⟩
    · rw [q1, hN]; rfl
    · rw [q2, hN]; rfl
    · rw [q3, hN]; rfl
    · rw [q4, hN]; rfl
    · rw [q5, hN]; rfl
    · rw [q6, hN]; rfl
    · rw [q7, hN, if_pos e]; rfl
    · rw [q8, hN]; rfl
    · rw [q9, hN]; rfl
    · rw [q10, hN]; rfl
  · rw [if_neg e]
    obtain ⟨L1, q0, q1, q2, q3, q4, q5, q6, q7, q8, q9, q10⟩ := key N (by rw [hN]; exact h1)
    refine ⟨L1, q0, ?_, ?_, ?_, ?_, ?_, ?_, ?_, ?_, ?_, ?_⟩
    · rw [q1, hN]; rfl
    · rw [q2, hN]; rfl
    · rw [q3, hN]; rfl
    · rw [q4, hN]; rfl
    · rw [q5, hN]; rfl
    · rw [q6, hN]; rfl
    · rw [q7, hN, if_neg e]; rfl
    · rw [q8, hN]; rfl
    · rw [q9, hN]; rfl
    · rw [q10, hN]; rfl
theorem putMark_1 {B L : Ob} {k pg sC : Nat} {o : Int32} (hk : k < 60) (hpg : pg < 120) (hs : B 0 k = nI sC) (h10 : L 10 0 = nI pg) (h7 : L 7 pg = o) :
    ∃ L1, p_X1_putMark B (nI k) (nI 1) L = some L1 ∧ L1 0 = L 0 ∧ L1 1 = L 1 ∧ L1 2 = L 2 ∧ L1 3 = upd (L 3) k (nI sC) ∧ L1 4 = L 4 ∧ L1 5 = L 5 ∧ L1 6 = L 6 ∧ L1 7 = (if o = -6 then upd (L 7) pg (nI sC) else L 7) ∧ L1 9 = L 9 ∧ L1 10 = L 10 := by
  unfold p_X1_putMark
  rw [if_neg (by decide), if_pos rfl, ld_ok hk (by omega), hs]
  simp only [Option.bind_some]
  rw [st_ok hk (by omega)]
  simp only [Option.bind_some]
  obtain ⟨N, hN⟩ : ∃ N : Ob, N = va_up L 3 (upd (L 3) k (nI sC)) := ⟨_, rfl⟩
  rw [← hN]
  have a10 : N 10 0 = nI pg := by rw [hN]; exact h10
  have a7 : N 7 = L 7 := by rw [hN]; rfl
  rw [a10, a7, ld_ok hpg (by omega), h7]
  simp only [Option.bind_some]
  have key : ∀ X : Ob, p_X1_putMark_47 B (nI k) (nI 1) X = some X := by
    intro X
    unfold p_X1_putMark_47
    rw [if_neg (by decide)]
  by_cases e : o = -6
  · rw [if_pos e, st_ok hpg (by omega)]
    simp only [Option.bind_some]
    refine ⟨_, key _, ?_, ?_, ?_, ?_, ?_, ?_, ?_, ?_, ?_, ?_⟩ <;> first | (rw [hN]; rfl) | (rw [if_pos e, hN]; rfl)
  · rw [if_neg e]
    refine ⟨_, key _, ?_, ?_, ?_, ?_, ?_, ?_, ?_, ?_, ?_, ?_⟩ <;> first | (rw [hN]; rfl) | (rw [if_neg e, hN]; rfl)
end CLAY2
