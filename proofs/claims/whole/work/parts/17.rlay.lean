/-! the reference lays its pages -/
theorem r_in {a b c : Nat} (ha : a < 2000) (hb : b < 2000) (hc : c < 2000) : p_X4_in (nI a) (nI b) (nI c) = some (if b ≤ a ∧ a ≤ c then nI 1 else nI 0) := by
  unfold p_X4_in
  rw [it ha hb, it hc ha]
  by_cases h1 : a < b
  · rw [if_pos h1, if_neg (by omega)]
  · rw [if_neg h1]
    by_cases h2 : c < a
    · rw [if_pos h2, if_neg (by omega)]
    · rw [if_neg h2, if_pos (by omega)]
theorem r_isC {c : Nat} (h : c < 2000) : p_X4_isChapter (nI c) = some (if isC c = true then nI 1 else nI 0) := by
  unfold p_X4_isChapter
  rw [r_in h (by omega) (by omega)]
  simp only [Option.bind_some]
  by_cases e : isC c = true
  · rw [if_pos e, if_pos (isC_iff.mp e)]
  · rw [if_neg e, if_neg (fun x => e (isC_iff.mpr x))]
theorem r_isS {c : Nat} (h : c < 2000) : p_X4_isSection (nI c) = some (if isS c = true then nI 1 else nI 0) := by
  unfold p_X4_isSection
  rw [r_in h (by omega) (by omega)]
  simp only [Option.bind_some]
  by_cases e : isS c = true
  · rw [if_pos e, if_pos (isS_iff.mp e)]
  · rw [if_neg e, if_neg (fun x => e (isS_iff.mpr x))]
def StOK (st : Nat → Int32) (n : Nat) (sg bk ru : Nat → Nat) : Prop := st 120 = nI n ∧ n ≤ 60 ∧ (∀ j, j < n → st j = nI (sg j) ∧ st (60 + j) = nI (bk j) ∧ okS (sg j) ∧ bk j ≤ 1) ∧ (∀ r, r < 9 → st (121 + r) = nI (ru r) ∧ ru r ≤ 9) ∧ 1 ≤ ru 0
def Same (M M1 : Ob) : Prop := M1 0 = M 0 ∧ M1 1 = M 1 ∧ M1 2 = M 2 ∧ M1 3 = M 3 ∧ M1 4 = M 4 ∧ M1 11 = M 11
theorem Same.rf {M : Ob} : Same M M := ⟨rfl, rfl, rfl, rfl, rfl, rfl⟩
theorem Same.tr {M N K : Ob} (h : Same M N) (g : Same N K) : Same M K := ⟨g.1.trans h.1, g.2.1.trans h.2.1, g.2.2.1.trans h.2.2.1, g.2.2.2.1.trans h.2.2.2.1, g.2.2.2.2.1.trans h.2.2.2.2.1, g.2.2.2.2.2.trans h.2.2.2.2.2⟩
def MJ (M : Ob) (n : Nat) (sg bk ru : Nat → Nat) (k pg : Nat) : Prop := StOK (M 0) n sg bk ru ∧ M 10 0 = nI pg ∧ (∀ j, j < k → M 5 j = nI (pgOf sg bk ru j) ∧ M 6 j = nI (cnt sg bk ru j (pgOf sg bk ru j)) ∧ M 7 (2 * j) = frc sg ru (j + 1) 0 ∧ M 7 (2 * j + 1) = frc sg ru (j + 1) 1) ∧ (∀ p, 1 ≤ p → p ≤ pg → M 9 p = nI (cnt sg bk ru k p) ∧ M 8 p = (if cnt sg bk ru k p = 0 then -6 else nI (bef sg bk ru k p)))
def bgP (M : Ob) (pg : Nat) : Ob := va_up (va_up (puO M 10 (nI (pg + 1))) 8 (upd (M 8) (pg + 1) (-6))) 9 (upd (M 9) (pg + 1) (nI 0))
section RLAY
variable {sg bk ru : Nat → Nat} {n : Nat}
theorem begin_ok {M : Ob} {pg : Nat} (h : M 10 0 = nI pg) (hp : pg + 1 < 130) : p_X4_beginPage M = some (bgP M pg) := by
  unfold p_X4_beginPage
  simp only [Option.bind_some]
  rw [h, nI_add, show puO M 10 (nI (pg + 1)) 10 0 = nI (pg + 1) from rfl, st_ok hp (by omega)]
  simp only [Option.bind_some]
  rw [show (va_up (puO M 10 (nI (pg + 1))) 8 (upd (puO M 10 (nI (pg + 1)) 8) (pg + 1) (-6))) 10 0 = nI (pg + 1) from rfl, st_ok hp (by omega)]
  rfl
theorem bgP_MJ {M : Ob} {k pg : Nat} (h : MJ M n sg bk ru k pg) (hp : (curP sg bk ru k).1 < pg + 1) : MJ (bgP M pg) n sg bk ru k (pg + 1) := by
  obtain ⟨h1, h2, h3, h4⟩ := h
  refine ⟨h1, rfl, h3, fun p a b => ?_⟩
  show upd (M 9) (pg + 1) (nI 0) p = _ ∧ upd (M 8) (pg + 1) (-6) p = _
  by_cases e : p = pg + 1
  · subst e
    rw [ud_s, ud_s, cnt_new k hp, if_pos rfl]
    exact ⟨rfl, rfl⟩
  · rw [ud_n e, ud_n e]
    exact h4 p a (by omega)
theorem bgP_same (M : Ob) (pg : Nat) : Same M (bgP M pg) := ⟨rfl, rfl, rfl, rfl, rfl, rfl⟩
theorem turns_iff {k on : Nat} (k0 : ¬ k = 0) : turnsB sg bk ru k on = true ↔ bk k = 1 ∨ ru 0 ≤ on ∨ (isC (sg k) = true ∧ ru 1 ≠ 0) ∨ (sg k ≠ 0 ∧ ru 0 < on + 1 + ru 2) := by
  simp only [turnsB, Bool.or_eq_true, Bool.and_eq_true, beq_iff_eq, bne_iff_ne, ne_eq, decide_eq_true_eq]
  constructor
  · rintro ((((h | h) | h) | h) | h)
    · exact absurd h k0
    · exact Or.inl h
    · exact Or.inr (Or.inl h)
    · exact Or.inr (Or.inr (Or.inl h))
    · exact Or.inr (Or.inr (Or.inr h))
  · rintro (h | h | h | h)
    · exact Or.inl (Or.inl (Or.inl (Or.inr h)))
    · exact Or.inl (Or.inl (Or.inr h))
    · exact Or.inl (Or.inr h)
    · exact Or.inr h
theorem isNew54_ok {M : Ob} {on s : Nat} {h ke : Nat} (hh : M 0 121 = nI h) (hk : M 0 123 = nI ke) (a : on < h) (b : h ≤ 9) (c : ke ≤ 9) (d : s < 200) : p_X4_isNew_54 M (nI on) (nI s) = some (if s ≠ 0 ∧ h < on + 1 + ke then nI 1 else nI 0) := by
  unfold p_X4_isNew_54
  rw [ie (by omega) (by omega), ld_ok (i := 121) (by omega) (by omega), ld_ok (i := 123) (by omega) (by omega), hh, hk]
  simp only [Option.bind_some]
  rw [pk_sub (show on ≤ h by omega), pk_sub (show 1 ≤ h - on by omega), il (by omega) (by omega)]
  by_cases e3 : s = 0
  · rw [if_pos e3, if_neg (fun x => x.1 e3)]
  · rw [if_neg e3]
    by_cases e4 : ke ≤ h - on - 1
    · rw [if_pos e4, if_neg (by omega)]
    · rw [if_neg e4, if_pos (by omega)]
theorem isNew_ok {M : Ob} {k : Nat} (hk : k < n) (hk1 : 1 ≤ k) (hM : StOK (M 0) n sg bk ru) : p_X4_isNew M (nI k) (nI (curP sg bk ru k).2) = some (if turnsB sg bk ru k (curP sg bk ru k).2 = true then nI 1 else nI 0) := by
  obtain ⟨s1, s2, s3, s4, s5⟩ := hM
  have hon := on_le (sg := sg) (bk := bk) s5 k
  obtain ⟨a1, a2, a3, a4⟩ := s3 k hk
  obtain ⟨r0, r0'⟩ : M 0 121 = nI (ru 0) ∧ ru 0 ≤ 9 := s4 0 (by omega)
  obtain ⟨r1, r1'⟩ : M 0 122 = nI (ru 1) ∧ ru 1 ≤ 9 := s4 1 (by omega)
  obtain ⟨r2, r2'⟩ : M 0 123 = nI (ru 2) ∧ ru 2 ≤ 9 := s4 2 (by omega)
  have hs := okS_lt a3
  have k0 : ¬ k = 0 := by omega
  generalize (curP sg bk ru k).2 = on at hon ⊢
  unfold p_X4_isNew
  rw [nI_add, nI_add, show (0 + k) = k by omega, ld_ok (i := k) (by omega) (by omega), a1]
  simp only [Option.bind_some]
  rw [ld_ok (i := 121) (by omega) (by omega), r0]
  simp only [Option.bind_some]
  rw [ie (by omega) (by omega), ld_ok (i := 60 + k) (by omega) (by omega), a2]
  simp only [Option.bind_some]
  rw [ie (by omega) (by omega), r_isC (by omega)]
  simp only [Option.bind_some]
  rw [ld_ok (i := 122) (by omega) (by omega), r1]
  simp only [Option.bind_some]
  rw [il (by omega) (by omega)]
  by_cases e1 : on = ru 0
  · rw [if_pos e1, if_pos ((turns_iff k0).mpr (Or.inr (Or.inl (by omega))))]
  · rw [if_neg e1]
    by_cases e2 : bk k = 1
    · rw [if_pos e2, if_pos ((turns_iff k0).mpr (Or.inl e2))]
    · rw [if_neg e2, isNew54_ok r0 r2 (by omega) r0' r2' hs]
      have tb : turnsB sg bk ru k on = true ↔ (isC (sg k) = true ∧ ru 1 ≠ 0) ∨ (sg k ≠ 0 ∧ ru 0 < on + 1 + ru 2) := by
        rw [turns_iff k0]
        constructor
        · rintro (h | h | h | h)
          · exact absurd h e2
          · omega
          · exact Or.inl h
          · exact Or.inr h
        · intro h; exact Or.inr (Or.inr h)
      by_cases e3 : isC (sg k) = true
      · rw [if_pos e3, if_neg (by decide)]
        by_cases e4 : ru 1 ≤ 0
        · rw [if_pos e4]
          by_cases e5 : (sg k ≠ 0 ∧ ru 0 < on + 1 + ru 2)
          · rw [if_pos e5, if_pos (tb.mpr (Or.inr e5))]
          · rw [if_neg e5, if_neg (fun x => by rcases tb.mp x with q | q; exact q.2 (by omega); exact e5 q)]
        · rw [if_neg e4, if_pos (tb.mpr (Or.inl ⟨e3, by omega⟩))]
      · rw [if_neg e3, if_pos rfl]
        by_cases e5 : (sg k ≠ 0 ∧ ru 0 < on + 1 + ru 2)
        · rw [if_pos e5, if_pos (tb.mpr (Or.inr e5))]
        · rw [if_neg e5, if_neg (fun x => by rcases tb.mp x with q | q; exact e3 q.1; exact e5 q)]
theorem layForce_ok {M : Ob} {k : Nat} (hk : k < n) (hM : StOK (M 0) n sg bk ru) (h : 1 ≤ k → M 7 (2 * (k - 1)) = frc sg ru k 0 ∧ M 7 (2 * (k - 1) + 1) = frc sg ru k 1) : ∃ M1, p_X4_layForce (nI k) M = some M1 ∧ Same M M1 ∧ M1 5 = M 5 ∧ M1 6 = M 6 ∧ M1 8 = M 8 ∧ M1 9 = M 9 ∧ M1 10 = M 10 ∧ M1 7 (2 * k) = frc sg ru (k + 1) 0 ∧ M1 7 (2 * k + 1) = frc sg ru (k + 1) 1 ∧ ∀ j, j < 2 * k → M1 7 j = M 7 j := by
  obtain ⟨s1, s2, s3, s4, s5⟩ := hM
  obtain ⟨a1, a2, a3, a4⟩ := s3 k hk
  have hs := okS_lt a3
  have r3 := s4 3 (by omega)
  unfold p_X4_layForce
  rw [nI_add, show 0 + k = k by omega, ld_ok (by omega) (by omega), a1]
  simp only [Option.bind_some]
  -- the two that go on
  have go : ∀ (m c : Nat) (X : Ob), c < 2 → (1 ≤ k → X 7 (2 * (k - 1) + c) = frc sg ru k c) → p_X4_layForce_11 (m + 1) (nI k) (nI (sg k)) (nI c) X = p_X4_layForce_11 m (nI k) (nI (sg k)) (nI (c + 1)) (va_up X 7 (upd (X 7) (2 * k + c) (frc sg ru k c))) := by
    intro m c X hc hX
    rw [p_X4_layForce_11, if_neg (by rw [n_le (by omega) (by omega)]; omega), il (by omega) (by omega)]
    unfold p_X4_layForce_46
    rw [pk_mul, nI_add, nI_add]
    by_cases k0 : k ≤ 0
    · have : k = 0 := by omega
      subst this
      rw [if_pos k0, st_ok (by omega) (by omega)]
      rfl
    · rw [if_neg k0, pk_sub (by omega), nI_add, show 2 * k - 2 + c = 2 * (k - 1) + c by omega, ld_ok (by omega) (by omega), hX (by omega)]
      simp only [Option.bind_some]
      rw [st_ok (by omega) (by omega)]
      rfl
  rw [go 199 0 M (by omega) (fun q => (h q).1)]
  obtain ⟨N1, hN1⟩ : ∃ N1 : Ob, N1 = va_up M 7 (upd (M 7) (2 * k + 0) (frc sg ru k 0)) := ⟨_, rfl⟩
  rw [← hN1, go 198 1 N1 (by omega) (fun q => by
    rw [hN1]
    show upd (M 7) (2 * k + 0) _ (2 * (k - 1) + 1) = _
    rw [ud_n (by omega)]; exact (h q).2)]
  obtain ⟨N2, hN2⟩ : ∃ N2 : Ob, N2 = va_up N1 7 (upd (N1 7) (2 * k + 1) (frc sg ru k 1)) := ⟨_, rfl⟩
  rw [← hN2]
  have b7 : N2 7 = upd (upd (M 7) (2 * k) (frc sg ru k 0)) (2 * k + 1) (frc sg ru k 1) := by rw [hN2, hN1]; rfl
  have b0 : N2 0 = M 0 := by rw [hN2, hN1]; rfl
  have sm : Same M N2 := by rw [hN2, hN1]; exact ⟨rfl, rfl, rfl, rfl, rfl, rfl⟩
  have o5 : N2 5 = M 5 := by rw [hN2, hN1]; rfl
  have o6 : N2 6 = M 6 := by rw [hN2, hN1]; rfl
  have o8 : N2 8 = M 8 := by rw [hN2, hN1]; rfl
  have o9 : N2 9 = M 9 := by rw [hN2, hN1]; rfl
  have o10 : N2 10 = M 10 := by rw [hN2, hN1]; rfl
  rw [p_X4_layForce_11, if_pos (by decide), r_isC (by omega), pk_mul, nI_add]
  simp only [Option.bind_some]
  unfold p_X4_layForce_104
  by_cases e1 : isC (sg k) = true
  · rw [if_pos e1, if_neg (by decide), st_ok (by omega) (by omega)]
    simp only [Option.bind_some]
    obtain ⟨N3, hN3⟩ : ∃ N3 : Ob, N3 = va_up N2 7 (upd (N2 7) (2 * k) (nI (sg k))) := ⟨_, rfl⟩
    rw [← hN3]
    have c0 : N3 0 = M 0 := by rw [hN3, ← b0]; rfl
    have c7 : N3 7 = upd (N2 7) (2 * k) (nI (sg k)) := by rw [hN3]; rfl
    have sm3 : Same M N3 := by rw [hN3]; exact sm.tr ⟨rfl, rfl, rfl, rfl, rfl, rfl⟩
    rw [c0, ld_ok (i := 124) (by omega) (by omega), r3.1]
    simp only [Option.bind_some]
    rw [ie (by omega) (by omega), ld_ok (by omega) (by omega)]
    simp only [Option.bind_some]
    rw [st_ok (by omega) (by omega), st_ok (by omega) (by omega)]
    simp only [Option.bind_some]
    have fin : ∀ z : Int32, z = frc sg ru (k + 1) 1 → ∃ M1, some (va_up N3 7 (upd (N3 7) (2 * k + 1) z)) = some M1 ∧ Same M M1 ∧ M1 5 = M 5 ∧ M1 6 = M 6 ∧ M1 8 = M 8 ∧ M1 9 = M 9 ∧ M1 10 = M 10 ∧ M1 7 (2 * k) = frc sg ru (k + 1) 0 ∧ M1 7 (2 * k + 1) = frc sg ru (k + 1) 1 ∧ ∀ j, j < 2 * k → M1 7 j = M 7 j := by
      intro z hz
      refine ⟨_, rfl, sm3.tr ⟨rfl, rfl, rfl, rfl, rfl, rfl⟩, by rw [hN3, ← o5]; rfl, by rw [hN3, ← o6]; rfl, by rw [hN3, ← o8]; rfl, by rw [hN3, ← o9]; rfl, by rw [hN3, ← o10]; rfl, ?_, ?_, fun j hj => ?_⟩
      · show upd (N3 7) (2 * k + 1) z (2 * k) = _
        rw [ud_n (by omega), c7, ud_s, frc, if_pos e1, if_pos rfl]
      · show upd (N3 7) (2 * k + 1) z (2 * k + 1) = _
        rw [ud_s, hz]
      · show upd (N3 7) (2 * k + 1) z j = _
        rw [ud_n (by omega), c7, ud_n (by omega), b7, ud_n (by omega), ud_n (by omega)]
    by_cases e2 : ru 3 = 1
    · rw [if_pos e2]
      exact fin _ (by rw [frc, if_pos e1, if_neg (show ¬ (1 : Nat) = 0 by decide), if_pos e2])
    · rw [if_neg e2]
      refine fin _ ?_
      rw [c7, ud_n (by omega), b7, ud_s, frc, if_pos e1, if_neg (show ¬ (1 : Nat) = 0 by decide), if_neg e2]
  · rw [if_neg e1, if_pos rfl, ie (by omega) (by omega)]
    by_cases e2 : sg k = 0
    · rw [if_pos e2]
      refine ⟨N2, rfl, sm, o5, o6, o8, o9, o10, ?_, ?_, fun j hj => ?_⟩
      · rw [b7, ud_n (by omega), ud_s, frc, if_neg e1, if_pos e2]
      · rw [b7, ud_s, frc, if_neg e1, if_pos e2]
      · rw [b7, ud_n (by omega), ud_n (by omega)]
    · rw [if_neg e2, st_ok (by omega) (by omega)]
      refine ⟨_, rfl, sm.tr ⟨rfl, rfl, rfl, rfl, rfl, rfl⟩, o5, o6, o8, o9, o10, ?_, ?_, fun j hj => ?_⟩
      · show upd (N2 7) (2 * k + 1) _ (2 * k) = _
        rw [ud_n (by omega), b7, ud_n (by omega), ud_s, frc, if_neg e1, if_neg e2, if_pos rfl]
      · show upd (N2 7) (2 * k + 1) _ (2 * k + 1) = _
        rw [ud_s, frc, if_neg e1, if_neg e2, if_neg (show ¬ (1 : Nat) = 0 by decide)]
      · show upd (N2 7) (2 * k + 1) _ j = _
        rw [ud_n (by omega), b7, ud_n (by omega), ud_n (by omega)]
end RLAY
