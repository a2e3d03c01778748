/-! the class lays a book: pages -/
theorem p_classOf (c : Nat) (hc : c < 2000) : p_X3_classOf (nI c) = some (if isC c then nI 0 else if isS c then nI 1 else -6) := by
  unfold p_X3_classOf p_X3_classOf_14 isC isS
  simp (disch := omega) only [n_lt]
  by_cases h1 : c < 65
  · rw [if_pos h1]
    by_cases h2 : c < 97
    · rw [if_pos h2]; simp [show ¬ 65 ≤ c by omega, show ¬ 97 ≤ c by omega]
    · exact absurd h1 (by omega)
  · rw [if_neg h1]
    by_cases h2 : 72 < c
    · rw [if_pos h2]
      by_cases h3 : c < 97
      · rw [if_pos h3]; simp [show ¬ c ≤ 72 by omega, show ¬ 97 ≤ c by omega]
      · rw [if_neg h3]
        by_cases h4 : 104 < c
        · rw [if_pos h4]; simp [show ¬ c ≤ 72 by omega, show ¬ c ≤ 104 by omega]
        · rw [if_neg h4]; simp [show ¬ c ≤ 72 by omega, show c ≤ 104 by omega, show 97 ≤ c by omega]
    · rw [if_neg h2]; simp [show 65 ≤ c by omega, show c ≤ 72 by omega]
theorem isC_sgC (c : Nat) : isC (sgC c) = isC c := by
  unfold sgC
  split
  · rename_i h; subst h; rfl
  · rfl
theorem isS_sgC (c : Nat) : isS (sgC c) = isS c := by
  unfold sgC
  split
  · rename_i h; subst h; rfl
  · rfl
theorem sgC_lt {c : Nat} (h : okS c) : sgC c < 200 := by
  have := okS_lt h
  unfold sgC
  split <;> omega
theorem isLeft_ok {p : Nat} (h : p < 2000) : p_X1_isLeft (nI p) = some (if p % 2 = 0 then nI 1 else nI 0) := by
  unfold p_X1_isLeft
  rw [n_mod h]
  simp (disch := omega) only [n_eq]
  split <;> rfl
/-- a book as the class keeps it -/
def BkOK (B : Ob) (n : Nat) (sg bk ru : Nat → Nat) : Prop := B 3 0 = nI n ∧ n ≤ 60 ∧ (∀ j, j < n → B 0 j = nI (sgC (sg j)) ∧ B 1 j = nI (bk j) ∧ okS (sg j) ∧ bk j ≤ 1) ∧ (∀ r, r < 9 → B 2 r = nI (ru r)) ∧ 2 ≤ ru 0 ∧ ru 0 ≤ 9 ∧ ru 2 < ru 0 ∧ ru 1 ≤ 2 ∧ (∀ r, r < 9 → ru r ≤ 9) ∧ ru 3 ≤ 1 ∧ ru 4 ≤ 1 ∧ ru 5 ≤ 1 ∧ ru 6 ≤ 1 ∧ ru 7 ≤ 2 ∧ ru 8 ≤ 2
/-- as much of a book as the laying looks at: ru 0 is the height that is laid by -/
def BL (B : Ob) (n : Nat) (sg ru : Nat → Nat) : Prop := n ≤ 60 ∧ (∀ j, j < n → B 0 j = nI (sgC (sg j)) ∧ okS (sg j)) ∧ (∀ r, 1 ≤ r → r < 9 → B 2 r = nI (ru r)) ∧ (∀ r, r < 9 → ru r ≤ 9) ∧ 1 ≤ ru 0
def addP (L : Ob) (pg k : Nat) : Ob := va_up (va_up (va_up (va_up (puO L 10 (nI (pg + 1))) 4 (upd (L 4) (pg + 1) (nI k))) 5 (upd (L 5) (pg + 1) (nI 0))) 6 (upd (L 6) (pg + 1) (-6))) 7 (upd (L 7) (pg + 1) (-6))
theorem addPage_ok {L : Ob} {pg k : Nat} (h : L 10 0 = nI pg) (hp : pg + 1 < 120) : p_X1_addPage (nI k) L = some (addP L pg k) := by
  unfold p_X1_addPage
  rw [h, if_pos (show nI pg < nI 119 by rw [n_lt (by omega) (by omega)]; omega)]
  simp only [Option.bind_some]
  rw [nI_add]
  have e : puO L 10 (nI (pg + 1)) 10 0 = nI (pg + 1) := rfl
  rw [e, st_ok hp (by omega)]
  simp only [Option.bind_some]
  rw [show (va_up (puO L 10 (nI (pg + 1))) 4 (upd (puO L 10 (nI (pg + 1)) 4) (pg + 1) (nI k))) 10 0 = nI (pg + 1) from rfl, st_ok hp (by omega)]
  simp only [Option.bind_some]
  rw [p_X1_addPage_42, if_neg (by decide), if_pos rfl]
  rw [show (va_up (va_up (puO L 10 (nI (pg + 1))) 4 (upd (puO L 10 (nI (pg + 1)) 4) (pg + 1) (nI k))) 5 (upd (va_up (puO L 10 (nI (pg + 1))) 4 (upd (puO L 10 (nI (pg + 1)) 4) (pg + 1) (nI k)) 5) (pg + 1) (nI 0))) 10 0 = nI (pg + 1) from rfl, st_ok hp (by omega)]
  simp only [Option.bind_some]
  rw [p_X1_addPage_42, if_neg (by decide), if_neg (by decide), if_pos (by decide)]
  generalize hx : va_up (va_up (va_up (puO L 10 (nI (pg + 1))) 4 _) 5 _) 6 _ = X
  have hX : X = va_up (va_up (va_up (puO L 10 (nI (pg + 1))) 4 (upd (L 4) (pg + 1) (nI k))) 5 (upd (L 5) (pg + 1) (nI 0))) 6 (upd (L 6) (pg + 1) (-6)) := by rw [← hx]; rfl
  have hX10 : X 10 0 = nI (pg + 1) := by rw [hX]; rfl
  rw [hX10, st_ok hp (by omega)]
  simp only [Option.bind_some]
  rw [p_X1_addPage_42, if_pos (by decide), hX]
  rfl
/-- k lines laid, the last page pg -/
def LJ (L : Ob) (n : Nat) (sg bk ru : Nat → Nat) (k pg : Nat) : Prop := L 9 0 = nI n ∧ L 10 0 = nI pg ∧ (∀ j, j < k → L 0 j = nI (pgOf sg bk ru j) ∧ L 1 j = nI (chn sg (j + 1)) - nI 1 ∧ L 2 j = frc sg ru (j + 1) 0 ∧ L 3 j = frc sg ru (j + 1) 1) ∧ (∀ p, 1 ≤ p → p ≤ pg → L 4 p = nI (bef sg bk ru k p) ∧ L 5 p = nI (cnt sg bk ru k p) ∧ L 6 p = own sg bk ru k 0 p ∧ L 7 p = own sg bk ru k 1 p)
section CLAY
variable {sg bk ru : Nat → Nat} {n : Nat}
theorem addP_LJ {L : Ob} {k pg : Nat} (h : LJ L n sg bk ru k pg) (hp : (curP sg bk ru k).1 < pg + 1) : LJ (addP L pg k) n sg bk ru k (pg + 1) := by
  obtain ⟨h1, h2, h3, h4⟩ := h
  refine ⟨h1, rfl, h3, fun p hp1 hp2 => ?_⟩
  show upd (L 4) (pg + 1) (nI k) p = _ ∧ upd (L 5) (pg + 1) (nI 0) p = _ ∧ upd (L 6) (pg + 1) (-6) p = _ ∧ upd (L 7) (pg + 1) (-6) p = _
  by_cases e : p = pg + 1
  · subst e
    rw [ud_s, ud_s, ud_s, ud_s, bef_all k hp, cnt_new k hp, own_new k hp, own_new k hp]
    exact ⟨rfl, rfl, rfl, rfl⟩
  · rw [ud_n e, ud_n e, ud_n e, ud_n e]
    exact h4 p hp1 (by omega)
theorem turnPage_ok {B L : Ob} {k : Nat} (hB : BL B n sg ru) (hk : k < n) (h : LJ L n sg bk ru k (curP sg bk ru k).1) : ∃ L1, p_X1_turnPage B (nI k) L = some L1 ∧ LJ L1 n sg bk ru k (newP sg ru k (curP sg bk ru k).1) := by
  obtain ⟨b2, b3, b4, b9, b5⟩ := hB
  have hr1 := b9 1 (by omega)
  have hpg : (curP sg bk ru k).1 + 2 < 121 := by
    rcases Nat.eq_zero_or_pos k with q | q
    · subst q; show 0 + 2 < 121; omega
    · have := cur_pos (sg := sg) (bk := bk) (ru := ru) k q; omega
  generalize hg : (curP sg bk ru k).1 = pg at h hpg
  have h1 := addP_LJ h (by omega)
  unfold p_X1_turnPage
  rw [addPage_ok h.2.1 (by omega)]
  simp only [Option.bind_some]
  rw [show (nI 1) = nI 1 from rfl, ld_ok (i := 1) (by omega) (by omega), b4 1 (by omega) (by omega)]
  simp only [Option.bind_some]
  have hsg := (b3 k hk).1
  have hok := (b3 k hk).2
  simp (disch := omega) only [n_eq]
  unfold newP
  by_cases e1 : ru 1 = 2
  · rw [if_pos e1, ld_ok (by omega) (by omega), hsg]
    simp only [Option.bind_some]
    rw [p_classOf _ (by have := sgC_lt hok; omega), isC_sgC, isS_sgC]
    simp only [Option.bind_some]
    by_cases e2 : isC (sg k) = true
    · rw [if_pos e2, if_pos rfl]
      unfold p_X1_turnPage_32
      rw [if_neg (by decide), show addP L pg k 10 0 = nI (pg + 1) from rfl, isLeft_ok (by omega)]
      simp only [Option.bind_some]
      by_cases e3 : (pg + 1) % 2 = 0
      · have e9 : ¬ (pg + 1 = 0 ∧ False) := fun x => x.2
        rw [if_pos e3, if_neg (by decide), addPage_ok (pg := pg + 1) rfl (by omega)]
        refine ⟨_, rfl, ?_⟩
        rw [if_pos ⟨e1, e2, e3⟩]
        exact addP_LJ h1 (by omega)
      · rw [if_neg e3, if_pos (by decide)]
        refine ⟨_, rfl, ?_⟩
        rw [if_neg (fun x => e3 x.2.2)]
        exact h1
    · rw [if_neg e2]
      have h0 : ¬ ((if isS (sg k) = true then nI 1 else -6) = nI 0) := by split <;> decide
      rw [if_neg h0]
      refine ⟨_, rfl, ?_⟩
      rw [if_neg (fun x => e2 x.2.1)]
      exact h1
  · rw [if_neg e1]
    refine ⟨_, rfl, ?_⟩
    rw [if_neg (fun x => e1 x.1)]
    exact h1
theorem opensPage_ok {B L : Ob} {k : Nat} (hB : BL B n sg ru) (hk : k < n) (hk1 : 1 ≤ k) (hL : LJ L n sg bk ru k (curP sg bk ru k).1) : p_X1_opensPage L B (nI k) (nI (ru 0)) = some (if (ru 0 ≤ (curP sg bk ru k).2 ∨ (isC (sg k) = true ∧ ru 1 ≠ 0) ∨ (sg k ≠ 0 ∧ ru 0 < (curP sg bk ru k).2 + 1 + ru 2)) then nI 1 else nI 0) := by
  obtain ⟨b2, b3, b4, b9, b5⟩ := hB
  have hon := on_le (sg := sg) (bk := bk) b5 k
  have hc := cur_pos (sg := sg) (bk := bk) (ru := ru) k hk1
  have h5 := (hL.2.2.2 _ hc.1 (Nat.le_refl _)).2.1
  rw [cnt_cur k hk1] at h5
  have h10 := hL.2.1
  have hh := b9 0 (by omega)
  generalize ru 0 = h at hon hh b5 ⊢
  generalize (curP sg bk ru k) = cu at hon hc h5 h10 ⊢
  obtain ⟨pg, on⟩ := cu
  simp only at hon hc h5 h10 ⊢
  have hsg := (b3 k hk).1
  have hok := (b3 k hk).2
  have hru1 := b9 1 (by omega)
  have hru2 := b9 2 (by omega)
  unfold p_X1_opensPage
  rw [ld_ok (i := k) (by omega) (by omega), hsg]
  simp only [Option.bind_some]
  rw [p_classOf _ (by have := sgC_lt hok; omega), isC_sgC, isS_sgC]
  simp only [Option.bind_some]
  rw [h10, ld_ok (i := pg) (by omega) (by omega), h5]
  simp only [Option.bind_some]
  unfold p_X1_opensPage_45 p_X1_opensPage_63
  by_cases e1 : h ≤ on
  · have e2 : on = h := by omega
    subst e2
    rw [if_pos (by rw [pk_sub (Nat.le_refl _)]; exact pk_sneg (by omega) (by omega)), if_pos (Or.inl e1)]
  · rw [pk_sub (show on ≤ h by omega), pk_sub (show 1 ≤ h - on by omega), if_neg (by rw [n_lt (by omega) (by omega)]; omega)]
    rw [ld_ok (i := 1) (by omega) (by omega), ld_ok (i := 2) (by omega) (by omega), b4 1 (by omega) (by omega), b4 2 (by omega) (by omega)]
    simp only [Option.bind_some]
    simp (disch := omega) only [n_le, n_eq]
    by_cases e2 : isC (sg k) = true
    · have e3 : sg k ≠ 0 := by have := isC_iff.mp e2; omega
      rw [if_pos e2, if_pos rfl, if_neg (show ¬ nI 0 = (-6 : Int32) by decide)]
      by_cases e4 : ru 1 = 0
      · rw [if_pos e4]
        by_cases e5 : ru 2 ≤ h - on - 1
        · rw [if_pos e5, if_neg (by omega)]
        · rw [if_neg e5, if_pos (by omega)]
      · rw [if_neg e4, if_pos (Or.inr (Or.inl ⟨e2, e4⟩))]
    · have e0 : ¬ ((if isS (sg k) = true then nI 1 else -6) = nI 0) := by split <;> decide
      rw [if_neg e2, if_neg e0]
      by_cases e3 : isS (sg k) = true
      · have e6 : sg k ≠ 0 := by have := isS_iff.mp e3; omega
        rw [if_pos e3, if_neg (show ¬ nI 1 = (-6 : Int32) by decide)]
        by_cases e5 : ru 2 ≤ h - on - 1
        · rw [if_pos e5, if_neg (fun x => by rcases x with x | x | x <;> first | omega | exact e2 x.1)]
        · rw [if_neg e5, if_pos (Or.inr (Or.inr ⟨e6, by omega⟩))]
      · have e6 : sg k = 0 := by
          rcases hok with q | q | q
          · exact q
          · exact absurd q e2
          · exact absurd q e3
        rw [if_neg e3, if_pos rfl, if_neg (fun x => by rcases x with x | x | x <;> first | omega | exact e2 x.1)]
end CLAY
