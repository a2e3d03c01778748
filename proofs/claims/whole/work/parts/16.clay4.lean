/-! the class: marks, heads, the whole layout -/
def LK (L : Ob) (n : Nat) (sg bk ru : Nat → Nat) : Prop := LJ L n sg bk ru n (curP sg bk ru n).1 ∧ ∀ p, 1 ≤ p → p ≤ (curP sg bk ru n).1 → L 8 p = headP n sg bk ru p
section CLAY4
variable {sg bk ru : Nat → Nat} {n : Nat}
theorem PG_lt (hn : n ≤ 60) : (curP sg bk ru n).1 < 120 := by
  rcases Nat.eq_zero_or_pos n with q | q
  · subst q; show 0 < 120; omega
  · have := cur_pos (sg := sg) (bk := bk) (ru := ru) n q; omega
theorem markOf_ok {L : Ob} {p c how : Nat} (hn : n ≤ 60) (hL : LJ L n sg bk ru n (curP sg bk ru n).1) (hp1 : 1 ≤ p) (hp2 : p ≤ (curP sg bk ru n).1) (hc : c < 2) (hh : how ≤ 2) : p_X1_markOf L (nI p) (nI c) (nI how) = some (markP n sg bk ru p c how) := by
  have hpg := PG_lt (sg := sg) (bk := bk) (ru := ru) hn
  obtain ⟨g4, g5, g6, g7⟩ := hL.2.2.2 p hp1 hp2
  have hbc := cnt_le (sg := sg) (bk := bk) (ru := ru) (p := p) n
  have hf : ∀ m : Nat, m ≤ n → p_X1_forceBehind L (nI c) (nI m) = some (frc sg ru m c) := fun m hm => forceBehind_ok (sg := sg) (ru := ru) hc (by omega) (fun q => by
    obtain ⟨-, -, a2, a3⟩ := hL.2.2.1 (m - 1) (by omega)
    rw [show m - 1 + 1 = m by omega] at a2 a3
    rcases (show c = 0 ∨ c = 1 by omega) with e | e <;> subst e
    · exact a2
    · exact a3)
  have h51 : p_X1_markOf_51 L (nI p) (nI c) = some (frc sg ru (bef sg bk ru n p) c) := by
    unfold p_X1_markOf_51
    rw [ld_ok (by omega) (by omega), g4]
    simp only [Option.bind_some]
    rw [hf _ (by omega)]
    rfl
  unfold p_X1_markOf markP
  rw [ie (by omega) (by omega), ie (by omega) (by omega), ie (by omega) (by omega), ie (by omega) (by omega)]
  by_cases e2 : how = 2
  · rw [if_pos e2, if_pos e2, ld_ok (by omega) (by omega), ld_ok (by omega) (by omega), g4, g5]
    simp only [Option.bind_some]
    rw [nI_add, hf _ (by omega)]
    rfl
  · rw [if_neg e2, if_neg e2, h51]
    by_cases e1 : how = 1
    · rw [if_pos e1]
      rcases (show c = 0 ∨ c = 1 by omega) with e | e <;> subst e
      · rw [if_pos rfl, ld_ok (by omega) (by omega), g6]
        simp only [Option.bind_some]
        by_cases eo : own sg bk ru n 0 p = -6
        · rw [if_pos eo, if_neg (fun x => x.2 eo)]
        · rw [if_neg eo, if_pos ⟨e1, eo⟩]
      · rw [if_neg (by decide), if_pos rfl, ld_ok (by omega) (by omega), g7]
        simp only [Option.bind_some]
        by_cases eo : own sg bk ru n 1 p = -6
        · rw [if_pos eo, if_neg (fun x => x.2 eo)]
        · rw [if_neg eo, if_pos ⟨e1, eo⟩]
    · rw [if_neg e1, if_neg (fun x => e1 x.1)]
theorem headP_eq (p : Nat) : headP n sg bk ru p = if cnt sg bk ru n p = 0 then -6 else if ru 4 = 1 ∧ isC (sg (bef sg bk ru n p)) = true then -6 else markP n sg bk ru p (if p % 2 = 0 then ru 5 else ru 6) (if p % 2 = 0 then ru 7 else ru 8) := rfl
def RuOK (ru : Nat → Nat) : Prop := 1 ≤ ru 0 ∧ ru 5 ≤ 1 ∧ ru 6 ≤ 1 ∧ ru 7 ≤ 2 ∧ ru 8 ≤ 2 ∧ ∀ r, r < 9 → ru r ≤ 9
theorem headOf_ok {B L : Ob} {p : Nat} (hB : BL B n sg ru) (hr : RuOK ru) (hL : LJ L n sg bk ru n (curP sg bk ru n).1) (hp1 : 1 ≤ p) (hp2 : p ≤ (curP sg bk ru n).1) : p_X1_headOf L B (nI p) = some (headP n sg bk ru p) := by
  obtain ⟨b2, b3, b4, b9, b5⟩ := hB
  obtain ⟨r0, r5, r6, r7, r8, -⟩ := hr
  have r4 := b9 4 (by omega)
  have hpg := PG_lt (sg := sg) (bk := bk) (ru := ru) b2
  obtain ⟨g4, g5, g6, g7⟩ := hL.2.2.2 p hp1 hp2
  have hbc := cnt_le (sg := sg) (bk := bk) (ru := ru) (p := p) n
  have h42 : p_X1_headOf_42 L B (nI p) = some (markP n sg bk ru p (if p % 2 = 0 then ru 5 else ru 6) (if p % 2 = 0 then ru 7 else ru 8)) := by
    unfold p_X1_headOf_42 p_X1_headOf_65 p_X1_headOf_90
    rw [isLeft_ok (by omega)]
    simp only [Option.bind_some]
    by_cases e : p % 2 = 0
    · simp only [if_pos e]
      rw [if_neg (by decide), ld_ok (i := 5) (by omega) (by omega), b4 5 (by omega) (by omega)]
      simp only [Option.bind_some]
      rw [if_neg (by decide), ld_ok (i := 7) (by omega) (by omega), b4 7 (by omega) (by omega)]
      simp only [Option.bind_some]
      rw [markOf_ok b2 hL hp1 hp2 (by omega) r7]
      rfl
    · simp only [if_neg e]
      rw [if_pos trivial, ld_ok (i := 6) (by omega) (by omega), b4 6 (by omega) (by omega)]
      simp only [Option.bind_some]
      rw [if_pos trivial, ld_ok (i := 8) (by omega) (by omega), b4 8 (by omega) (by omega)]
      simp only [Option.bind_some]
      rw [markOf_ok b2 hL hp1 hp2 (by omega) r8]
      rfl
  unfold p_X1_headOf
  rw [ld_ok (by omega) (by omega), g5, headP_eq]
  simp only [Option.bind_some]
  rw [ie (by omega) (by omega)]
  by_cases e0 : cnt sg bk ru n p = 0
  · rw [if_pos e0, if_pos e0]
  · rw [if_neg e0, if_neg e0, ld_ok (i := 4) (by omega) (by omega), b4 4 (by omega) (by omega)]
    simp only [Option.bind_some]
    rw [ie (by omega) (by omega)]
    by_cases e4 : ru 4 = 1
    · obtain ⟨s1, s2⟩ := b3 (bef sg bk ru n p) (by omega)
      rw [if_pos e4, ld_ok (by omega) (by omega), g4]
      simp only [Option.bind_some]
      rw [ld_ok (by omega) (by omega), s1]
      simp only [Option.bind_some]
      rw [p_classOf _ (by have := sgC_lt s2; omega), isC_sgC, isS_sgC]
      simp only [Option.bind_some]
      by_cases ec : isC (sg (bef sg bk ru n p)) = true
      · rw [if_pos ec, if_pos rfl, if_pos ⟨e4, ec⟩]
      · have h0 : ¬ ((if isS (sg (bef sg bk ru n p)) = true then nI 1 else -6) = nI 0) := by split <;> decide
        rw [if_neg ec, if_neg h0, if_neg (fun x => ec x.2)]
        exact h42
    · rw [if_neg e4, if_neg (fun x => e4 x.1)]
      exact h42
theorem heads_ok {B : Ob} (hB : BL B n sg ru) (hr : RuOK ru) : ∀ (m p : Nat) (L : Ob), 1 ≤ p → p ≤ (curP sg bk ru n).1 + 1 → (curP sg bk ru n).1 + 1 < p + m → LJ L n sg bk ru n (curP sg bk ru n).1 → (∀ q, 1 ≤ q → q < p → L 8 q = headP n sg bk ru q) → ∃ L1, p_X1_lay_106 B m (nI p) L = some L1 ∧ LK L1 n sg bk ru := by
  have hpg := PG_lt (sg := sg) (bk := bk) (ru := ru) hB.1
  intro m
  induction m with
  | zero => intro p L h1 h2 h3; omega
  | succ m ih =>
    intro p L h1 h2 h3 hL hq
    rw [p_X1_lay_106, hL.2.1, it (by omega) (by omega)]
    by_cases e : (curP sg bk ru n).1 < p
    · rw [if_pos e]
      exact ⟨L, rfl, hL, fun q a b => hq q a (by omega)⟩
    · rw [if_neg e, headOf_ok hB hr hL h1 (by omega)]
      simp only [Option.bind_some]
      rw [st_ok (by omega) (by omega)]
      simp only [Option.bind_some]
      rw [nI_add]
      refine ih (p + 1) _ (by omega) (by omega) (by omega) hL (fun q a b => ?_)
      show upd (L 8) p (headP n sg bk ru p) q = _
      by_cases c : q = p
      · subst c; exact ud_s
      · rw [ud_n c]; exact hq q a (by omega)
/-- THE CLASS LAYS A BOOK -/
theorem lay_ok {B L : Ob} {bk0 : Nat → Nat} {f : Option Nat} (hB : BL B n sg ru) (hr : RuOK ru) (h3 : B 3 0 = nI n) (hb : ∀ j, j < n → B 1 j = nI (bk0 j) ∧ bk0 j ≤ 1) (hf : ∀ j, f = some j → j < 60) (hbk : bk = flp bk0 f) : ∃ L1, p_X1_lay B (nI (ru 0)) (flI f) L = some L1 ∧ LK L1 n sg bk ru := by
  have hn := hB.1
  unfold p_X1_lay
  simp only [Option.bind_some]
  have h0 : LJ (puO (puO L 9 (B 3 0)) 10 (nI 0)) n sg bk ru 0 (curP sg bk ru 0).1 := ⟨by rw [← h3]; rfl, rfl, fun j hj => absurd hj (by omega), fun p a b => by have : p ≤ 0 := b; omega⟩
  obtain ⟨L1, g1, g2⟩ := lay_head hB hb hf hbk 200 0 _ (Nat.zero_le _) (by omega) h0
  rw [show (nI 0 : Int32) = nI 0 from rfl, g1]
  exact heads_ok hB hr 200 1 L1 (by omega) (by omega) (by have := PG_lt (sg := sg) (bk := bk) (ru := ru) hn; omega) g2 (fun q a b => by omega)
end CLAY4
