/-! the class lays a book: all lines, all heads -/
theorem ud_ud {f : Nat → Int32} {k : Nat} {v w : Int32} : upd (upd f k v) k w = upd f k w := by
  funext j
  unfold upd
  split <;> rfl
def headP (n : Nat) (sg bk ru : Nat → Nat) (p : Nat) : Int32 :=
  if cnt sg bk ru n p = 0 then -6 else if ru 4 = 1 ∧ isC (sg (bef sg bk ru n p)) = true then -6 else
  (fun (c how : Nat) => if how = 2 then frc sg ru (bef sg bk ru n p + cnt sg bk ru n p) c else if how = 1 ∧ own sg bk ru n c p ≠ -6 then own sg bk ru n c p else frc sg ru (bef sg bk ru n p) c) (if p % 2 = 0 then ru 5 else ru 6) (if p % 2 = 0 then ru 7 else ru 8)
def markP (n : Nat) (sg bk ru : Nat → Nat) (p c how : Nat) : Int32 := if how = 2 then frc sg ru (bef sg bk ru n p + cnt sg bk ru n p) c else if how = 1 ∧ own sg bk ru n c p ≠ -6 then own sg bk ru n c p else frc sg ru (bef sg bk ru n p) c
section CLAY3
variable {sg bk ru : Nat → Nat} {n : Nat}
theorem LJ_step {L L1 : Ob} {k pg : Nat} (hpg : pg = pgOf sg bk ru k) (h : LJ L n sg bk ru k pg) (e9 : L1 9 = L 9) (e10 : L1 10 = L 10) (e0 : L1 0 = upd (L 0) k (nI pg)) (e1 : L1 1 = upd (L 1) k (nI (chn sg (k + 1)) - nI 1)) (e2 : L1 2 = upd (L 2) k (frc sg ru (k + 1) 0)) (e3 : L1 3 = upd (L 3) k (frc sg ru (k + 1) 1)) (e4 : L1 4 = L 4) (e5 : L1 5 = upd (L 5) pg (nI (cnt sg bk ru k pg + 1)))
    (e6 : ∀ p, 1 ≤ p → p ≤ pg → L1 6 p = own sg bk ru (k + 1) 0 p) (e7 : ∀ p, 1 ≤ p → p ≤ pg → L1 7 p = own sg bk ru (k + 1) 1 p) : LJ L1 n sg bk ru (k + 1) pg := by
  obtain ⟨h1, h2, h3, h4⟩ := h
  refine ⟨by rw [e9]; exact h1, by rw [e10]; exact h2, fun j hj => ?_, fun p hp1 hp2 => ?_⟩
  · rw [e0, e1, e2, e3]
    by_cases e : j = k
    · subst e
      rw [ud_s, ud_s, ud_s, ud_s]
      exact ⟨by rw [hpg], rfl, rfl, rfl⟩
    · rw [ud_n e, ud_n e, ud_n e, ud_n e]
      exact h3 j (by omega)
  · obtain ⟨g4, g5, -, -⟩ := h4 p hp1 hp2
    refine ⟨?_, ?_, e6 p hp1 hp2, e7 p hp1 hp2⟩
    · rw [e4, g4, bef, if_neg (by omega)]; rfl
    · rw [e5, cnt]
      by_cases e : p = pg
      · subst e; rw [ud_s, if_pos hpg.symm]
      · rw [ud_n e, g5, if_neg (by omega)]; rfl
theorem pgOf_lt {k : Nat} (hk : k < 60) : pgOf sg bk ru k < 120 := by
  have := cur_pos (sg := sg) (bk := bk) (ru := ru) (k + 1) (by omega)
  show (curP sg bk ru (k + 1)).1 < 120
  omega
theorem putLine_ok {B L : Ob} {k pg : Nat} (hB : BL B n sg ru) (hk : k < n) (hpg : pg = pgOf sg bk ru k) (h : LJ L n sg bk ru k pg) : ∃ L1, p_X1_putLine B (nI k) L = some L1 ∧ LJ L1 n sg bk ru (k + 1) pg := by
  obtain ⟨b2, b3, b4, b9, b5⟩ := hB
  have hpl : pg < 120 := by rw [hpg]; exact pgOf_lt (by omega)
  have hpp : 1 ≤ pg := by rw [hpg]; exact pgOf_pos k
  have h' := h
  obtain ⟨h1, h2, h3, h4⟩ := h'
  obtain ⟨g4, g5, g6, g7⟩ := h4 pg hpp (Nat.le_refl _)
  have hsg := (b3 k hk).1
  have hok := (b3 k hk).2
  rw [putLine_pre (sg := sg) (ru := ru) (by omega) hpl h2 g5 (fun q => by have := (h3 (k - 1) (by omega)).2.1; rw [show k - 1 + 1 = k by omega] at this; exact this) (fun q => by have := (h3 (k - 1) (by omega)).2.2.1; rw [show k - 1 + 1 = k by omega] at this; exact this) (fun q => by have := (h3 (k - 1) (by omega)).2.2.2; rw [show k - 1 + 1 = k by omega] at this; exact this)]
  rw [ld_ok (by omega) (by omega), hsg]
  simp only [Option.bind_some]
  rw [p_classOf _ (by have := sgC_lt hok; omega), isC_sgC, isS_sgC]
  simp only [Option.bind_some]
  obtain ⟨N, hN⟩ : ∃ N : Ob, N = plN L k pg (cnt sg bk ru k pg) (nI (chn sg k) - nI 1) (frc sg ru k 0) (frc sg ru k 1) := ⟨_, rfl⟩
  rw [← hN]
  have own_ne : ∀ (c p : Nat), p ≠ pg → own sg bk ru (k + 1) c p = own sg bk ru k c p := fun c p hp => by rw [own, if_neg (by omega)]
  by_cases e1 : isC (sg k) = true
  · have es : sgC (sg k) = sg k := by have := isC_iff.mp e1; unfold sgC; rw [if_neg (by omega)]
    have ec : clsN (sg k) = 0 := by unfold clsN; rw [if_pos e1]
    rw [if_pos e1, if_neg (by decide)]
    obtain ⟨L1, q0, q1, q2, q3, q4, q5, q6, q7, q8, q9, q10⟩ := putMark_0 (ru := ru) (B := B) (L := N) (k := k) (pg := pg) (sC := sg k) (o := own sg bk ru k 0 pg) (y := nI (chn sg k) - nI 1) (by omega) hpl (by rw [hsg, es]) (by rw [hN]; exact h2) (by rw [hN]; exact g6) (by rw [hN]; exact ud_s) (b4 3 (by omega) (by omega)) (b9 3 (by omega))
    rw [q0]
    refine ⟨L1, rfl, LJ_step hpg h (by rw [q9, hN]; rfl) (by rw [q10, hN]; rfl) (by rw [q1, hN]; rfl) ?_ ?_ ?_ (by rw [q5, hN]; rfl) (by rw [q6, hN]; rfl) (fun p hp1 hp2 => ?_) (fun p hp1 hp2 => ?_)⟩
    · rw [q2, hN, chn, if_pos e1]
      show upd (upd (L 1) k _) k _ = _
      rw [ud_ud, ← nI_add]
      congr 1
      rw [Int32.sub_add_cancel, Int32.add_sub_cancel]
    · rw [q3, hN, frc, if_pos e1, if_pos rfl]
      show upd (upd (L 2) k _) k _ = _
      rw [ud_ud]
    · rw [q4, hN, frc, if_pos e1, if_neg (show ¬ (1 : Nat) = 0 by decide)]
      by_cases er : ru 3 = 1
      · rw [if_pos er, if_pos er]
        show upd (upd (L 3) k _) k (-6) = _
        rw [ud_ud]
      · rw [if_neg er, if_neg er]; rfl
    · by_cases e : p = pg
      · subst e
        rw [q7, own]
        by_cases eo : own sg bk ru k 0 p = -6
        · rw [if_pos eo, if_pos ⟨hpg.symm, ec, eo⟩]; exact ud_s
        · rw [if_neg eo, if_neg (fun x => eo x.2.2), hN]; exact g6
      · rw [q7, own_ne 0 p e]
        have : (if own sg bk ru k 0 pg = -6 then upd (N 6) pg (nI (sg k)) else N 6) p = L 6 p := by
          split
          · rw [ud_n e, hN]; rfl
          · rw [hN]; rfl
        rw [this]; exact (h4 p hp1 hp2).2.2.1
    · rw [q8, hN, own, if_neg (fun x => by rw [ec] at x; omega)]
      exact (h4 p hp1 hp2).2.2.2
  · rw [if_neg e1]
    by_cases e2 : isS (sg k) = true
    · have es : sgC (sg k) = sg k := by have := isS_iff.mp e2; unfold sgC; rw [if_neg (by omega)]
      have e0 : sg k ≠ 0 := by have := isS_iff.mp e2; omega
      have ec : clsN (sg k) = 1 := by unfold clsN; rw [if_neg e1, if_pos e2]
      rw [if_pos e2, if_neg (by decide)]
      obtain ⟨L1, q0, q1, q2, q3, q4, q5, q6, q7, q8, q9, q10⟩ := putMark_1 (B := B) (L := N) (k := k) (pg := pg) (sC := sg k) (o := own sg bk ru k 1 pg) (by omega) hpl (by rw [hsg, es]) (by rw [hN]; exact h2) (by rw [hN]; exact g7)
      rw [q0]
      refine ⟨L1, rfl, LJ_step hpg h (by rw [q9, hN]; rfl) (by rw [q10, hN]; rfl) (by rw [q1, hN]; rfl) ?_ ?_ ?_ (by rw [q5, hN]; rfl) (by rw [q6, hN]; rfl) (fun p hp1 hp2 => ?_) (fun p hp1 hp2 => ?_)⟩
      · rw [q2, hN, chn, if_neg e1]; rfl
      · rw [q3, hN, frc, if_neg e1, if_neg e0, if_pos rfl]; rfl
      · rw [q4, hN, frc, if_neg e1, if_neg e0, if_neg (show ¬ (1 : Nat) = 0 by decide)]
        show upd (upd (L 3) k _) k _ = _
        rw [ud_ud]
      · rw [q7, hN, own, if_neg (fun x => by rw [ec] at x; omega)]
        exact (h4 p hp1 hp2).2.2.1
      · by_cases e : p = pg
        · subst e
          rw [q8, own]
          by_cases eo : own sg bk ru k 1 p = -6
          · rw [if_pos eo, if_pos ⟨hpg.symm, ec, eo⟩]; exact ud_s
          · rw [if_neg eo, if_neg (fun x => eo x.2.2), hN]; exact g7
        · rw [q8, own_ne 1 p e]
          have : (if own sg bk ru k 1 pg = -6 then upd (N 7) pg (nI (sg k)) else N 7) p = L 7 p := by
            split
            · rw [ud_n e, hN]; rfl
            · rw [hN]; rfl
          rw [this]; exact (h4 p hp1 hp2).2.2.2
    · have e0 : sg k = 0 := by
        rcases hok with q | q | q
        · exact q
        · exact absurd q e1
        · exact absurd q e2
      have ec : clsN (sg k) = 2 := by unfold clsN; rw [if_neg e1, if_neg e2]
      rw [if_neg e2, if_pos rfl]
      refine ⟨N, rfl, LJ_step hpg h (by rw [hN]; rfl) (by rw [hN]; rfl) (by rw [hN]; rfl) ?_ ?_ ?_ (by rw [hN]; rfl) (by rw [hN]; rfl) (fun p hp1 hp2 => ?_) (fun p hp1 hp2 => ?_)⟩
      · rw [hN, chn, if_neg e1]; rfl
      · rw [hN, frc, if_neg e1, if_pos e0]; rfl
      · rw [hN, frc, if_neg e1, if_pos e0]; rfl
      · rw [hN, own, if_neg (fun x => by rw [ec] at x; omega)]
        exact (h4 p hp1 hp2).2.2.1
      · rw [hN, own, if_neg (fun x => by rw [ec] at x; omega)]
        exact (h4 p hp1 hp2).2.2.2
/-- as the class asks whether the break ahead of a line is there, one line turned about -/
def flp (bk : Nat → Nat) (f : Option Nat) (j : Nat) : Nat := if some j = f then 1 - bk j else bk j
def flI (f : Option Nat) : Int32 := match f with
  | none => -1
  | some j => nI j
theorem lay_head {B : Ob} {bk0 : Nat → Nat} {f : Option Nat} (hB : BL B n sg ru) (hb : ∀ j, j < n → B 1 j = nI (bk0 j) ∧ bk0 j ≤ 1) (hf : ∀ j, f = some j → j < 60) (hbk : bk = flp bk0 f) : ∀ (m k : Nat) (L : Ob), k ≤ n → n < k + m → LJ L n sg bk ru k (curP sg bk ru k).1 → ∃ L1, p_X1_lay_16 B m (nI (ru 0)) (flI f) (nI k) L = p_X1_lay_106 B 200 (nI 1) L1 ∧ LJ L1 n sg bk ru n (curP sg bk ru n).1 := by
  have hn := hB.1
  have hr0 := hB.2.2.2.1 0 (by omega)
  intro m
  induction m with
  | zero => intro k L h1 h2; omega
  | succ m ih =>
    intro k L hk hm h
    rw [p_X1_lay_16, h.1, il (by omega) (by omega)]
    by_cases e : n ≤ k
    · have : k = n := by omega
      subst this
      rw [if_pos e]
      exact ⟨L, rfl, h⟩
    · rw [if_neg e]
      have hk2 : k < n := by omega
      obtain ⟨hb1, hb2⟩ := hb k hk2
      rw [ld_ok (by omega) (by omega), hb1]
      simp only [Option.bind_some]
      -- what is behind the tests
      have put : ∀ X : Ob, LJ X n sg bk ru k (pgOf sg bk ru k) → ∃ L1, p_X1_lay_90 B (p_X1_lay_16 B m) (nI (ru 0)) (flI f) (nI k) X = p_X1_lay_106 B 200 (nI 1) L1 ∧ LJ L1 n sg bk ru n (curP sg bk ru n).1 := by
        intro X hX
        unfold p_X1_lay_90
        obtain ⟨X1, g1, g2⟩ := putLine_ok hB hk2 rfl hX
        rw [g1]
        simp only [Option.bind_some]
        rw [nI_add]
        exact ih (k + 1) X1 (by omega) (by omega) g2
      have turn : turnsB sg bk ru k (curP sg bk ru k).2 = true → ∃ L1, p_X1_lay_83 B (p_X1_lay_16 B m) (nI (ru 0)) (flI f) (nI k) L = p_X1_lay_106 B 200 (nI 1) L1 ∧ LJ L1 n sg bk ru n (curP sg bk ru n).1 := by
        intro ht
        unfold p_X1_lay_83
        obtain ⟨X1, g1, g2⟩ := turnPage_ok hB hk2 h
        rw [g1]
        simp only [Option.bind_some]
        refine put X1 ?_
        have e : pgOf sg bk ru k = newP sg ru k (curP sg bk ru k).1 := by unfold pgOf; rw [curP, if_pos ht]
        rw [e]; exact g2
      have stay : ¬ turnsB sg bk ru k (curP sg bk ru k).2 = true → ∃ L1, p_X1_lay_90 B (p_X1_lay_16 B m) (nI (ru 0)) (flI f) (nI k) L = p_X1_lay_106 B 200 (nI 1) L1 ∧ LJ L1 n sg bk ru n (curP sg bk ru n).1 := by
        intro ht
        refine put L ?_
        have e : pgOf sg bk ru k = (curP sg bk ru k).1 := by unfold pgOf; rw [curP, if_neg ht]
        rw [e]; exact h
      have t60 : ∀ y : Nat, y ≤ 1 → (y = 1 ↔ bk k = 1) → ∃ L1, p_X1_lay_60 B (p_X1_lay_16 B m) (nI (ru 0)) (flI f) (nI k) (nI y) L = p_X1_lay_106 B 200 (nI 1) L1 ∧ LJ L1 n sg bk ru n (curP sg bk ru n).1 := by
        intro y hy hyb
        unfold p_X1_lay_60
        rw [ie (by omega) (by omega), ie (by omega) (by omega)]
        by_cases k0 : k = 0
        · rw [if_pos k0]
          exact turn (by simp [turnsB, k0])
        · rw [if_neg k0]
          by_cases y0 : y = 0
          · have nb : ¬ bk k = 1 := fun x => by have := hyb.mpr x; omega
            rw [if_pos y0, opensPage_ok hB hk2 (by omega) h]
            simp only [Option.bind_some]
            by_cases c : (ru 0 ≤ (curP sg bk ru k).2 ∨ (isC (sg k) = true ∧ ru 1 ≠ 0) ∨ (sg k ≠ 0 ∧ ru 0 < (curP sg bk ru k).2 + 1 + ru 2))
            · rw [if_pos c, if_neg (by decide)]
              refine turn ?_
              rcases c with c | c | c
              · simp [turnsB, c]
              · simp [turnsB, c.1, c.2]
              · simp [turnsB, c.1, c.2]
            · rw [if_neg c, if_pos rfl]
              refine stay (fun ht => c ?_)
              simp only [turnsB, Bool.or_eq_true, Bool.and_eq_true, beq_iff_eq, bne_iff_ne, ne_eq, decide_eq_true_eq] at ht
              rcases ht with (((ht | ht) | ht) | ht) | ht
              · exact absurd ht k0
              · exact absurd ht nb
              · exact Or.inl ht
              · exact Or.inr (Or.inl ht)
              · exact Or.inr (Or.inr ht)
          · rw [if_neg y0]
            have b1 : bk k = 1 := hyb.mp (by omega)
            exact turn (by simp [turnsB, b1])
      have t41 : ∀ y : Nat, y = bk0 k → ∃ L1, p_X1_lay_41 B (p_X1_lay_16 B m) (nI (ru 0)) (flI f) (nI k) (nI y) L = p_X1_lay_106 B 200 (nI 1) L1 ∧ LJ L1 n sg bk ru n (curP sg bk ru n).1 := by
        intro y hy
        unfold p_X1_lay_41 p_X1_lay_52
        have hfl : (nI k = flI f) ↔ some k = f := by
          cases hff : f with
          | none =>
            refine ⟨fun x => ?_, fun x => by cases x⟩
            exfalso
            have h2 := congrArg Int32.toInt (show nI k = (-1 : Int32) from x)
            rw [nI_toInt (by omega)] at h2
            have h3 : (-1 : Int32).toInt = -1 := by decide
            omega
          | some j =>
            have hj := hf j hff
            show nI k = nI j ↔ some k = some j
            rw [n_eq (by omega) (by omega)]
            exact ⟨fun x => by rw [x], fun x => Option.some.inj x⟩
        have hbv : bk k = if some k = f then 1 - bk0 k else bk0 k := by rw [hbk]; rfl
        by_cases c : some k = f
        · rw [if_pos (hfl.mpr c), ie (by omega) (by omega)]
          rw [if_pos c] at hbv
          by_cases y1 : y = 1
          · rw [if_pos y1]; exact t60 0 (by omega) (by omega)
          · rw [if_neg y1]; exact t60 1 (by omega) (by omega)
        · rw [if_neg (fun x => c (hfl.mp x)), ie (by omega) (by omega)]
          rw [if_neg c] at hbv
          by_cases y0 : y = 0
          · rw [if_pos y0]; exact t60 0 (by omega) (by omega)
          · rw [if_neg y0]; exact t60 1 (by omega) (by omega)
      rw [ie (by omega) (by omega)]
      by_cases c : bk0 k = 1
      · rw [if_pos c]; exact t41 1 c.symm
      · rw [if_neg c]; exact t41 0 (by omega)
end CLAY3
