/-! the reference: marks and heads -/
section RMARK
variable {sg bk ru : Nat → Nat} {n : Nat}
theorem bef_lt {p : Nat} : ∀ (k j : Nat), j < k → (pgOf sg bk ru j < p ↔ j < bef sg bk ru k p)
  | 0, j, h => absurd h (by omega)
  | k + 1, j, h => by
    rw [bef]
    by_cases e : pgOf sg bk ru k < p
    · have hb : bef sg bk ru (k + 1) p = k + 1 := bef_all (k + 1) e
      rw [bef, if_pos e] at hb
      rw [if_pos e, hb]
      exact ⟨fun _ => h, fun _ => Nat.lt_of_le_of_lt (pgOf_mono (by omega)) e⟩
    · rw [if_neg e, Nat.add_zero]
      rcases Nat.lt_or_ge j k with q | q
      · exact bef_lt k j q
      · have : j = k := by omega
        subst this
        have := bef_le (sg := sg) (bk := bk) (ru := ru) (p := p) j
        exact ⟨fun x => absurd x e, fun x => by omega⟩
theorem bef_succ {p : Nat} : ∀ k : Nat, bef sg bk ru k (p + 1) = bef sg bk ru k p + cnt sg bk ru k p
  | 0 => rfl
  | k + 1 => by
    rw [bef, bef, cnt, bef_succ k]
    by_cases e : pgOf sg bk ru k = p
    · rw [if_pos (by omega), if_neg (by omega), if_pos e]; omega
    · rw [if_neg e]
      by_cases e2 : pgOf sg bk ru k < p
      · rw [if_pos (by omega), if_pos e2]; omega
      · rw [if_neg (by omega), if_neg e2]; omega
/-- the lines of a page stand one behind the other -/
theorem on_page {p j : Nat} (hj : j < n) : pgOf sg bk ru j = p ↔ bef sg bk ru n p ≤ j ∧ j < bef sg bk ru n p + cnt sg bk ru n p := by
  have h1 := bef_lt (sg := sg) (bk := bk) (ru := ru) (p := p) n j hj
  have h2 := bef_lt (sg := sg) (bk := bk) (ru := ru) (p := p + 1) n j hj
  rw [bef_succ] at h2
  constructor
  · intro e
    exact ⟨Nat.not_lt.mp (fun x => by have := h1.mpr x; omega), h2.mp (by omega)⟩
  · rintro ⟨a, b⟩
    have := h2.mpr b
    rcases Nat.lt_or_ge (pgOf sg bk ru j) p with q | q
    · have := h1.mp q; omega
    · omega
theorem own_none {c p : Nat} : ∀ k : Nat, (∀ j, j < k → pgOf sg bk ru j = p → clsN (sg j) ≠ c) → own sg bk ru k c p = -6
  | 0, _ => rfl
  | k + 1, h => by
    rw [own, own_none k (fun j hj => h j (by omega)), if_neg (fun x => h k (by omega) x.1 x.2.1)]
theorem own_some {c p j : Nat} (hp : pgOf sg bk ru j = p) (hc : clsN (sg j) = c) (hs : sg j < 200) (hf : ∀ i, i < j → pgOf sg bk ru i = p → clsN (sg i) ≠ c) : ∀ k : Nat, j < k → own sg bk ru k c p = nI (sg j)
  | 0, h => absurd h (by omega)
  | k + 1, h => by
    rw [own]
    rcases Nat.lt_or_ge j k with q | q
    · rw [own_some hp hc hs hf k q, if_neg (fun x => n_ne6 (by omega) x.2.2)]
    · have : j = k := by omega
      subst this
      rw [if_pos ⟨hp, hc, own_none j hf⟩]
theorem r_many {M : Ob} (hM : StOK (M 0) n sg bk ru) : p_X4_many M = some (nI n) := by
  unfold p_X4_many
  rw [ld_ok (i := 120) (by omega) (by omega), hM.1]
  rfl
theorem lineAhead_ok {M : Ob} {p pg : Nat} (hM : MJ M n sg bk ru n pg) (hp : p < 1000) : p_X4_lineAhead M (nI p) = some (nI (bef sg bk ru n p) - nI 1) := by
  have hn := hM.1.2.1
  have key : ∀ (m k : Nat), k ≤ n → n < k + m → p_X4_lineAhead_4 M m (nI p) (nI (bef sg bk ru k p) - nI 1) (nI k) = some (nI (bef sg bk ru n p) - nI 1) := by
    intro m
    induction m with
    | zero => intro k a b; omega
    | succ m ih =>
      intro k a b
      rw [p_X4_lineAhead_4, r_many hM.1]
      simp only [Option.bind_some]
      rw [il (by omega) (by omega)]
      by_cases e : n ≤ k
      · have : k = n := by omega
        subst this
        rw [if_pos e]
      · rw [if_neg e, ld_ok (by omega) (by omega), (hM.2.2.1 k (by omega)).1]
        simp only [Option.bind_some]
        have hl := pgOf_lt (sg := sg) (bk := bk) (ru := ru) (show k < 60 by omega)
        rw [il (by omega) (by omega)]
        unfold p_X4_lineAhead_27
        rw [nI_add]
        have ih' := ih (k + 1) (by omega) (by omega)
        by_cases c : p ≤ pgOf sg bk ru k
        · rw [if_pos c]
          rw [bef, if_neg (by omega)] at ih'
          exact ih'
        · rw [if_neg c]
          have hb : bef sg bk ru (k + 1) p = k + 1 := bef_all (k + 1) (by show pgOf sg bk ru k < p; omega)
          rw [hb, pk_sub (by omega)] at ih'
          exact ih'
  exact key 200 0 (Nat.zero_le _) (by omega)
theorem breakMark_ok {M : Ob} {m c pg : Nat} (hM : MJ M n sg bk ru n pg) (hm : m ≤ n) (hc : c < 2) : p_X4_breakMark M (nI m - nI 1) (nI c) = some (frc sg ru m c) := by
  have hn := hM.1.2.1
  unfold p_X4_breakMark
  rcases Nat.eq_zero_or_pos m with q | q
  · subst q
    rw [if_neg (by decide)]
    rfl
  · rw [pk_sub q, il (by omega) (by omega), if_pos (by omega), pk_mul, nI_add, ld_ok (by omega) (by omega)]
    obtain ⟨-, -, a, b⟩ := hM.2.2.1 (m - 1) (by omega)
    rw [show m - 1 + 1 = m by omega] at a b
    rcases (show c = 0 ∨ c = 1 by omega) with e | e <;> subst e
    · rw [Nat.add_zero, a]; rfl
    · rw [b]; rfl
theorem clsN_0 {c : Nat} : clsN c = 0 ↔ isC c = true := by
  unfold clsN
  by_cases e : isC c = true
  · rw [if_pos e]; exact ⟨fun _ => e, fun _ => rfl⟩
  · rw [if_neg e]; exact ⟨fun x => by split at x <;> omega, fun x => absurd x e⟩
theorem clsN_1 {c : Nat} : clsN c = 1 ↔ isS c = true := by
  unfold clsN
  by_cases e : isC c = true
  · rw [if_pos e]
    exact ⟨fun x => by omega, fun x => by have := isC_iff.mp e; have := isS_iff.mp x; omega⟩
  · rw [if_neg e]
    by_cases e2 : isS c = true
    · rw [if_pos e2]; exact ⟨fun _ => e2, fun _ => rfl⟩
    · rw [if_neg e2]; exact ⟨fun x => by omega, fun x => absurd x e2⟩
theorem firstMark_ok {M : Ob} {p c : Nat} (hM : MJ M n sg bk ru n (curP sg bk ru n).1) (hp1 : 1 ≤ p) (hp2 : p ≤ (curP sg bk ru n).1) (hc : c < 2) : p_X4_firstMark M (nI p) (nI c) = some (own sg bk ru n c p) := by
  have hn := hM.1.2.1
  have hpg := PG_lt (sg := sg) (bk := bk) (ru := ru) hn
  obtain ⟨g9, g8⟩ := hM.2.2.2 p hp1 hp2
  have hbc := cnt_le (sg := sg) (bk := bk) (ru := ru) (p := p) n
  have key : ∀ (m i : Nat), i ≤ cnt sg bk ru n p → cnt sg bk ru n p < i + m → (∀ j, j < i → clsN (sg (bef sg bk ru n p + j)) ≠ c) → p_X4_firstMark_2 M m (nI p) (nI c) (nI i) = some (own sg bk ru n c p) := by
    intro m
    induction m with
    | zero => intro i a b; omega
    | succ m ih =>
      intro i a b hno
      rw [p_X4_firstMark_2, ld_ok (by omega) (by omega), g9]
      simp only [Option.bind_some]
      rw [il (by omega) (by omega)]
      by_cases e : cnt sg bk ru n p ≤ i
      · rw [if_pos e]
        rw [own_none n (fun j hj hpj => by
          have := (on_page hj).mp hpj
          have h2 := hno (j - bef sg bk ru n p) (by omega)
          rw [show bef sg bk ru n p + (j - bef sg bk ru n p) = j by omega] at h2
          exact h2)]
      · rw [if_neg e, ld_ok (by omega) (by omega), g8, if_neg (by omega)]
        simp only [Option.bind_some]
        obtain ⟨a1, a2, a3, a4⟩ := hM.1.2.2.1 (bef sg bk ru n p + i) (by omega)
        have hs := okS_lt a3
        rw [nI_add, nI_add, show 0 + bef sg bk ru n p + i = bef sg bk ru n p + i by omega, ld_ok (by omega) (by omega), a1]
        simp only [Option.bind_some]
        rw [ie (by omega) (by omega), r_isC (by omega), r_isS (by omega)]
        simp only [Option.bind_some]
        unfold p_X4_firstMark_55
        rw [nI_add]
        have found : clsN (sg (bef sg bk ru n p + i)) = c → own sg bk ru n c p = nI (sg (bef sg bk ru n p + i)) := fun q => own_some ((on_page (n := n) (by omega)).mpr ⟨by omega, by omega⟩) q hs (fun j hj hpj => by
          have := (on_page (n := n) (by omega : j < n)).mp hpj
          have h2 := hno (j - bef sg bk ru n p) (by omega)
          rw [show bef sg bk ru n p + (j - bef sg bk ru n p) = j by omega] at h2
          exact h2) n (by omega)
        have next : clsN (sg (bef sg bk ru n p + i)) ≠ c → p_X4_firstMark_2 M m (nI p) (nI c) (nI (i + 1)) = some (own sg bk ru n c p) := fun q => ih (i + 1) (by omega) (by omega) (fun j hj => by
          rcases Nat.lt_or_ge j i with x | x
          · exact hno j x
          · rw [show j = i by omega]; exact q)
        rcases (show c = 0 ∨ c = 1 by omega) with ec | ec
        · rw [if_pos ec]
          by_cases eC : isC (sg (bef sg bk ru n p + i)) = true
          · rw [if_pos eC, if_neg (by decide), found (by rw [ec]; exact clsN_0.mpr eC)]
          · rw [if_neg eC, if_pos rfl]
            exact next (fun x => eC (clsN_0.mp (x.trans ec)))
        · rw [if_neg (by omega)]
          by_cases eS : isS (sg (bef sg bk ru n p + i)) = true
          · rw [if_pos eS, if_neg (by decide), found (by rw [ec]; exact clsN_1.mpr eS)]
          · rw [if_neg eS, if_pos rfl]
            exact next (fun x => eS (clsN_1.mp (x.trans ec)))
  exact key 200 0 (Nat.zero_le _) (by omega) (fun j hj => by omega)
theorem rmarkOf_ok {M : Ob} {p c how : Nat} (hM : MJ M n sg bk ru n (curP sg bk ru n).1) (hp1 : 1 ≤ p) (hp2 : p ≤ (curP sg bk ru n).1) (hc : c < 2) (hh : how ≤ 2) : p_X4_markOf M (nI p) (nI c) (nI how) = some (markP n sg bk ru p c how) := by
  have hn := hM.1.2.1
  have hpg := PG_lt (sg := sg) (bk := bk) (ru := ru) hn
  obtain ⟨g9, g8⟩ := hM.2.2.2 p hp1 hp2
  have hbc := cnt_le (sg := sg) (bk := bk) (ru := ru) (p := p) n
  unfold p_X4_markOf markP p_X4_markOf_43
  rw [lineAhead_ok hM (by omega)]
  simp only [Option.bind_some]
  rw [ie (by omega) (by omega), ie (by omega) (by omega)]
  rw [breakMark_ok hM (by omega) hc]
  simp only [Option.bind_some]
  by_cases e2 : how = 2
  · rw [if_pos e2, if_pos e2, ld_ok (by omega) (by omega), g9]
    simp only [Option.bind_some]
    rw [show nI (bef sg bk ru n p) - nI 1 + nI (cnt sg bk ru n p) = nI (bef sg bk ru n p + cnt sg bk ru n p) - nI 1 by rw [← nI_add, Int32.sub_eq_add_neg, Int32.sub_eq_add_neg, Int32.add_assoc, Int32.add_comm (-nI 1), ← Int32.add_assoc]]
    rw [breakMark_ok hM hbc hc]
    rfl
  · rw [if_neg e2, if_neg e2]
    by_cases e1 : how = 1
    · rw [if_pos e1, firstMark_ok hM hp1 hp2 hc]
      simp only [Option.bind_some]
      by_cases eo : own sg bk ru n c p = -6
      · rw [if_pos eo, if_neg (fun x => x.2 eo)]
      · rw [if_neg eo, if_pos ⟨e1, eo⟩]
    · rw [if_neg e1, if_pos trivial, if_neg (fun x => e1 x.1)]
theorem r_rule4 {st : Nat → Int32} (h : StOK st n sg bk ru) : st 125 = nI (ru 4) ∧ ru 4 ≤ 9 := h.2.2.2.1 4 (by omega)
theorem r_what {st : Nat → Int32} (h : StOK st n sg bk ru) (p : Nat) : ldI st 130 (nI (126 + p % 2)) = some (nI (if p % 2 = 0 then ru 5 else ru 6)) := by
  rw [ld_ok (by omega) (by omega)]
  rcases (show p % 2 = 0 ∨ p % 2 = 1 by omega) with e | e
  · have h5 := (h.2.2.2.1 5 (by omega)).1
    rw [if_pos e, ← h5, e]
  · have h5 := (h.2.2.2.1 6 (by omega)).1
    rw [if_neg (by omega), ← h5, e]
theorem r_how {st : Nat → Int32} (h : StOK st n sg bk ru) (p : Nat) : ldI st 130 (nI (128 + p % 2)) = some (nI (if p % 2 = 0 then ru 7 else ru 8)) := by
  rw [ld_ok (by omega) (by omega)]
  rcases (show p % 2 = 0 ∨ p % 2 = 1 by omega) with e | e
  · have h5 := (h.2.2.2.1 7 (by omega)).1
    rw [if_pos e, ← h5, e]
  · have h5 := (h.2.2.2.1 8 (by omega)).1
    rw [if_neg (by omega), ← h5, e]
theorem rheadOf_ok {M : Ob} {p : Nat} (hr : RuOK ru) (hM : MJ M n sg bk ru n (curP sg bk ru n).1) (hp1 : 1 ≤ p) (hp2 : p ≤ (curP sg bk ru n).1) : p_X4_headOf M (nI p) = some (headP n sg bk ru p) := by
  have hn := hM.1.2.1
  have hpg := PG_lt (sg := sg) (bk := bk) (ru := ru) hn
  obtain ⟨g9, g8⟩ := hM.2.2.2 p hp1 hp2
  have hbc := cnt_le (sg := sg) (bk := bk) (ru := ru) (p := p) n
  obtain ⟨r0, r5, r6, r7, r8, -⟩ := hr
  obtain ⟨q4, q4'⟩ := r_rule4 hM.1
  have h42 : p_X4_headOf_42 M (nI p) = some (markP n sg bk ru p (if p % 2 = 0 then ru 5 else ru 6) (if p % 2 = 0 then ru 7 else ru 8)) := by
    unfold p_X4_headOf_42
    rw [n_mod (by omega), nI_add, nI_add, r_what hM.1 p]
    simp only [Option.bind_some]
    rw [r_how hM.1 p]
    simp only [Option.bind_some]
    rw [rmarkOf_ok hM hp1 hp2 (by split <;> omega) (by split <;> omega)]
    rfl
  unfold p_X4_headOf
  rw [ld_ok (by omega) (by omega), g9, headP_eq]
  simp only [Option.bind_some]
  rw [ie (by omega) (by omega)]
  by_cases e0 : cnt sg bk ru n p = 0
  · rw [if_pos e0, if_pos e0]
  · rw [if_neg e0, if_neg e0, ld_ok (i := 125) (by omega) (by omega), q4]
    simp only [Option.bind_some]
    rw [ie (by omega) (by omega)]
    by_cases e4 : ru 4 = 1
    · obtain ⟨a1, a2, a3, a4⟩ := hM.1.2.2.1 (bef sg bk ru n p) (by omega)
      have hs := okS_lt a3
      rw [if_pos e4, ld_ok (by omega) (by omega), g8, if_neg e0]
      simp only [Option.bind_some]
      rw [nI_add, show 0 + bef sg bk ru n p = bef sg bk ru n p by omega, ld_ok (by omega) (by omega), a1]
      simp only [Option.bind_some]
      rw [r_isC (by omega)]
      simp only [Option.bind_some]
      by_cases ec : isC (sg (bef sg bk ru n p)) = true
      · rw [if_pos ec, if_neg (by decide), if_pos ⟨e4, ec⟩]
      · rw [if_neg ec, if_pos rfl, if_neg (fun x => ec x.2)]
        exact h42
    · rw [if_neg e4, if_neg (fun x => e4 x.1)]
      exact h42
end RMARK
