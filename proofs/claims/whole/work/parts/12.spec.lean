/-! the pure part: numbers, and what the document's words come to -/
theorem ld_ok {f : Nat → Int32} {n i : Nat} (h : i < n) (hn : n ≤ 300) : ldI f n (nI i) = some (f i) := by
  unfold ldI
  rw [if_neg (nI_in h (by omega)), nI_clamp (by omega)]
theorem st_ok {L : Ob} {k n i : Nat} {x : Int32} (h : i < n) (hn : n ≤ 300) : stO L k n (nI i) x = some (va_up L k (upd (L k) i x)) := by
  unfold stO
  rw [if_neg (nI_in h (by omega)), nI_clamp (by omega)]
theorem n_le {a b : Nat} (ha : a < 2000) (hb : b < 2000) : (nI a ≤ nI b) = (a ≤ b) := propext (nI_leI (by omega) (by omega))
theorem n_lt {a b : Nat} (ha : a < 2000) (hb : b < 2000) : (nI a < nI b) = (a < b) := propext (nI_ltI (by omega) (by omega))
theorem n_eq {a b : Nat} (ha : a < 2000) (hb : b < 2000) : (nI a = nI b) = (a = b) := propext (nI_eq (by omega) (by omega))
theorem il {α : Type} {a b : Nat} {x y : α} (ha : a < 2000) (hb : b < 2000) : (if nI a ≤ nI b then x else y) = (if a ≤ b then x else y) := by simp only [n_le ha hb]
theorem it {α : Type} {a b : Nat} {x y : α} (ha : a < 2000) (hb : b < 2000) : (if nI a < nI b then x else y) = (if a < b then x else y) := by simp only [n_lt ha hb]
theorem ie {α : Type} {a b : Nat} {x y : α} (ha : a < 2000) (hb : b < 2000) : (if nI a = nI b then x else y) = (if a = b then x else y) := by simp only [n_eq ha hb]
theorem up_s {α : Type} {f : Nat → α} {k : Nat} {v : α} : va_up f k v k = v := if_pos rfl
theorem up_n {α : Type} {f : Nat → α} {k j : Nat} {v : α} (h : j ≠ k) : va_up f k v j = f j := if_neg h
theorem ud_s {f : Nat → Int32} {k : Nat} {v : Int32} : upd f k v k = v := if_pos rfl
theorem ud_n {f : Nat → Int32} {k j : Nat} {v : Int32} (h : j ≠ k) : upd f k v j = f j := if_neg h
theorem n_ne6 {a : Nat} (ha : a < 2000) : ¬ nI a = (-6 : Int32) := by
  intro h
  have h2 := congrArg Int32.toInt h
  rw [nI_toInt (by omega)] at h2
  have h3 : (-6 : Int32).toInt = -6 := by decide
  omega
theorem n_mod {a : Nat} (ha : a < 2000) : nI a - nI a / nI 2 * nI 2 = nI (a % 2) := pk_rem (by omega) (by omega) (by omega)
-- signs
def isC (c : Nat) : Bool := decide (65 ≤ c) && decide (c ≤ 72)
def isS (c : Nat) : Bool := decide (97 ≤ c) && decide (c ≤ 104)
theorem isC_iff {c : Nat} : isC c = true ↔ 65 ≤ c ∧ c ≤ 72 := by simp [isC]
theorem isS_iff {c : Nat} : isS c = true ↔ 97 ≤ c ∧ c ≤ 104 := by simp [isS]
/-- a line's sign: 0 none, else a letter -/
def okS (c : Nat) : Prop := c = 0 ∨ isC c = true ∨ isS c = true
/-- the sign as the class keeps it -/
def sgC (c : Nat) : Nat := if c = 0 then 46 else c
theorem okS_lt {c : Nat} (h : okS c) : c < 200 := by
  rcases h with h | h | h
  · omega
  · have := isC_iff.mp h; omega
  · have := isS_iff.mp h; omega
-- pages
def turnsB (sg bk ru : Nat → Nat) (k on : Nat) : Bool := (k == 0) || (bk k == 1) || decide (ru 0 ≤ on) || (isC (sg k) && ru 1 != 0) || (sg k != 0 && decide (ru 0 < on + 1 + ru 2))
def newP (sg ru : Nat → Nat) (k pg : Nat) : Nat := if ru 1 = 2 ∧ isC (sg k) = true ∧ (pg + 1) % 2 = 0 then pg + 2 else pg + 1
def curP (sg bk ru : Nat → Nat) : Nat → Nat × Nat
  | 0 => (0, 0)
  | k + 1 => if turnsB sg bk ru k (curP sg bk ru k).2 then (newP sg ru k (curP sg bk ru k).1, 1) else ((curP sg bk ru k).1, (curP sg bk ru k).2 + 1)
def pgOf (sg bk ru : Nat → Nat) (k : Nat) : Nat := (curP sg bk ru (k + 1)).1
def cnt (sg bk ru : Nat → Nat) : Nat → Nat → Nat
  | 0, _ => 0
  | k + 1, p => cnt sg bk ru k p + (if pgOf sg bk ru k = p then 1 else 0)
def bef (sg bk ru : Nat → Nat) : Nat → Nat → Nat
  | 0, _ => 0
  | k + 1, p => bef sg bk ru k p + (if pgOf sg bk ru k < p then 1 else 0)
def frc (sg ru : Nat → Nat) : Nat → Nat → Int32
  | 0, _ => -6
  | k + 1, c => if isC (sg k) then (if c = 0 then nI (sg k) else (if ru 3 = 1 then -6 else frc sg ru k c)) else (if sg k = 0 then frc sg ru k c else (if c = 0 then frc sg ru k c else nI (sg k)))
def clsN (c : Nat) : Nat := if isC c then 0 else if isS c then 1 else 2
def own (sg bk ru : Nat → Nat) : Nat → Nat → Nat → Int32
  | 0, _, _ => -6
  | k + 1, c, p => if pgOf sg bk ru k = p ∧ clsN (sg k) = c ∧ own sg bk ru k c p = -6 then nI (sg k) else own sg bk ru k c p
def chn (sg : Nat → Nat) : Nat → Nat
  | 0 => 0
  | k + 1 => chn sg k + (if isC (sg k) then 1 else 0)
section SPEC
variable {sg bk ru : Nat → Nat}
theorem newP_le (k pg : Nat) : pg + 1 ≤ newP sg ru k pg ∧ newP sg ru k pg ≤ pg + 2 := by
  unfold newP
  split <;> omega
theorem cur_mono (k : Nat) : (curP sg bk ru k).1 ≤ (curP sg bk ru (k + 1)).1 ∧ (curP sg bk ru (k + 1)).1 ≤ (curP sg bk ru k).1 + 2 := by
  rw [curP]
  have := newP_le (sg := sg) (ru := ru) k (curP sg bk ru k).1
  split
  · exact ⟨by show _ ≤ newP _ _ _ _; omega, this.2⟩
  · exact ⟨Nat.le_refl _, Nat.le_add_right _ _⟩
theorem cur_one : curP sg bk ru 1 = (1, 1) := by
  rw [curP]
  have h : turnsB sg bk ru 0 (curP sg bk ru 0).2 = true := by simp [turnsB]
  rw [if_pos h]
  have h0 : (curP sg bk ru 0).1 = 0 := rfl
  rw [h0, newP, if_neg (by omega)]
theorem cur_pos : ∀ k : Nat, 1 ≤ k → 1 ≤ (curP sg bk ru k).1 ∧ (curP sg bk ru k).1 + 1 ≤ 2 * k ∧ 1 ≤ (curP sg bk ru k).2
  | 0, h => absurd h (by omega)
  | 1, _ => by rw [cur_one]; exact ⟨Nat.le_refl _, Nat.le_refl _, Nat.le_refl _⟩
  | k + 2, _ => by
    have ih := cur_pos (k + 1) (by omega)
    have h2 := cur_mono (sg := sg) (bk := bk) (ru := ru) (k + 1)
    rw [show k + 2 = k + 1 + 1 from rfl]
    refine ⟨by omega, by omega, ?_⟩
    rw [curP]
    split
    · exact Nat.le_refl _
    · exact Nat.le_add_left _ _
theorem cur_le {j k : Nat} (h : j ≤ k) : (curP sg bk ru j).1 ≤ (curP sg bk ru k).1 := by
  induction k with
  | zero => rw [Nat.le_zero.mp h]; exact Nat.le_refl _
  | succ k ih =>
    rcases Nat.lt_or_ge j (k + 1) with q | q
    · exact Nat.le_trans (ih (by omega)) (cur_mono k).1
    · rw [show j = k + 1 by omega]; exact Nat.le_refl _
theorem pgOf_le {j k : Nat} (h : j < k) : pgOf sg bk ru j ≤ (curP sg bk ru k).1 := cur_le h
theorem pgOf_ge {j k : Nat} (h : k ≤ j) : (curP sg bk ru k).1 ≤ pgOf sg bk ru j := cur_le (Nat.le_succ_of_le h)
theorem pgOf_mono {i j : Nat} (h : i ≤ j) : pgOf sg bk ru i ≤ pgOf sg bk ru j := cur_le (Nat.succ_le_succ h)
theorem pgOf_pos (j : Nat) : 1 ≤ pgOf sg bk ru j := (cur_pos (j + 1) (by omega)).1
theorem bef_all {p : Nat} : ∀ k : Nat, (curP sg bk ru k).1 < p → bef sg bk ru k p = k
  | 0, _ => rfl
  | k + 1, h => by
    rw [bef, bef_all k (Nat.lt_of_le_of_lt (cur_mono k).1 h), if_pos (show pgOf sg bk ru k < p from h)]
theorem cnt_new {p : Nat} : ∀ k : Nat, (curP sg bk ru k).1 < p → cnt sg bk ru k p = 0
  | 0, _ => rfl
  | k + 1, h => by
    rw [cnt, cnt_new k (Nat.lt_of_le_of_lt (cur_mono k).1 h), if_neg (fun e => by have : pgOf sg bk ru k < p := h; omega)]
theorem own_new {p c : Nat} : ∀ k : Nat, (curP sg bk ru k).1 < p → own sg bk ru k c p = -6
  | 0, _ => rfl
  | k + 1, h => by
    rw [own, own_new k (Nat.lt_of_le_of_lt (cur_mono k).1 h), if_neg (fun e => by have : pgOf sg bk ru k < p := h; omega)]
theorem bef_keep {p : Nat} {j : Nat} (h : p ≤ pgOf sg bk ru j) : ∀ k : Nat, j ≤ k → bef sg bk ru k p = bef sg bk ru j p := by
  intro k
  induction k with
  | zero => intro hk; rw [show j = 0 by omega]
  | succ k ih =>
    intro hk
    rcases Nat.lt_or_ge j (k + 1) with q | q
    · rw [bef, ih (by omega), if_neg (Nat.not_lt.mpr (Nat.le_trans h (pgOf_mono (by omega))))]; rfl
    · rw [show j = k + 1 by omega]
theorem cnt_keep {p : Nat} {j : Nat} (h : p < pgOf sg bk ru j) : ∀ k : Nat, j ≤ k → cnt sg bk ru k p = cnt sg bk ru j p := by
  intro k
  induction k with
  | zero => intro hk; rw [show j = 0 by omega]
  | succ k ih =>
    intro hk
    rcases Nat.lt_or_ge j (k + 1) with q | q
    · rw [cnt, ih (by omega), if_neg (by have := pgOf_mono (sg := sg) (bk := bk) (ru := ru) (show j ≤ k by omega); omega)]; rfl
    · rw [show j = k + 1 by omega]
theorem cnt_cur : ∀ k : Nat, 1 ≤ k → cnt sg bk ru k (curP sg bk ru k).1 = (curP sg bk ru k).2
  | 0, h => absurd h (by omega)
  | k + 1, _ => by
    rw [cnt, if_pos (show pgOf sg bk ru k = (curP sg bk ru (k + 1)).1 from rfl)]
    by_cases ht : turnsB sg bk ru k (curP sg bk ru k).2 = true
    · have e : curP sg bk ru (k + 1) = (newP sg ru k (curP sg bk ru k).1, 1) := by rw [curP, if_pos ht]
      rw [e, cnt_new k (by have := newP_le (sg := sg) (ru := ru) k (curP sg bk ru k).1; show _ < newP _ _ _ _; omega)]
    · have e : curP sg bk ru (k + 1) = ((curP sg bk ru k).1, (curP sg bk ru k).2 + 1) := by rw [curP, if_neg ht]
      have hk : 1 ≤ k := by
        rcases Nat.eq_zero_or_pos k with q | q
        · subst q; exact absurd (by simp [turnsB]) ht
        · exact q
      rw [e]
      show cnt sg bk ru k (curP sg bk ru k).1 + 1 = _
      rw [cnt_cur k hk]
/-- lines ahead of a page and on it: all up to there -/
theorem bef_cnt {p : Nat} : ∀ k : Nat, (curP sg bk ru k).1 ≤ p → bef sg bk ru k p + cnt sg bk ru k p = k
  | 0, _ => rfl
  | k + 1, h => by
    have h1 : pgOf sg bk ru k ≤ p := h
    have ih := bef_cnt (p := p) k (Nat.le_trans (cur_mono k).1 h)
    rw [bef, cnt]
    by_cases e : pgOf sg bk ru k = p
    · rw [if_neg (by omega), if_pos e]; omega
    · rw [if_pos (by omega), if_neg e]; omega
theorem bef_le {p : Nat} : ∀ k : Nat, bef sg bk ru k p ≤ k
  | 0 => Nat.le_refl _
  | k + 1 => by
    rw [bef]
    have := bef_le (p := p) k
    split <;> omega
theorem cnt_le {p : Nat} : ∀ k : Nat, bef sg bk ru k p + cnt sg bk ru k p ≤ k
  | 0 => Nat.le_refl _
  | k + 1 => by
    rw [bef, cnt]
    have := cnt_le (p := p) k
    by_cases e : pgOf sg bk ru k = p
    · rw [if_neg (by omega), if_pos e]; omega
    · rw [if_neg e]; split <;> omega
theorem on_le (h2 : 1 ≤ ru 0) : ∀ k : Nat, (curP sg bk ru k).2 ≤ ru 0
  | 0 => Nat.zero_le _
  | k + 1 => by
    rw [curP]
    by_cases ht : turnsB sg bk ru k (curP sg bk ru k).2 = true
    · rw [if_pos ht]; exact h2
    · rw [if_neg ht]
      show _ + 1 ≤ ru 0
      rcases Nat.lt_or_ge (curP sg bk ru k).2 (ru 0) with q | q
      · exact q
      · exact absurd (by simp [turnsB, q]) ht
/-- a line's place on its page, told from the page's first line -/
theorem line_at (j : Nat) : bef sg bk ru j (pgOf sg bk ru j) + cnt sg bk ru j (pgOf sg bk ru j) = j := bef_cnt j (cur_mono j).1
end SPEC
