/-! counts over pages and lines -/
def pcn (f : Nat → Bool) : Nat → Nat
  | 0 => 0
  | m + 1 => pcn f m + (if f (m + 1) = true then 1 else 0)
def bsum (bk : Nat → Nat) : Nat → Nat
  | 0 => 0
  | l + 1 => bsum bk l + bk l
theorem pcn_le (f : Nat → Bool) : ∀ m, pcn f m ≤ m
  | 0 => Nat.le_refl _
  | m + 1 => by
    rw [pcn]
    have := pcn_le f m
    split <;> omega
theorem pcn_ext {f : Nat → Bool} {m : Nat} : ∀ k, m ≤ k → (∀ p, m < p → p ≤ k → ¬ f p = true) → pcn f k = pcn f m := by
  intro k
  induction k with
  | zero => intro h _; rw [show m = 0 by omega]
  | succ k ih =>
    intro h hf
    rcases Nat.lt_or_ge m (k + 1) with q | q
    · rw [pcn, ih (by omega) (fun p a b => hf p a (by omega)), if_neg (hf (k + 1) q (Nat.le_refl _))]; rfl
    · rw [show m = k + 1 by omega]
section COUNT
variable {sg bk ru : Nat → Nat} {n : Nat}
def blP (n : Nat) (sg bk ru : Nat → Nat) (p : Nat) : Bool := decide (cnt sg bk ru n p = 0)
def hdP (n : Nat) (sg bk ru : Nat → Nat) (p : Nat) : Bool := decide (headP n sg bk ru p ≠ -6)
theorem countBlank_ok {L : Ob} (hn : n ≤ 60) (hL : LK L n sg bk ru) : p_X1_countBlank L = some (nI (pcn (blP n sg bk ru) (curP sg bk ru n).1)) := by
  have hpg := PG_lt (sg := sg) (bk := bk) (ru := ru) hn
  have key : ∀ (m p : Nat), 1 ≤ p → p ≤ (curP sg bk ru n).1 + 1 → (curP sg bk ru n).1 + 1 < p + m → p_X1_countBlank_4 L m (nI (pcn (blP n sg bk ru) (p - 1))) (nI p) = some (nI (pcn (blP n sg bk ru) (curP sg bk ru n).1)) := by
    intro m
    induction m with
    | zero => intro p a b c; omega
    | succ m ih =>
      intro p a b c
      rw [p_X1_countBlank_4, hL.1.2.1, it (by omega) (by omega)]
      by_cases e : (curP sg bk ru n).1 < p
      · rw [if_pos e, show p - 1 = (curP sg bk ru n).1 by omega]
      · have ih' := ih (p + 1) (by omega) (by omega) (by omega)
        rw [show p + 1 - 1 = (p - 1) + 1 by omega, pcn, show p - 1 + 1 = p by omega] at ih'
        have hbc := cnt_le (sg := sg) (bk := bk) (ru := ru) (p := p) n
        rw [if_neg e, ld_ok (by omega) (by omega), (hL.1.2.2.2 p a (by omega)).2.1]
        simp only [Option.bind_some]
        unfold p_X1_countBlank_24
        rw [ie (by omega) (by omega), nI_add, nI_add]
        by_cases q : cnt sg bk ru n p = 0
        · rw [if_pos (by simp [blP, q])] at ih'
          rw [if_pos q]; exact ih'
        · rw [if_neg (by simp [blP, q])] at ih'
          rw [if_neg q]; exact ih'
  exact key 200 1 (by omega) (by omega) (by omega)
theorem countShared_ok {L : Ob} (hn : n ≤ 60) (hL : LK L n sg bk ru) : p_X1_countShared L = some (nI (pcn (shP n sg bk ru) (curP sg bk ru n).1)) := by
  have hpg := PG_lt (sg := sg) (bk := bk) (ru := ru) hn
  have key : ∀ (m p : Nat), 1 ≤ p → p ≤ (curP sg bk ru n).1 + 1 → (curP sg bk ru n).1 + 1 < p + m → p_X1_countShared_4 L m (nI (pcn (shP n sg bk ru) (p - 1))) (nI p) = some (nI (pcn (shP n sg bk ru) (curP sg bk ru n).1)) := by
    intro m
    induction m with
    | zero => intro p a b c; omega
    | succ m ih =>
      intro p a b c
      rw [p_X1_countShared_4, hL.1.2.1, it (by omega) (by omega)]
      by_cases e : (curP sg bk ru n).1 < p
      · rw [if_pos e, show p - 1 = (curP sg bk ru n).1 by omega]
      · have ih' := ih (p + 1) (by omega) (by omega) (by omega)
        rw [show p + 1 - 1 = (p - 1) + 1 by omega, pcn, show p - 1 + 1 = p by omega] at ih'
        rw [if_neg e, isShared_ok hn hL.1 a (by omega)]
        simp only [Option.bind_some]
        unfold p_X1_countShared_23
        rw [nI_add, nI_add]
        by_cases q : shP n sg bk ru p = true
        · rw [if_pos q] at ih'
          rw [if_pos q, if_neg (by decide)]; exact ih'
        · rw [if_neg q] at ih'
          rw [if_neg q, if_pos rfl]; exact ih'
  exact key 200 1 (by omega) (by omega) (by omega)
theorem countHeads_ok {L : Ob} (hn : n ≤ 60) (hL : LK L n sg bk ru) : p_X1_countHeads L = some (nI (pcn (hdP n sg bk ru) (curP sg bk ru n).1)) := by
  have hpg := PG_lt (sg := sg) (bk := bk) (ru := ru) hn
  have key : ∀ (m p : Nat), 1 ≤ p → p ≤ (curP sg bk ru n).1 + 1 → (curP sg bk ru n).1 + 1 < p + m → p_X1_countHeads_4 L m (nI (pcn (hdP n sg bk ru) (p - 1))) (nI p) = some (nI (pcn (hdP n sg bk ru) (curP sg bk ru n).1)) := by
    intro m
    induction m with
    | zero => intro p a b c; omega
    | succ m ih =>
      intro p a b c
      rw [p_X1_countHeads_4, hL.1.2.1, it (by omega) (by omega)]
      by_cases e : (curP sg bk ru n).1 < p
      · rw [if_pos e, show p - 1 = (curP sg bk ru n).1 by omega]
      · have ih' := ih (p + 1) (by omega) (by omega) (by omega)
        rw [show p + 1 - 1 = (p - 1) + 1 by omega, pcn, show p - 1 + 1 = p by omega] at ih'
        rw [if_neg e, ld_ok (by omega) (by omega), hL.2 p a (by omega)]
        simp only [Option.bind_some]
        unfold p_X1_countHeads_26
        rw [nI_add, nI_add]
        by_cases q : headP n sg bk ru p = -6
        · rw [if_neg (by simp [hdP, q])] at ih'
          rw [if_pos q]; exact ih'
        · rw [if_pos (by simp [hdP, q])] at ih'
          rw [if_neg q]; exact ih'
  exact key 200 1 (by omega) (by omega) (by omega)
theorem pagesThat_ok {M : Ob} {w : Nat} {f : Nat → Bool} (hr : RuOK ru) (hM : MJ M n sg bk ru n (curP sg bk ru n).1) (hw : (w = 2 ∧ f = blP n sg bk ru) ∨ (w = 5 ∧ f = shP n sg bk ru) ∨ (w = 6 ∧ f = hdP n sg bk ru)) : p_X4_pagesThat M (nI w) = some (nI (pcn f (curP sg bk ru n).1)) := by
  have hn := hM.1.2.1
  have hpg := PG_lt (sg := sg) (bk := bk) (ru := ru) hn
  have w10 : w < 10 := by omega
  have key : ∀ (m p : Nat), 1 ≤ p → p ≤ (curP sg bk ru n).1 + 1 → (curP sg bk ru n).1 + 1 < p + m → p_X4_pagesThat_4 M m (nI w) (nI (pcn f (p - 1))) (nI p) = some (nI (pcn f (curP sg bk ru n).1)) := by
    intro m
    induction m with
    | zero => intro p a b c; omega
    | succ m ih =>
      intro p a b c
      rw [p_X4_pagesThat_4, hM.2.1, it (by omega) (by omega)]
      by_cases e : (curP sg bk ru n).1 < p
      · rw [if_pos e, show p - 1 = (curP sg bk ru n).1 by omega]
      · have ih' := ih (p + 1) (by omega) (by omega) (by omega)
        rw [show p + 1 - 1 = (p - 1) + 1 by omega, pcn, show p - 1 + 1 = p by omega] at ih'
        have hbc := cnt_le (sg := sg) (bk := bk) (ru := ru) (p := p) n
        have fin : ∀ y : Nat, y ≤ 1 → (y = 1 ↔ f p = true) → p_X4_pagesThat_62 M (p_X4_pagesThat_4 M m) (nI w) (nI (pcn f (p - 1))) (nI p) (nI y) = some (nI (pcn f (curP sg bk ru n).1)) := by
          intro y hy hyf
          unfold p_X4_pagesThat_62 p_X4_pagesThat_75
          rw [ie (by omega) (by omega), nI_add, nI_add, nI_add]
          by_cases q : f p = true
          · rw [if_pos q] at ih'
            rw [if_neg (by have := hyf.mpr q; omega)]; exact ih'
          · rw [if_neg q] at ih'
            rw [if_pos (by rcases (show y = 0 ∨ y = 1 by omega) with z | z; exact z; exact absurd (hyf.mp z) q)]; exact ih'
        rw [if_neg e, ie (by omega) (by omega), ie (by omega) (by omega)]
        rcases hw with ⟨h1, h2⟩ | ⟨h1, h2⟩ | ⟨h1, h2⟩
        · rw [if_pos h1, ld_ok (by omega) (by omega), (hM.2.2.2 p a (by omega)).1]
          simp only [Option.bind_some]
          rw [ie (by omega) (by omega)]
          by_cases q : cnt sg bk ru n p = 0
          · rw [if_pos q]; exact fin 1 (by omega) (by rw [h2]; simp [blP, q])
          · rw [if_neg q]; exact fin 0 (by omega) (by rw [h2]; simp [blP, q])
        · rw [if_neg (by omega), if_pos h1, rShared_ok hM a (by omega)]
          simp only [Option.bind_some]
          by_cases q : shP n sg bk ru p = true
          · rw [if_pos q]; exact fin 1 (by omega) (by rw [h2]; simp [q])
          · rw [if_neg q]; exact fin 0 (by omega) (by rw [h2]; simp [q])
        · rw [if_neg (by omega), if_neg (by omega), rheadOf_ok hr hM a (by omega)]
          simp only [Option.bind_some]
          by_cases q : headP n sg bk ru p = -6
          · rw [if_pos q]; exact fin 0 (by omega) (by rw [h2]; simp [hdP, q])
          · rw [if_neg q]; exact fin 1 (by omega) (by rw [h2]; simp [hdP, q])
  exact key 200 1 (by omega) (by omega) (by omega)
theorem bsum_le (h : ∀ j, j < n → bk j ≤ 1) : ∀ l, l ≤ n → bsum bk l ≤ l
  | 0, _ => Nat.le_refl _
  | l + 1, hl => by
    rw [bsum]
    have := bsum_le h l (by omega)
    have := h l (by omega)
    omega
theorem countBreaks_ok {B : Ob} (hn : n ≤ 60) (h3 : B 3 0 = nI n) (hb : ∀ j, j < n → B 1 j = nI (bk j) ∧ bk j ≤ 1) : p_X0_countBreaks B = some (nI (bsum bk n)) := by
  have key : ∀ (m k : Nat), k ≤ n → n < k + m → p_X0_countBreaks_4 B m (nI (bsum bk k)) (nI k) = some (nI (bsum bk n)) := by
    intro m
    induction m with
    | zero => intro k a b; omega
    | succ m ih =>
      intro k a b
      rw [p_X0_countBreaks_4, h3, il (by omega) (by omega)]
      by_cases e : n ≤ k
      · rw [if_pos e, show k = n by omega]
      · rw [if_neg e, ld_ok (by omega) (by omega), (hb k (by omega)).1]
        simp only [Option.bind_some]
        rw [nI_add, nI_add]
        exact ih (k + 1) (by omega) (by omega)
  exact key 200 0 (Nat.zero_le _) (by omega)
theorem rBreaks_ok {M : Ob} (hM : StOK (M 0) n sg bk ru) : p_X4_breaks M = some (nI (bsum bk n)) := by
  have hn := hM.2.1
  have key : ∀ (m k : Nat), k ≤ n → n < k + m → p_X4_breaks_4 M m (nI (bsum bk k)) (nI k) = some (nI (bsum bk n)) := by
    intro m
    induction m with
    | zero => intro k a b; omega
    | succ m ih =>
      intro k a b
      rw [p_X4_breaks_4, r_many hM]
      simp only [Option.bind_some]
      rw [il (by omega) (by omega)]
      by_cases e : n ≤ k
      · rw [if_pos e, show k = n by omega]
      · rw [if_neg e, nI_add, ld_ok (by omega) (by omega), (hM.2.2.1 k (by omega)).2.1]
        simp only [Option.bind_some]
        rw [nI_add, nI_add]
        exact ih (k + 1) (by omega) (by omega)
  exact key 200 0 (Nat.zero_le _) (by omega)
end COUNT
