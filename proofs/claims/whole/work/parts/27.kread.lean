/-! fault, read -/
def canS (ps : Nat → Nat) (k : Nat) : Bool := if ps k = 47 then decide (k ≠ 0) && decide (ps (k - 1) ≠ 47) else decide (ps k = 46) || isC (ps k) || isS (ps k)
def lmN (ps : Nat → Nat) (k : Nat) : Nat := if k = 0 ∨ ps (k - 1) = 47 then 1 else 0
def baN (ps : Nat → Nat) (k : Nat) : Nat := if k ≠ 0 ∧ ps (k - 1) = 47 then 1 else 0
def rdX (ps : Nat → Nat) : Nat → Nat × (Nat → Nat) × (Nat → Nat)
  | 0 => (0, fun _ => 0, fun _ => 0)
  | k + 1 => if ps k = 47 then rdX ps k else ((rdX ps k).1 + 1, va_up (rdX ps k).2.1 (rdX ps k).1 (if ps k = 46 then 0 else ps k), va_up (rdX ps k).2.2 (rdX ps k).1 (baN ps k))
section KREAD
variable {ps : Nat → Nat} {pn : Nat}
theorem canStand_ok {M : Ob} {k : Nat} (hM : PdM M pn ps) (hn : pn ≤ 60) (hp : ∀ j, j < pn → ps j ≤ 126) (hk : k < pn) : p_X4_canStand M (nI k) = some (if canS ps k = true then nI 1 else nI 0) := by
  have h1 := hM.2 k hk
  have h2 := hp k hk
  unfold p_X4_canStand p_X4_canStand_69 canS
  rw [ld_ok (i := k) (by omega) (by omega), h1]
  simp only [Option.bind_some]
  rw [ie (by omega) (by omega), ie (by omega) (by omega), il (by omega) (by omega), r_isC (by omega), r_isS (by omega)]
  simp only [Option.bind_some]
  by_cases e : ps k = 47
  · rw [if_pos e, if_pos e]
    by_cases k0 : k ≤ 0
    · rw [if_pos k0, if_neg (by simp [show k = 0 by omega])]
    · have h3 := hM.2 (k - 1) (by omega)
      have h4 := hp (k - 1) (by omega)
      rw [if_neg k0, pk_sub (by omega), ld_ok (by omega) (by omega), h3]
      simp only [Option.bind_some]
      rw [ie (by omega) (by omega)]
      by_cases q : ps (k - 1) = 47
      · rw [if_pos q, if_neg (by simp [q])]
      · rw [if_neg q, if_pos (by simp [q]; omega)]
  · rw [if_neg e, if_neg e]
    by_cases e2 : ps k = 46
    · rw [if_pos e2, if_pos (by simp [e2])]
    · rw [if_neg e2]
      by_cases e3 : isC (ps k) = true
      · rw [if_pos e3, if_neg (by decide), if_pos (by simp [e3])]
      · rw [if_neg e3, if_pos rfl]
        by_cases e4 : isS (ps k) = true
        · rw [if_pos e4, if_neg (by decide), if_pos (by simp [e4])]
        · rw [if_neg e4, if_pos rfl, if_neg (by simp [e2, e3, e4])]
theorem fault_loop {P M : Ob} (hP : PdC P pn ps) (hM : PdM M pn ps) : ∀ (m k : Nat), k ≤ pn → pn < k + m → (∀ j, j < k → canS ps j = true) → ∃ r, p_X2_faultPlace_4 P m (nI (lmN ps k)) (nI k) = some r ∧ p_X4_fault_2 M m (nI k) = some r ∧ ((r = -6 ∧ (∀ j, j < pn → canS ps j = true)) ∨ ∃ q, q ≤ 60 ∧ r = nI q) := by
  obtain ⟨p1, p2, p3⟩ := hP
  have hp : ∀ j, j < pn → ps j ≤ 126 := fun j hj => (p3 j hj).2
  intro m
  induction m with
  | zero => intro k a b; omega
  | succ m ih =>
    intro k a b hc
    have hlm : lmN ps k ≤ 1 := by unfold lmN; split <;> omega
    rw [p_X2_faultPlace_4, p_X4_fault_2, p1, hM.1, il (by omega) (by omega), il (by omega) (by omega), il (by omega) (by omega), il (by omega) (by omega), ie (by omega) (by omega)]
    by_cases e : pn ≤ k
    · have ek : k = pn := by omega
      subst ek
      rw [if_pos e, if_pos e]
      by_cases e0 : k ≤ 0
      · rw [if_pos e0, if_pos e0]
        exact ⟨_, rfl, rfl, Or.inl ⟨rfl, hc⟩⟩
      · have h4 := hp (k - 1) (by omega)
        rw [if_neg e0, if_neg e0, pk_sub (by omega), ld_ok (by omega) (by omega), hM.2 (k - 1) (by omega)]
        simp only [Option.bind_some]
        rw [ie (by omega) (by omega)]
        by_cases q : ps (k - 1) = 47
        · rw [if_pos q, if_neg (by unfold lmN; rw [if_pos (Or.inr q)]; omega)]
          exact ⟨_, rfl, rfl, Or.inr ⟨k, by omega, rfl⟩⟩
        · rw [if_neg q, if_pos (by unfold lmN; rw [if_neg (by omega)])]
          exact ⟨_, rfl, rfl, Or.inl ⟨rfl, hc⟩⟩
    · have h1 := (p3 k (by omega)).1
      have h2 := hp k (by omega)
      rw [if_neg e, if_neg e, canStand_ok hM p2 hp (by omega), ld_ok (by omega) (by omega), h1]
      simp only [Option.bind_some]
      rw [ie (by omega) (by omega), nI_add]
      have stop : ¬ canS ps k = true → ∃ r, (some (nI k) : Option Int32) = some r ∧ (if (if canS ps k = true then nI 1 else nI 0) = nI 0 then some (nI k) else p_X4_fault_2 M m (nI (k + 1))) = some r ∧ ((r = -6 ∧ (∀ j, j < pn → canS ps j = true)) ∨ ∃ q, q ≤ 60 ∧ r = nI q) := by
        intro q
        rw [if_neg q, if_pos rfl]
        exact ⟨_, rfl, rfl, Or.inr ⟨k, by omega, rfl⟩⟩
      have go : canS ps k = true → ∃ r, p_X2_faultPlace_4 P m (nI (lmN ps (k + 1))) (nI (k + 1)) = some r ∧ (if (if canS ps k = true then nI 1 else nI 0) = nI 0 then some (nI k) else p_X4_fault_2 M m (nI (k + 1))) = some r ∧ ((r = -6 ∧ (∀ j, j < pn → canS ps j = true)) ∨ ∃ q, q ≤ 60 ∧ r = nI q) := by
        intro q
        rw [if_pos q, if_neg (by decide)]
        exact ih (k + 1) (by omega) (by omega) (fun j hj => by
          rcases Nat.lt_or_ge j k with z | z
          · exact hc j z
          · rw [show j = k by omega]; exact q)
      have lmS : lmN ps (k + 1) = if ps k = 47 then 1 else 0 := by
        unfold lmN
        rw [show k + 1 - 1 = k by omega]
        by_cases q : ps k = 47
        · rw [if_pos q, if_pos (Or.inr q)]
        · rw [if_neg q, if_neg (by omega)]
      -- what the class does with a sign
      have c28 : ∀ y : Nat, y = (if ps k = 47 then 1 else 0) → ∃ r, p_X2_faultPlace_28 P (p_X2_faultPlace_4 P m) (nI (lmN ps k)) (nI k) (nI y) = some r ∧ (if (if canS ps k = true then nI 1 else nI 0) = nI 0 then some (nI k) else p_X4_fault_2 M m (nI (k + 1))) = some r ∧ ((r = -6 ∧ (∀ j, j < pn → canS ps j = true)) ∨ ∃ q, q ≤ 60 ∧ r = nI q) := by
        intro y hy
        have c59 : ∀ z : Nat, z ≤ 1 → (z = 1 ↔ (ps k = 46 ∨ isC (ps k) = true ∨ isS (ps k) = true)) → ∃ r, p_X2_faultPlace_59 P (p_X2_faultPlace_4 P m) (nI (lmN ps k)) (nI k) (nI y) (nI z) = some r ∧ (if (if canS ps k = true then nI 1 else nI 0) = nI 0 then some (nI k) else p_X4_fault_2 M m (nI (k + 1))) = some r ∧ ((r = -6 ∧ (∀ j, j < pn → canS ps j = true)) ∨ ∃ q, q ≤ 60 ∧ r = nI q) := by
          intro z hz hzl
          have hy1 : y ≤ 1 := by rw [hy]; split <;> omega
          unfold p_X2_faultPlace_59 p_X2_faultPlace_79
          rw [nI_add, ie (by omega) (by omega), ie (by omega) (by omega), ie (by omega) (by omega)]
          rw [← lmS] at hy
          by_cases q : ps k = 47
          · rw [if_pos q] at lmS
            rw [if_neg (show ¬ y = 0 by omega)]
            by_cases l0 : lmN ps k = 0
            · rw [if_pos l0, hy]
              refine go ?_
              unfold canS lmN at *
              rw [if_pos q]
              by_cases w : k = 0 ∨ ps (k - 1) = 47
              · rw [if_pos w] at l0; omega
              · simp; omega
            · rw [if_neg l0]
              refine stop (fun cs => l0 ?_)
              unfold canS at cs
              rw [if_pos q] at cs
              unfold lmN
              rw [if_neg (fun w => by simp at cs; omega)]
          · rw [if_neg q] at lmS
            rw [if_pos (show y = 0 by omega)]
            by_cases z0 : z = 0
            · rw [if_pos z0]
              refine stop (fun cs => ?_)
              unfold canS at cs
              rw [if_neg q] at cs
              simp only [Bool.or_eq_true, decide_eq_true_eq] at cs
              have := hzl.mpr (by rcases cs with (w | w) | w; exact Or.inl w; exact Or.inr (Or.inl w); exact Or.inr (Or.inr w))
              omega
            · rw [if_neg z0, hy]
              refine go ?_
              unfold canS
              rw [if_neg q]
              simp only [Bool.or_eq_true, decide_eq_true_eq]
              rcases hzl.mp (by omega) with w | w | w
              · exact Or.inl (Or.inl w)
              · exact Or.inl (Or.inr w)
              · exact Or.inr w
        unfold p_X2_faultPlace_28 p_X2_faultPlace_54
        rw [ld_ok (by omega) (by omega), h1]
        simp only [Option.bind_some]
        rw [p_classOf _ (by omega), ie (by omega) (by omega)]
        simp only [Option.bind_some]
        by_cases w1 : ps k = 46
        · rw [if_pos w1]
          exact c59 1 (by omega) ⟨fun _ => Or.inl w1, fun _ => rfl⟩
        · rw [if_neg w1]
          by_cases w2 : isC (ps k) = true
          · rw [if_pos w2, if_neg (by decide)]
            exact c59 1 (by omega) ⟨fun _ => Or.inr (Or.inl w2), fun _ => rfl⟩
          · rw [if_neg w2]
            by_cases w3 : isS (ps k) = true
            · rw [if_pos w3, if_neg (by decide)]
              exact c59 1 (by omega) ⟨fun _ => Or.inr (Or.inr w3), fun _ => rfl⟩
            · rw [if_neg w3, if_pos rfl]
              exact c59 0 (by omega) ⟨fun x => by omega, fun x => by rcases x with x | x | x; exact absurd x w1; exact absurd x w2; exact absurd x w3⟩
      by_cases q : ps k = 47
      · rw [if_pos q]
        exact c28 1 (by rw [if_pos q])
      · rw [if_neg q]
        exact c28 0 (by rw [if_neg q])
theorem fault_both {P M : Ob} (hP : PdC P pn ps) (hM : PdM M pn ps) : ∃ r, p_X2_faultPlace P = some r ∧ p_X4_fault M = some r ∧ ((r = -6 ∧ (∀ j, j < pn → canS ps j = true)) ∨ ∃ q, q ≤ 60 ∧ r = nI q) := fault_loop hP hM 200 0 (Nat.zero_le _) (by have := hP.2.1; omega) (fun j hj => by omega)
theorem k_fault : K_fault Inv := by
  intro S M hI
  have hI' := hI
  obtain ⟨hT, ⟨pn, ps, hP, hM⟩, J⟩ := hI
  obtain ⟨r, h1, h2, -⟩ := fault_both hP hM
  refine ⟨r, ?_, h2, hI'⟩
  unfold p_X3_fault
  rw [h1]
  rfl
/-- what has been read of the pad, on the class's side -/
def RC (B : Ob) (B0 : Ob) (ps : Nat → Nat) (k : Nat) : Prop := B 3 0 = nI (rdX ps k).1 ∧ B 2 = B0 2 ∧ ∀ j, j < (rdX ps k).1 → B 0 j = nI (sgC ((rdX ps k).2.1 j)) ∧ B 1 j = nI ((rdX ps k).2.2 j)
def RM (M : Ob) (M0 : Ob) (ps : Nat → Nat) (k : Nat) : Prop := M 1 = M0 1 ∧ M 2 = M0 2 ∧ M 3 = M0 3 ∧ M 4 = M0 4 ∧ (∀ r, r < 9 → M 0 (121 + r) = M0 0 (121 + r)) ∧ ∀ j, j < (rdX ps k).1 → M 0 j = nI ((rdX ps k).2.1 j) ∧ M 0 (60 + j) = nI ((rdX ps k).2.2 j)
theorem rd_le : ∀ k : Nat, (rdX ps k).1 ≤ k
  | 0 => Nat.le_refl _
  | k + 1 => by
    rw [rdX]
    have := rd_le k
    split
    · omega
    · show _ + 1 ≤ k + 1; omega
theorem rd_ok (hc : ∀ j, j < pn → canS ps j = true) : ∀ k : Nat, k ≤ pn → ∀ j, j < (rdX ps k).1 → okS ((rdX ps k).2.1 j) ∧ (rdX ps k).2.2 j ≤ 1
  | 0, _, j, hj => absurd hj (Nat.not_lt_zero _)
  | k + 1, hk, j, hj => by
    have ih := rd_ok hc k (by omega)
    have hcs := hc k (by omega)
    by_cases q : ps k = 47
    · rw [rdX, if_pos q] at hj ⊢
      exact ih j hj
    · rw [rdX, if_neg q] at hj ⊢
      have hj' : j < (rdX ps k).1 + 1 := hj
      show okS (va_up _ _ _ j) ∧ va_up _ _ _ j ≤ 1
      by_cases e : j = (rdX ps k).1
      · rw [e, up_s, up_s]
        refine ⟨?_, by unfold baN; split <;> omega⟩
        unfold canS at hcs
        rw [if_neg q] at hcs
        simp only [Bool.or_eq_true, decide_eq_true_eq] at hcs
        by_cases w : ps k = 46
        · rw [if_pos w]; exact Or.inl rfl
        · rw [if_neg w]
          rcases hcs with (z | z) | z
          · exact absurd z w
          · exact Or.inr (Or.inl z)
          · exact Or.inr (Or.inr z)
      · rw [up_n e, up_n e]
        exact ih j (by omega)
theorem take_ok {P B0 : Ob} (hP : PdC P pn ps) (hc : ∀ j, j < pn → canS ps j = true) : ∃ B1, p_X0_takeText P B0 = some B1 ∧ RC B1 B0 ps pn := by
  obtain ⟨p1, p2, p3⟩ := hP
  have key : ∀ (m k : Nat) (B : Ob), k ≤ pn → pn < k + m → RC B B0 ps k → ∃ B1, p_X0_takeText_9 P m (nI (baN ps k)) (nI k) B = some B1 ∧ RC B1 B0 ps pn := by
    intro m
    induction m with
    | zero => intro k B a b; omega
    | succ m ih =>
      intro k B a b h
      have hrl := rd_le (ps := ps) k
      rw [p_X0_takeText_9, p1, il (by omega) (by omega)]
      by_cases e : pn ≤ k
      · rw [if_pos e]
        have : k = pn := by omega
        subst this
        exact ⟨B, rfl, h⟩
      · obtain ⟨h1, h2⟩ := p3 k (by omega)
        have hcs := hc k (by omega)
        rw [if_neg e, ld_ok (by omega) (by omega), h1]
        simp only [Option.bind_some]
        unfold p_X0_takeText_70
        rw [nI_add, ie (by omega) (by omega)]
        by_cases q : ps k = 47
        · rw [if_pos q]
          have := ih (k + 1) B (by omega) (by omega) (by unfold RC; rw [rdX, if_pos q]; exact h)
          rw [show baN ps (k + 1) = 1 by unfold baN; rw [show k + 1 - 1 = k by omega, if_pos ⟨by omega, q⟩]] at this
          exact this
        · rw [if_neg q, h.1, st_ok (by omega) (by omega)]
          simp only [Option.bind_some]
          obtain ⟨N, hN⟩ : ∃ N : Ob, N = va_up B 0 (upd (B 0) (rdX ps k).1 (nI (ps k))) := ⟨_, rfl⟩
          rw [← hN]
          have n3 : N 3 0 = nI (rdX ps k).1 := by rw [hN]; exact h.1
          rw [n3, st_ok (by omega) (by omega)]
          simp only [Option.bind_some]
          rw [show (va_up N 1 (upd (N 1) (rdX ps k).1 (nI (baN ps k)))) 3 0 = nI (rdX ps k).1 from n3, nI_add]
          have := ih (k + 1) (puO (va_up N 1 (upd (N 1) (rdX ps k).1 (nI (baN ps k)))) 3 (nI ((rdX ps k).1 + 1))) (by omega) (by omega) (by
            unfold RC
            rw [rdX, if_neg q]
            refine ⟨rfl, by rw [hN]; exact h.2.1, fun j hj => ?_⟩
            have hj' : j < (rdX ps k).1 + 1 := hj
            rw [hN]
            show upd (B 0) _ _ j = nI (sgC (va_up _ _ _ j)) ∧ upd (B 1) _ _ j = nI (va_up _ _ _ j)
            by_cases w : j = (rdX ps k).1
            · rw [w, ud_s, ud_s, up_s, up_s]
              refine ⟨?_, rfl⟩
              by_cases z : ps k = 46
              · rw [if_pos z, z]; rfl
              · rw [if_neg z]
                have : ps k ≠ 0 := by
                  unfold canS at hcs
                  rw [if_neg q] at hcs
                  simp only [Bool.or_eq_true, decide_eq_true_eq] at hcs
                  rcases hcs with (y | y) | y
                  · omega
                  · have := isC_iff.mp y; omega
                  · have := isS_iff.mp y; omega
                unfold sgC
                rw [if_neg this]
            · rw [ud_n w, ud_n w, up_n w, up_n w]
              exact h.2.2 j (by omega))
          rw [show baN ps (k + 1) = 0 by unfold baN; rw [show k + 1 - 1 = k by omega, if_neg (fun x => q x.2)]] at this
          exact this
  unfold p_X0_takeText
  simp only [Option.bind_some]
  exact key 200 0 _ (Nat.zero_le _) (by omega) ⟨rfl, rfl, fun j hj => absurd hj (Nat.not_lt_zero _)⟩
end KREAD
