/-! image, restore -/
section KIMG
theorem copy_ok {B C : Ob} {X : TX} (h : BkT C X) : ∃ N, p_X0_copyFrom C B = some N ∧ BkT N X := by
  obtain ⟨n, sg, bk, ru⟩ := X
  obtain ⟨⟨b2, b3, b4, b9, b5⟩, b6, b7, b8⟩ := h
  simp only at b2 b3 b4 b9 b5 b6 b7 b8
  unfold p_X0_copyFrom
  simp only [Option.bind_some]
  refine ⟨_, rfl, ⟨b2, fun j hj => ⟨?_, (b3 j hj).2⟩, fun r q1 q2 => ?_, b9, b5⟩, b6, fun j hj => ⟨?_, (b7 j hj).2⟩, ?_⟩
  · show va_cpy (C 0) (B 0) 0 0 60 j = _
    rw [sb_cpy0 (by omega)]; exact (b3 j hj).1
  · show va_cpy (C 2) (B 2) 0 0 9 r = _
    rw [sb_cpy0 q2]; exact b4 r q1 q2
  · show va_cpy (C 1) (B 1) 0 0 60 j = _
    rw [sb_cpy0 (by omega)]; exact (b7 j hj).1
  · show va_cpy (C 2) (B 2) 0 0 9 0 = _
    rw [sb_cpy0 (by omega)]; exact b8
theorem StOK.congr {st st2 : Nat → Int32} {n : Nat} {sg bk ru : Nat → Nat} (h : StOK st n sg bk ru) (e : ∀ j, j < 130 → st2 j = st j) : StOK st2 n sg bk ru := by
  obtain ⟨s1, s2, s3, s4, s5⟩ := h
  refine ⟨by rw [e _ (by omega)]; exact s1, s2, fun j hj => ?_, fun r hr => ?_, s5⟩
  · rw [e _ (by omega), e _ (by omega)]; exact s3 j hj
  · rw [e _ (by omega)]; exact s4 r hr
theorem image_loop {M0 : Ob} {k : Nat} (hk : k < 2) : ∀ (m i : Nat) (M : Ob), i ≤ 130 → 130 < i + m → M 0 = M0 0 → M 2 = M0 2 → M 3 = M0 3 → M 4 = M0 4 → (∀ j, j < i → M 1 (130 * k + j) = M0 0 j) → (∀ j, j < 130 * k ∨ 130 * k + 130 ≤ j → M 1 j = M0 1 j) → ∃ M1, p_X4_image_14 m (nI k) (nI i) M = some (nI 1, M1) ∧ M1 0 = M0 0 ∧ M1 2 = upd (M0 2) k (nI 1) ∧ M1 3 = M0 3 ∧ M1 4 = M0 4 ∧ (∀ j, j < 130 → M1 1 (130 * k + j) = M0 0 j) ∧ (∀ j, j < 130 * k ∨ 130 * k + 130 ≤ j → M1 1 j = M0 1 j) := by
  intro m
  induction m with
  | zero => intro i M a b; omega
  | succ m ih =>
    intro i M a b e0 e2 e3 e4 h1 h2
    rw [p_X4_image_14, il (by omega) (by omega)]
    by_cases e : 130 ≤ i
    · rw [if_pos e, st_ok hk (by omega)]
      have : i = 130 := by omega
      subst this
      refine ⟨_, rfl, e0, ?_, e3, e4, h1, h2⟩
      show upd (M 2) k (nI 1) = _
      rw [e2]
    · rw [if_neg e, ld_ok (by omega) (by omega), pk_mul, nI_add]
      simp only [Option.bind_some]
      rw [st_ok (by omega) (by omega), nI_add]
      simp only [Option.bind_some]
      refine ih (i + 1) _ (by omega) (by omega) e0 e2 e3 e4 (fun j hj => ?_) (fun j hj => ?_)
      · show upd (M 1) (130 * k + i) (M 0 i) (130 * k + j) = _
        by_cases w : j = i
        · rw [w, ud_s, e0]
        · rw [ud_n (by omega)]; exact h1 j (by omega)
      · show upd (M 1) (130 * k + i) (M 0 i) j = _
        rw [ud_n (by omega)]; exact h2 j hj
theorem restore_loop {M0 : Ob} {k : Nat} (hk : k < 2) : ∀ (m i : Nat) (M : Ob), i ≤ 130 → 130 < i + m → M 1 = M0 1 → M 2 = M0 2 → M 3 = M0 3 → M 4 = M0 4 → (∀ j, j < i → M 0 j = M0 1 (130 * k + j)) → ∃ M1, p_X4_restore_26 m (nI k) (nI i) M = some (nI 1, M1) ∧ M1 1 = M0 1 ∧ M1 2 = M0 2 ∧ M1 3 = M0 3 ∧ M1 4 = M0 4 ∧ (∀ j, j < 130 → M1 0 j = M0 1 (130 * k + j)) := by
  intro m
  induction m with
  | zero => intro i M a b; omega
  | succ m ih =>
    intro i M a b e1 e2 e3 e4 h1
    rw [p_X4_restore_26, il (by omega) (by omega)]
    by_cases e : 130 ≤ i
    · rw [if_pos e]
      have : i = 130 := by omega
      subst this
      exact ⟨_, rfl, e1, e2, e3, e4, h1⟩
    · rw [if_neg e, pk_mul, nI_add, ld_ok (by omega) (by omega)]
      simp only [Option.bind_some]
      rw [st_ok (by omega) (by omega), nI_add]
      simp only [Option.bind_some]
      refine ih (i + 1) _ (by omega) (by omega) e1 e2 e3 e4 (fun j hj => ?_)
      show upd (M 0) i (M 1 (130 * k + i)) j = _
      by_cases w : j = i
      · rw [w, ud_s, e1]
      · rw [ud_n w]; exact h1 j (by omega)
theorem kept_or : ∀ a b k : Nat, a ≤ 1 → b ≤ 1 → k < 2 → (nI (a + 2 * b) ||| (nI 1 <<< (nI k &&& 31))) = nI ((if k = 0 then 1 else a) + 2 * (if k = 1 then 1 else b)) := by
  intro a b k ha hb hk
  rcases (show a = 0 ∨ a = 1 by omega) with x | x <;> rcases (show b = 0 ∨ b = 1 by omega) with y | y <;> rcases (show k = 0 ∨ k = 1 by omega) with z | z <;> subst x <;> subst y <;> subst z <;> decide
theorem kept_bit : ∀ a b k : Nat, a ≤ 1 → b ≤ 1 → k < 2 → ((nI (a + 2 * b) >>> (nI k &&& 31)) &&& nI 1) = nI (if k = 0 then a else b) := by
  intro a b k ha hb hk
  rcases (show a = 0 ∨ a = 1 by omega) with x | x <;> rcases (show b = 0 ∨ b = 1 by omega) with y | y <;> rcases (show k = 0 ∨ k = 1 by omega) with z | z <;> subst x <;> subst y <;> subst z <;> decide
theorem k_image : K_image Inv := by
  intro S M x hI
  have hI' := hI
  obtain ⟨⟨X, hT⟩, hIP, ⟨K, Y, j1, j2⟩⟩ := hI
  obtain ⟨hB, hL, hM, hR⟩ := hT
  obtain ⟨k0, t0, v0⟩ := j2 0 (by omega)
  obtain ⟨k1, t1, v1⟩ := j2 1 (by omega)
  unfold p_X3_image p_X4_image
  rcases x3 x 2 (by omega) with h | h | ⟨k, hk, rfl⟩
  · rw [if_pos h, in_lo h]
    exact ⟨_, _, _, rfl, rfl, hI'⟩
  · rw [if_neg (ge_nlt h (by omega) (by omega)), if_neg (ge_nlt h (Nat.le_refl _) (by omega)), in_hi (ge_lt h (by omega) (by omega))]
    exact ⟨_, _, _, rfl, rfl, hI'⟩
  · rw [if_neg (n_neg k (by omega)), it (by omega) (by omega), if_pos hk, r_in (by omega) (by omega) (by omega), if_pos (show 0 ≤ k ∧ k ≤ 1 by omega)]
    simp only [Option.bind_some]
    rw [if_neg (show ¬ nI 1 = nI 0 by decide)]
    obtain ⟨M1, i1, i2, i3, i4, i5, i6, i7⟩ := image_loop (M0 := M) hk 200 0 M (by omega) (by omega) rfl rfl rfl rfl (fun j hj => by omega) (fun j _ => rfl)
    rw [i1]
    -- the new images
    have fin : ∀ (N : Ob), BkT N X → ∀ S1 : Nat → Ob, S1 = va_up (va_up S (3 + k) N) 0 (puO (S 0) 0 (nI ((if k = 0 then 1 else K 0) + 2 * (if k = 1 then 1 else K 1)))) → Inv S1 M1 := by
      intro N hN S1 hS1
      have e2 : S1 2 = S 2 := by rw [hS1, up_n (by omega), up_n (by omega)]
      have e5 : S1 5 = S 5 := by rw [hS1, up_n (by omega), up_n (by omega)]
      have e1 : S1 1 = S 1 := by rw [hS1, up_n (by omega), up_n (by omega)]
      refine ⟨⟨X, IT.keep ⟨hB, hL, hM, hR⟩ e2 e5 i2⟩, hIP.keep e1 i4 i5, va_up K k 1, va_up Y k X, ?_, fun i hi => ?_⟩
      · rw [hS1, up_s]
        show nI _ = nI _
        rcases (show k = 0 ∨ k = 1 by omega) with z | z <;> subst z <;> rfl
      · by_cases w : i = k
        · subst w
          refine ⟨by rw [up_s]; omega, by rw [i3, ud_s, up_s], fun _ => ⟨?_, ?_, ?_⟩⟩
          · rw [hS1, up_n (by omega), up_s, up_s]; exact hN
          · rw [up_s]
            exact StOK.congr hM (fun j hj => i6 j hj)
          · rw [up_s]; exact hR
        · obtain ⟨c1, c2, c3⟩ := j2 i hi
          refine ⟨by rw [up_n w]; exact c1, by rw [i3, ud_n w, up_n w]; exact c2, fun hq => ?_⟩
          rw [up_n w] at hq
          obtain ⟨d1, d2, d3⟩ := c3 hq
          refine ⟨?_, ?_, by rw [up_n w]; exact d3⟩
          · rw [hS1, up_n (by omega), up_n (by omega), up_n w]; exact d1
          · rw [up_n w]
            exact StOK.congr d2 (fun j hj => i7 (130 * i + j) (by omega))
    rcases (show k = 0 ∨ k = 1 by omega) with z | z
    · subst z
      obtain ⟨N, g1, g2⟩ := copy_ok (B := S 3) hB
      rw [if_pos rfl, g1]
      simp only [Option.bind_some]
      rw [show (va_up S 3 N) 0 0 0 = S 0 0 0 from rfl, j1, kept_or _ _ _ k0 k1 (by omega)]
      exact ⟨_, _, _, rfl, rfl, fin N g2 _ rfl⟩
    · subst z
      obtain ⟨N, g1, g2⟩ := copy_ok (B := S 4) hB
      rw [if_neg (by decide), if_pos rfl, g1]
      simp only [Option.bind_some]
      rw [show (va_up S 4 N) 0 0 0 = S 0 0 0 from rfl, j1, kept_or _ _ _ k0 k1 (by omega)]
      exact ⟨_, _, _, rfl, rfl, fin N g2 _ rfl⟩
theorem k_restore : K_restore Inv := by
  intro S M x hI
  have hI' := hI
  obtain ⟨⟨X, hT⟩, hIP, hIJ⟩ := hI
  have hIJ' := hIJ
  obtain ⟨K, Y, j1, j2⟩ := hIJ
  obtain ⟨hB, hL, hM, hR⟩ := hT
  obtain ⟨k0, t0, v0⟩ := j2 0 (by omega)
  obtain ⟨k1, t1, v1⟩ := j2 1 (by omega)
  unfold p_X3_restore p_X4_restore
  rcases x3 x 2 (by omega) with h | h | ⟨k, hk, rfl⟩
  · rw [if_pos h, in_lo h]
    exact ⟨_, _, _, rfl, rfl, hI'⟩
  · rw [if_neg (ge_nlt h (by omega) (by omega)), if_neg (ge_nlt h (Nat.le_refl _) (by omega)), in_hi (ge_lt h (by omega) (by omega))]
    exact ⟨_, _, _, rfl, rfl, hI'⟩
  · obtain ⟨c1, c2, c3⟩ := j2 k hk
    have hbit : (if k = 0 then K 0 else K 1) = K k := by
      rcases (show k = 0 ∨ k = 1 by omega) with z | z <;> subst z <;> rfl
    rw [if_neg (n_neg k (by omega)), it (by omega) (by omega), if_pos hk, r_in (by omega) (by omega) (by omega), if_pos (show 0 ≤ k ∧ k ≤ 1 by omega), j1, kept_bit _ _ _ k0 k1 hk, hbit, ld_ok hk (by omega), c2]
    simp only [Option.bind_some]
    rw [if_neg (show ¬ nI 1 = nI 0 by decide)]
    by_cases e : K k = 0
    · have e' : nI (K k) = nI 0 := by rw [e]
      rw [if_pos e', if_pos e']
      exact ⟨_, _, _, rfl, rfl, hI'⟩
    · have e' : ¬ nI (K k) = nI 0 := fun h => e ((n_eq (by omega) (by omega)).mp h)
      rw [if_neg e', if_neg e']
      obtain ⟨d1, d2, d3⟩ := c3 (by omega)
      obtain ⟨M1, i1, i2, i3, i4, i5, i6⟩ := restore_loop (M0 := M) hk 200 0 M (by omega) (by omega) rfl rfl rfl rfl (fun j hj => by omega)
      have hS2 : StT (M1 0) (Y k) := StOK.congr d2 (fun j hj => i6 j hj)
      rw [i1]
      obtain ⟨N, g1, g2⟩ := copy_ok (B := S 2) d1
      obtain ⟨L1, q1, q2⟩ := laid (S := S) (M := M) (M1 := M1) g2 hS2 d3 hIP hIJ' i2 i3 i4 i5
      rcases (show k = 0 ∨ k = 1 by omega) with z | z
      · subst z
        rw [if_pos rfl, show p_X0_copyFrom (S 3) (S 2) = some N from g1]
        simp only [Option.bind_some]
        rw [q1]
        exact ⟨_, _, _, rfl, rfl, q2⟩
      · subst z
        rw [if_neg (by decide), if_pos rfl, show p_X0_copyFrom (S 4) (S 2) = some N from g1]
        simp only [Option.bind_some]
        rw [q1]
        exact ⟨_, _, _, rfl, rfl, q2⟩
end KIMG
