/-! what holds between the calls -/
abbrev TX : Type := Nat × (Nat → Nat) × (Nat → Nat) × (Nat → Nat)
def RuR (ru : Nat → Nat) : Prop := 2 ≤ ru 0 ∧ ru 0 ≤ 9 ∧ ru 1 ≤ 2 ∧ ru 2 ≤ 2 ∧ ru 3 ≤ 1 ∧ ru 4 ≤ 1 ∧ ru 5 ≤ 1 ∧ ru 6 ≤ 1 ∧ ru 7 ≤ 2 ∧ ru 8 ≤ 2 ∧ ru 2 < ru 0
theorem RuR.nine {ru : Nat → Nat} (h : RuR ru) : ∀ r, r < 9 → ru r ≤ 9 := by
  obtain ⟨h0, h1, h2, h3, h4, h5, h6, h7, h8, h9, h10⟩ := h
  intro r hr
  match r, hr with
  | 0, _ => exact h1
  | 1, _ => omega
  | 2, _ => omega
  | 3, _ => omega
  | 4, _ => omega
  | 5, _ => omega
  | 6, _ => omega
  | 7, _ => omega
  | 8, _ => omega
  | k + 9, h => omega
theorem RuR.ok {ru : Nat → Nat} (h : RuR ru) : RuOK ru := ⟨by have := h.1; omega, h.2.2.2.2.2.2.1, h.2.2.2.2.2.2.2.1, h.2.2.2.2.2.2.2.2.1, h.2.2.2.2.2.2.2.2.2.1, h.nine⟩
/-- a book of the class holds this text -/
def BkT (B : Ob) (X : TX) : Prop := BL B X.1 X.2.1 X.2.2.2 ∧ B 3 0 = nI X.1 ∧ (∀ j, j < X.1 → B 1 j = nI (X.2.2.1 j) ∧ X.2.2.1 j ≤ 1) ∧ B 2 0 = nI (X.2.2.2 0)
def StT (st : Nat → Int32) (X : TX) : Prop := StOK st X.1 X.2.1 X.2.2.1 X.2.2.2
def LkT (L : Ob) (X : TX) : Prop := LK L X.1 X.2.1 X.2.2.1 X.2.2.2
def PdC (P : Ob) (pn : Nat) (ps : Nat → Nat) : Prop := P 1 0 = nI pn ∧ pn ≤ 60 ∧ ∀ j, j < pn → P 0 j = nI (ps j) ∧ ps j ≤ 126
def PdM (M : Ob) (pn : Nat) (ps : Nat → Nat) : Prop := M 4 0 = nI pn ∧ ∀ j, j < pn → M 3 j = nI (ps j)
def IT (S : Nat → Ob) (M : Ob) (X : TX) : Prop := BkT (S 2) X ∧ LkT (S 5) X ∧ StT (M 0) X ∧ RuR X.2.2.2
def IP (S : Nat → Ob) (M : Ob) : Prop := ∃ pn ps, PdC (S 1) pn ps ∧ PdM M pn ps
def IJ (S : Nat → Ob) (M : Ob) : Prop := ∃ (K : Nat → Nat) (Y : Nat → TX), S 0 0 0 = nI (K 0 + 2 * K 1) ∧ ∀ i, i < 2 → K i ≤ 1 ∧ M 2 i = nI (K i) ∧ (K i = 1 → BkT (S (3 + i)) (Y i) ∧ StT (fun j => M 1 (130 * i + j)) (Y i) ∧ RuR (Y i).2.2.2)
def Inv (S : Nat → Ob) (M : Ob) : Prop := (∃ X, IT S M X) ∧ IP S M ∧ IJ S M
/-- the reference has laid anew, nothing else -/
theorem Inv.same {S : Nat → Ob} {M M1 : Ob} (h : Inv S M) (e : Same M M1) : Inv S M1 := by
  obtain ⟨⟨X, a, b, c, d⟩, ⟨pn, ps, p1, p2⟩, ⟨K, Y, q1, q2⟩⟩ := h
  obtain ⟨e0, e1, e2, e3, e4, -⟩ := e
  refine ⟨⟨X, a, b, by rw [e0]; exact c, d⟩, ⟨pn, ps, p1, by rw [PdM, e4, e3]; exact p2⟩, ⟨K, Y, q1, fun i hi => ?_⟩⟩
  rw [e2, e1]
  exact q2 i hi
theorem x_lt0 {x : Int32} {n : Nat} (h : ¬ x < 0) (h2 : ¬ nI n ≤ x) (hn : n < 2000) : ∃ j, j < n ∧ x = nI j := by
  rcases pk_ix x (show n < 2 ^ 31 by omega) with q | q | q
  · exact absurd q h
  · exact absurd q h2
  · exact q
theorem in_lo {x lo hi : Int32} (h : x < lo) : p_X4_in x lo hi = some (nI 0) := by unfold p_X4_in; rw [if_pos h]
theorem in_hi {x lo hi : Int32} (h : hi < x) : p_X4_in x lo hi = some (nI 0) := by
  unfold p_X4_in
  by_cases q : x < lo
  · rw [if_pos q]
  · rw [if_neg q, if_pos h]
theorem in_mid {x lo hi : Int32} (h : ¬ x < lo) (h2 : ¬ hi < x) : p_X4_in x lo hi = some (nI 1) := by unfold p_X4_in; rw [if_neg h, if_neg h2]
theorem ge_pred {x : Int32} {n : Nat} (h : nI n ≤ x) (hn : n < 2000) : nI n - nI 1 < x := by
  rw [Int32.le_iff_toInt_le, nI_toInt (by omega)] at h
  rw [Int32.lt_iff_toInt_lt, pk_sub_toInt (by omega) (by omega)]
  omega
theorem neg_lt {x : Int32} {n : Nat} (h : x < nI 0) (hn : n < 2000) : x < nI n := by
  rw [Int32.lt_iff_toInt_lt, nI_toInt (by omega)] at h ⊢
  omega
theorem neg_nge {x : Int32} {n : Nat} (h : x < nI 0) (hn : n < 2000) : ¬ nI n ≤ x := by
  rw [Int32.le_iff_toInt_le, nI_toInt (by omega)]
  rw [Int32.lt_iff_toInt_lt, nI_toInt (by omega)] at h
  omega
theorem ge_nlt {x : Int32} {n m : Nat} (h : nI n ≤ x) (hm : m ≤ n) (hn : n < 2000) : ¬ x < nI m := by
  rw [Int32.lt_iff_toInt_lt, nI_toInt (by omega)]
  rw [Int32.le_iff_toInt_le, nI_toInt (by omega)] at h
  omega
theorem ge_lt {x : Int32} {n m : Nat} (h : nI n ≤ x) (hm : m < n) (hn : n < 2000) : nI m < x := by
  rw [Int32.lt_iff_toInt_lt, nI_toInt (by omega)]
  rw [Int32.le_iff_toInt_le, nI_toInt (by omega)] at h
  omega
theorem ge_ge {x : Int32} {n m : Nat} (h : nI n ≤ x) (hm : m ≤ n) (hn : n < 2000) : nI m ≤ x := by
  rw [Int32.le_iff_toInt_le, nI_toInt (by omega)] at h ⊢
  omega
/-- an int is below 0, or small, or N at least -/
theorem x3 (x : Int32) (N : Nat) (hN : N < 2000) : x < nI 0 ∨ nI N ≤ x ∨ ∃ j, j < N ∧ x = nI j := pk_ix x (by omega)
theorem IT.keep {S S1 : Nat → Ob} {M M1 : Ob} {X : TX} (h : IT S M X) (a : S1 2 = S 2) (b : S1 5 = S 5) (c : M1 0 = M 0) : IT S1 M1 X := by unfold IT; rw [a, b, c]; exact h
theorem IP.keep {S S1 : Nat → Ob} {M M1 : Ob} (h : IP S M) (a : S1 1 = S 1) (b : M1 3 = M 3) (c : M1 4 = M 4) : IP S1 M1 := by unfold IP PdM; rw [a, b, c]; exact h
theorem IJ.keep {S S1 : Nat → Ob} {M M1 : Ob} (h : IJ S M) (a : S1 0 = S 0) (b : S1 3 = S 3) (c : S1 4 = S 4) (d : M1 1 = M 1) (e : M1 2 = M 2) : IJ S1 M1 := by
  obtain ⟨K, Y, q1, q2⟩ := h
  refine ⟨K, Y, by rw [a]; exact q1, fun i hi => ?_⟩
  rw [d, e]
  have := q2 i hi
  rcases (show i = 0 ∨ i = 1 by omega) with z | z <;> subst z
  · rw [show S1 (3 + 0) = S (3 + 0) from b]; exact this
  · rw [show S1 (3 + 1) = S (3 + 1) from c]; exact this
-- ===== say, wipe
theorem k_say : K_say Inv := by
  intro S M x hI
  have hI' := hI
  obtain ⟨⟨X, hT⟩, ⟨pn, ps, ⟨p1, p2, p3⟩, m1, m2⟩, J⟩ := hI
  unfold p_X3_say p_X4_say
  rcases x3 x 127 (by omega) with h | h | ⟨c, hc, rfl⟩
  · rw [if_pos (neg_lt h (by omega)), in_lo (neg_lt h (by omega))]
    exact ⟨_, S, M, rfl, rfl, hI'⟩
  · rw [if_neg (ge_nlt h (by omega) (by omega)), if_neg (fun q => by have := ge_lt h (show 126 < 127 by omega) (by omega); exact absurd q (Int32.not_le.mpr this)), in_hi (ge_lt h (by omega) (by omega))]
    exact ⟨_, S, M, rfl, rfl, hI'⟩
  · rw [r_in (by omega) (by omega) (by omega), p1, m1]
    simp only [Option.bind_some]
    rw [it (by omega) (by omega), il (by omega) (by omega), it (by omega) (by omega), ie (by omega) (by omega)]
    by_cases h1 : c < 33
    · rw [if_pos h1, if_neg (show ¬ (33 ≤ c ∧ c ≤ 126) by omega), if_pos rfl]
      exact ⟨_, S, M, rfl, rfl, hI'⟩
    · rw [if_neg h1, if_pos (show c ≤ 126 by omega), if_pos (show 33 ≤ c ∧ c ≤ 126 by omega), if_neg (show ¬ nI 1 = nI 0 by decide)]
      by_cases h2 : pn < 60
      · rw [if_pos h2, if_neg (show ¬ pn = 60 by omega)]
        unfold p_X2_append
        rw [p1, il (by omega) (by omega), if_neg (by omega), st_ok h2 (by omega), st_ok h2 (by omega)]
        simp only [Option.bind_some]
        rw [show (va_up (S 1) 0 (upd (S 1 0) pn (nI c))) 1 0 = nI pn from p1, show (va_up M 3 (upd (M 3) pn (nI c))) 4 0 = nI pn from m1, nI_add]
        refine ⟨nI (pn + 1), _, _, rfl, rfl, ⟨X, hT.keep rfl rfl rfl⟩, ⟨pn + 1, va_up ps pn c, ⟨rfl, by omega, fun j hj => ?_⟩, rfl, fun j hj => ?_⟩, J.keep rfl rfl rfl rfl rfl⟩
        · show upd (S 1 0) pn (nI c) j = _ ∧ _
          by_cases e : j = pn
          · rw [e, ud_s, up_s]; exact ⟨rfl, by omega⟩
          · rw [ud_n e, up_n e]; exact p3 j (by omega)
        · show upd (M 3) pn (nI c) j = _
          by_cases e : j = pn
          · rw [e, ud_s, up_s]
          · rw [ud_n e, up_n e]; exact m2 j (by omega)
      · rw [if_neg h2, if_pos (show pn = 60 by omega)]
        exact ⟨_, S, M, rfl, rfl, hI'⟩
theorem k_wipe : K_wipe Inv := by
  intro S M hI
  obtain ⟨⟨X, hT⟩, ⟨pn, ps, ⟨p1, p2, p3⟩, m1, m2⟩, J⟩ := hI
  unfold p_X3_wipe p_X4_wipe
  simp only [Option.bind_some]
  rw [p1, m1]
  exact ⟨_, _, _, rfl, rfl, ⟨X, hT.keep rfl rfl rfl⟩, ⟨0, ps, ⟨rfl, by omega, fun j hj => by omega⟩, rfl, fun j hj => by omega⟩, J.keep rfl rfl rfl rfl rfl⟩
