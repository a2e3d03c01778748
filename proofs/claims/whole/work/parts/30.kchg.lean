/-! changed, worst -/
section KCHG
variable {sg bk ru : Nat → Nat} {n : Nat}
def hN (n : Nat) (sg bk ru : Nat → Nat) (p : Nat) : Int32 := if p ≤ (curP sg bk ru n).1 then headP n sg bk ru p else -6
def dif (n : Nat) (sg bk ru : Nat → Nat) (j p : Nat) : Bool := decide (hN n sg bk ru p ≠ hN n sg (flp bk (some j)) ru p)
def dfc (n : Nat) (sg bk ru : Nat → Nat) (j : Nat) : Nat := pcn (dif n sg bk ru j) 129
theorem dfc_le (j : Nat) : dfc n sg bk ru j ≤ 129 := pcn_le _ _
theorem headOrNone_ok {L : Ob} {p : Nat} (hn : n ≤ 60) (hL : LK L n sg bk ru) (hp1 : 1 ≤ p) (hp2 : p < 200) : p_X1_headOrNone L (nI p) = some (hN n sg bk ru p) := by
  have hpg := PG_lt (sg := sg) (bk := bk) (ru := ru) hn
  unfold p_X1_headOrNone p_X1_hasPage hN
  rw [hL.1.2.1, it (by omega) (by omega), it (by omega) (by omega), if_neg (show ¬ p < 1 by omega)]
  by_cases e : (curP sg bk ru n).1 < p
  · rw [if_pos e, if_neg (show ¬ p ≤ (curP sg bk ru n).1 by omega)]
    rfl
  · rw [if_neg e, if_pos (show p ≤ (curP sg bk ru n).1 by omega)]
    simp only [Option.bind_some]
    rw [if_neg (show ¬ nI 1 = nI 0 by decide), ld_ok (by omega) (by omega), hL.2 p hp1 (by omega)]
    rfl
theorem cc_ok {S : Nat → Ob} {j : Nat} (hB : BkT (S 2) (n, sg, bk, ru)) (hL : LkT (S 5) (n, sg, bk, ru)) (hR : RuR ru) (hj : j < n) : ∃ L1, p_X3_countChanged (nI j) S = some (nI (dfc n sg bk ru j), va_up S 6 L1) := by
  obtain ⟨h1, h2, h3, h4⟩ := hB
  simp only at h1 h2 h3 h4
  have hn : n ≤ 60 := h1.1
  have hL' : LK (S 5) n sg bk ru := hL
  obtain ⟨L1, g1, g2⟩ := lay_ok (L := S 6) (bk := flp bk (some j)) (f := some j) h1 hR.ok h2 h3 (fun i h => by cases h; omega) rfl
  have p1 := PG_lt (sg := sg) (bk := bk) (ru := ru) hn
  have p2 := PG_lt (sg := sg) (bk := flp bk (some j)) (ru := ru) hn
  refine ⟨L1, ?_⟩
  unfold p_X3_countChanged
  rw [ld_ok (i := 0) (by omega) (by omega), h4]
  simp only [Option.bind_some]
  rw [show nI j = flI (some j) from rfl, g1]
  simp only [Option.bind_some]
  rw [show (va_up S 6 L1) 5 10 0 = nI (curP sg bk ru n).1 from hL'.1.2.1, show (va_up S 6 L1) 6 10 0 = nI (curP sg (flp bk (some j)) ru n).1 from g2.1.2.1, it (by omega) (by omega)]
  obtain ⟨mx, hmx⟩ : ∃ mx, mx = (if (curP sg bk ru n).1 < (curP sg (flp bk (some j)) ru n).1 then (curP sg (flp bk (some j)) ru n).1 else (curP sg bk ru n).1) := ⟨_, rfl⟩
  have m1 : (curP sg bk ru n).1 ≤ mx ∧ (curP sg (flp bk (some j)) ru n).1 ≤ mx ∧ mx < 120 := by
    rw [hmx]; split <;> omega
  have hm2 : (if (curP sg bk ru n).1 < (curP sg (flp bk (some j)) ru n).1 then nI (curP sg (flp bk (some j)) ru n).1 else nI (curP sg bk ru n).1) = nI mx := by
    rw [hmx]; split <;> rfl
  rw [hm2]
  have hfin : dfc n sg bk ru j = pcn (dif n sg bk ru j) mx := by
    refine pcn_ext 129 (by omega) (fun p a b => ?_)
    unfold dif hN
    rw [if_neg (by omega), if_neg (by omega)]
    simp
  rw [hfin]
  have key : ∀ (m p : Nat), 1 ≤ p → p ≤ mx + 1 → mx + 1 < p + m → p_X3_countChanged_44 m (nI mx) (nI (pcn (dif n sg bk ru j) (p - 1))) (nI p) (va_up S 6 L1) = some (nI (pcn (dif n sg bk ru j) mx), va_up S 6 L1) := by
    intro m
    induction m with
    | zero => intro p a b c; omega
    | succ m ih =>
      intro p a b c
      rw [p_X3_countChanged_44, it (by omega) (by omega)]
      by_cases e : mx < p
      · rw [if_pos e, show p - 1 = mx by omega]
      · have ih' := ih (p + 1) (by omega) (by omega) (by omega)
        rw [show p + 1 - 1 = (p - 1) + 1 by omega, pcn, show p - 1 + 1 = p by omega] at ih'
        rw [if_neg e, show p_X1_headOrNone ((va_up S 6 L1) 5) (nI p) = some (hN n sg bk ru p) from headOrNone_ok hn hL' a (by omega), show p_X1_headOrNone ((va_up S 6 L1) 6) (nI p) = some (hN n sg (flp bk (some j)) ru p) from headOrNone_ok hn g2 a (by omega)]
        simp only [Option.bind_some]
        unfold p_X3_countChanged_74
        rw [nI_add, nI_add]
        by_cases q : hN n sg bk ru p = hN n sg (flp bk (some j)) ru p
        · rw [if_neg (show ¬ dif n sg bk ru j p = true by simp [dif, q])] at ih'
          rw [if_pos q]; exact ih'
        · rw [if_pos (show dif n sg bk ru j p = true by simp [dif, q])] at ih'
          rw [if_neg q]; exact ih'
  exact key 200 1 (by omega) (by omega) (by omega)
/-- the reference has laid anew, and filled its heads -/
def Sam (M M1 : Ob) : Prop := M1 0 = M 0 ∧ M1 1 = M 1 ∧ M1 2 = M 2 ∧ M1 3 = M 3 ∧ M1 4 = M 4
theorem Inv.sam {S : Nat → Ob} {M M1 : Ob} (h : Inv S M) (e : Sam M M1) : Inv S M1 := by
  obtain ⟨⟨X, a⟩, b, c⟩ := h
  obtain ⟨e0, e1, e2, e3, e4⟩ := e
  exact ⟨⟨X, a.keep rfl rfl e0⟩, b.keep rfl e3 e4, c.keep rfl rfl rfl e1 e2⟩
theorem Inv.six {S : Nat → Ob} {M : Ob} {L : Ob} (h : Inv S M) : Inv (va_up S 6 L) M := by
  obtain ⟨⟨X, a⟩, b, c⟩ := h
  exact ⟨⟨X, a.keep rfl rfl rfl⟩, b.keep rfl rfl rfl, c.keep rfl rfl rfl rfl rfl⟩
def HdM (M : Ob) (n : Nat) (sg bk ru : Nat → Nat) : Prop := ∀ p, 1 ≤ p → p < 130 → M 11 p = hN n sg bk ru p
theorem layHeads_ok {M : Ob} (hM : StOK (M 0) n sg bk ru) (hr : RuOK ru) : ∃ M1, p_X4_layHeads M = some M1 ∧ Sam M M1 ∧ HdM M1 n sg bk ru := by
  have hn := hM.2.1
  have hpg := PG_lt (sg := sg) (bk := bk) (ru := ru) hn
  obtain ⟨M0, g1, ⟨s0, s1, s2, s3, s4, s5⟩, g3⟩ := layPages_ok hM
  unfold p_X4_layHeads
  rw [g1]
  simp only [Option.bind_some]
  have key : ∀ (m p : Nat) (N : Ob), 1 ≤ p → p ≤ 130 → 130 < p + m → MJ N n sg bk ru n (curP sg bk ru n).1 → Sam M N → (∀ q, 1 ≤ q → q < p → N 11 q = hN n sg bk ru q) → ∃ M1, p_X4_layHeads_6 m (nI p) N = some M1 ∧ Sam M M1 ∧ HdM M1 n sg bk ru := by
    intro m
    induction m with
    | zero => intro p N a b c; omega
    | succ m ih =>
      intro p N a b c hN1 hS hq
      rw [p_X4_layHeads_6, il (by omega) (by omega)]
      by_cases e : 130 ≤ p
      · rw [if_pos e]
        exact ⟨N, rfl, hS, fun q q1 q2 => hq q q1 (by omega)⟩
      · rw [if_neg e, hN1.2.1, it (by omega) (by omega)]
        have fin : ∀ v : Int32, v = hN n sg bk ru p → ∃ M1, p_X4_layHeads_36 (p_X4_layHeads_6 m) (nI p) v (nI p) N = some M1 ∧ Sam M M1 ∧ HdM M1 n sg bk ru := by
          intro v hv
          unfold p_X4_layHeads_36
          rw [st_ok (by omega) (by omega), nI_add]
          simp only [Option.bind_some]
          refine ih (p + 1) _ (by omega) (by omega) (by omega) hN1 hS (fun q q1 q2 => ?_)
          show upd (N 11) p v q = _
          by_cases w : q = p
          · rw [w, ud_s, hv]
          · rw [ud_n w]; exact hq q q1 (by omega)
        by_cases q : (curP sg bk ru n).1 < p
        · rw [if_pos q]
          exact fin _ (by unfold hN; rw [if_neg (by omega)])
        · rw [if_neg q, rheadOf_ok hr hN1 a (by omega)]
          simp only [Option.bind_some]
          exact fin _ (by unfold hN; rw [if_pos (by omega)])
  exact key 200 1 M0 (by omega) (by omega) (by omega) g3 ⟨s0, s1, s2, s3, s4⟩ (fun q a b => by omega)
theorem ud_id {f : Nat → Int32} {k : Nat} : upd f k (f k) = f := by
  funext i
  by_cases e : i = k
  · rw [e, ud_s]
  · rw [ud_n e]
theorem flp_up {j : Nat} : flp bk (some j) = va_up bk j (1 - bk j) := by
  funext i
  unfold flp
  by_cases e : i = j
  · rw [e, up_s, if_pos rfl]
  · rw [up_n e, if_neg (fun h => e (Option.some.inj h))]
theorem cb_ok {M : Ob} {j : Nat} (hM : StOK (M 0) n sg bk ru) (hr : RuOK ru) (hH : HdM M n sg bk ru) (hj : j < n) : ∃ M1, p_X4_changedBy (nI j) M = some (nI (dfc n sg bk ru j), M1) ∧ Sam M M1 ∧ M1 11 = M 11 := by
  have hn := hM.2.1
  obtain ⟨-, b1, -, b2⟩ := hM.2.2.1 j hj
  have hM2 : StOK (upd (M 0) (60 + j) (nI (1 - bk j))) n sg (flp bk (some j)) ru := by
    rw [flp_up]; exact cut_st hM (by omega) (by omega)
  have p2 := PG_lt (sg := sg) (bk := flp bk (some j)) (ru := ru) hn
  unfold p_X4_changedBy
  rw [nI_add, ld_ok (by omega) (by omega), b1]
  simp only [Option.bind_some]
  rw [pk_sub (show bk j ≤ 1 by omega), st_ok (by omega) (by omega)]
  simp only [Option.bind_some]
  obtain ⟨N, g1, ⟨s0, s1, s2, s3, s4, s5⟩, g3⟩ := layPages_ok (M := va_up M 0 (upd (M 0) (60 + j) (nI (1 - bk j)))) hM2
  rw [g1]
  simp only [Option.bind_some]
  have t0 : N 0 = upd (M 0) (60 + j) (nI (1 - bk j)) := s0
  have t5 : N 11 = M 11 := s5
  have key : ∀ (m p : Nat), 1 ≤ p → p ≤ 130 → 130 < p + m → ∃ M1, p_X4_changedBy_28 m (nI j) (nI (pcn (dif n sg bk ru j) (p - 1))) (nI p) N = some (nI (dfc n sg bk ru j), M1) ∧ Sam M M1 ∧ M1 11 = M 11 := by
    intro m
    induction m with
    | zero => intro p a b c; omega
    | succ m ih =>
      intro p a b c
      rw [p_X4_changedBy_28, il (by omega) (by omega)]
      by_cases e : 130 ≤ p
      · have hp : p = 130 := by omega
        subst hp
        rw [if_pos e, nI_add, ld_ok (by omega) (by omega), t0, ud_s]
        simp only [Option.bind_some]
        rw [pk_sub (show 1 - bk j ≤ 1 by omega), st_ok (by omega) (by omega), t0, show 1 - (1 - bk j) = bk j by omega, ← b1, ud_ud, ud_id]
        exact ⟨_, rfl, ⟨rfl, s1, s2, s3, s4⟩, t5⟩
      · have ih' := ih (p + 1) (by omega) (by omega) (by omega)
        rw [show p + 1 - 1 = (p - 1) + 1 by omega, pcn, show p - 1 + 1 = p by omega] at ih'
        have fin : ∀ v : Int32, v = hN n sg (flp bk (some j)) ru p → ∃ M1, p_X4_changedBy_60 (p_X4_changedBy_28 m) (nI j) (nI p) v (hN n sg bk ru p) (nI (pcn (dif n sg bk ru j) (p - 1))) N = some (nI (dfc n sg bk ru j), M1) ∧ Sam M M1 ∧ M1 11 = M 11 := by
          intro v hv
          subst hv
          unfold p_X4_changedBy_60 p_X4_changedBy_68
          rw [nI_add, nI_add, nI_add]
          by_cases q : hN n sg bk ru p = hN n sg (flp bk (some j)) ru p
          · rw [if_neg (show ¬ dif n sg bk ru j p = true by simp [dif, q])] at ih'
            rw [if_pos q]; exact ih'
          · rw [if_pos (show dif n sg bk ru j p = true by simp [dif, q])] at ih'
            rw [if_neg q]; exact ih'
        rw [if_neg e, ld_ok (by omega) (by omega), t5, hH p a (by omega), g3.2.1]
        simp only [Option.bind_some]
        rw [it (by omega) (by omega)]
        by_cases q : (curP sg (flp bk (some j)) ru n).1 < p
        · rw [if_pos q]
          exact fin _ (by unfold hN; rw [if_neg (by omega)])
        · rw [if_neg q, rheadOf_ok hr g3 a (by omega)]
          simp only [Option.bind_some]
          exact fin _ (by unfold hN; rw [if_pos (by omega)])
  exact key 200 1 (by omega) (by omega) (by omega)
theorem k_changed : K_changed Inv := by
  intro S M x hI
  have hI' := hI
  obtain ⟨⟨X, hT⟩, hIP, hIJ⟩ := hI
  obtain ⟨⟨n, sg, bk, ru⟩, hX⟩ : ∃ Y : TX, Y = X := ⟨_, rfl⟩
  subst hX
  obtain ⟨hB, hL, hM, hR⟩ := hT
  have b2 : n ≤ 60 := hB.1.1
  have b6 : S 2 3 0 = nI n := hB.2.1
  have hM' : StOK (M 0) n sg bk ru := hM
  unfold p_X3_changed p_X4_changed p_X0_canBreakAhead
  rw [r_many hM', b6]
  simp only [Option.bind_some]
  rcases x3 x n (by omega) with h | h | ⟨j, hj, rfl⟩
  · rw [if_pos (neg_lt h (by omega)), in_lo (neg_lt h (by omega))]
    exact ⟨_, _, _, rfl, rfl, hI'⟩
  · by_cases h1 : x < nI 1
    · rw [if_pos h1, in_lo h1]
      exact ⟨_, _, _, rfl, rfl, hI'⟩
    · rw [if_neg h1, if_pos h, in_hi (ge_pred h (by omega))]
      exact ⟨_, _, _, rfl, rfl, hI'⟩
  · rw [it (by omega) (by omega), il (by omega) (by omega), pk_sub (show 1 ≤ n by omega), r_in (by omega) (by omega) (by omega)]
    by_cases h1 : j < 1
    · rw [if_pos h1, if_neg (show ¬ (1 ≤ j ∧ j ≤ n - 1) by omega)]
      exact ⟨_, _, _, rfl, rfl, hI'⟩
    · rw [if_neg h1, if_neg (show ¬ n ≤ j by omega), if_pos (show 1 ≤ j ∧ j ≤ n - 1 by omega)]
      simp only [Option.bind_some]
      rw [if_neg (show ¬ nI 1 = nI 0 by decide), if_neg (show ¬ nI 1 = nI 0 by decide)]
      obtain ⟨L1, c1⟩ := cc_ok hB hL hR hj
      obtain ⟨M1, d1, d2, d3⟩ := layHeads_ok hM' (RuR.ok hR)
      obtain ⟨M2, e1, e2, e3⟩ := cb_ok (M := M1) (by rw [d2.1]; exact hM') (RuR.ok hR) d3 hj
      rw [c1, d1]
      simp only [Option.bind_some]
      rw [e1]
      exact ⟨_, _, _, rfl, rfl, ((hI'.sam d2).sam e2).six⟩
theorem worst_loop {x : Int32} {X : TX} : ∀ (m l : Nat) (S : Nat → Ob) (M : Ob) (y z : Int32), 1 ≤ l → l ≤ X.1 + 1 → X.1 + 1 < l + m → Inv S M → IT S M X → HdM M X.1 X.2.1 X.2.2.1 X.2.2.2 → (y = -6 ∨ ∃ c, c < 100 ∧ y = nI c) → ∃ r S1 M1, p_X3_worst_20 m x y z (nI l) S = some (r, S1) ∧ p_X4_worst_24 m x y z (nI l) M = some (r, M1) ∧ Inv S1 M1 := by
  obtain ⟨n, sg, bk, ru⟩ := X
  intro m
  induction m with
  | zero => intro l S M y z a b c; simp only at b c; omega
  | succ m ih =>
    intro l S M y z a b c hI hT hH hy
    simp only at b c hH
    obtain ⟨hB, hL, hM, hR⟩ := hT
    have b2 : n ≤ 60 := hB.1.1
    have b6 : S 2 3 0 = nI n := hB.2.1
    have hM' : StOK (M 0) n sg bk ru := hM
    rw [p_X3_worst_20, p_X4_worst_24, r_many hM', b6]
    simp only [Option.bind_some]
    rw [il (by omega) (by omega), il (by omega) (by omega)]
    by_cases e : n ≤ l
    · rw [if_pos e, if_pos e]
      by_cases e2 : x = nI 0
      · rw [if_pos e2, if_pos e2]; exact ⟨_, _, _, rfl, rfl, hI⟩
      · rw [if_neg e2, if_neg e2]; exact ⟨_, _, _, rfl, rfl, hI⟩
    · rw [if_neg e, if_neg e]
      obtain ⟨L1, c1⟩ := cc_ok hB hL hR (show l < n by omega)
      obtain ⟨M2, e1, e2, e3⟩ := cb_ok (M := M) hM' (RuR.ok hR) hH (show l < n by omega)
      have hI2 : Inv (va_up S 6 L1) M2 := (hI.sam e2).six
      have hT2 : IT (va_up S 6 L1) M2 (n, sg, bk, ru) := IT.keep ⟨hB, hL, hM, hR⟩ rfl rfl e2.1
      have hH2 : HdM M2 n sg bk ru := fun p a b => by rw [e3]; exact hH p a b
      have nxt := fun (y z : Int32) (hy : y = -6 ∨ ∃ c, c < 100 ∧ y = nI c) => ih (l + 1) (va_up S 6 L1) M2 y z (by omega) (by show l + 1 ≤ n + 1; omega) (by show n + 1 < l + 1 + m; omega) hI2 hT2 hH2 hy
      rw [c1, e1]
      simp only [bind2]
      unfold p_X3_worst_52 p_X3_worst_58 p_X4_worst_51 p_X4_worst_57
      rw [nI_add]
      rcases hy with hy | ⟨c, hc, hy⟩
      · subst hy
        rw [if_pos rfl, if_pos (show (-6 : Int32) < nI 0 by decide)]
        exact nxt _ _ (Or.inr ⟨l, by omega, rfl⟩)
      · subst hy
        rw [if_neg (n_ne6 (by omega)), if_neg (n_neg c (by omega))]
        by_cases w : nI (dfc n sg bk ru l) ≤ z
        · rw [if_pos w, if_pos w]; exact nxt _ _ (Or.inr ⟨c, hc, rfl⟩)
        · rw [if_neg w, if_neg w]; exact nxt _ _ (Or.inr ⟨l, by omega, rfl⟩)
theorem k_worst : K_worst Inv := by
  intro S M x hI
  have hI' := hI
  obtain ⟨⟨X, hT⟩, hIP, hIJ⟩ := hI
  obtain ⟨⟨n, sg, bk, ru⟩, hX⟩ : ∃ Y : TX, Y = X := ⟨_, rfl⟩
  subst hX
  have hT' := hT
  obtain ⟨hB, hL, hM, hR⟩ := hT
  have b2 : n ≤ 60 := hB.1.1
  have hM' : StOK (M 0) n sg bk ru := hM
  obtain ⟨M1, d1, d2, d3⟩ := layHeads_ok hM' (RuR.ok hR)
  have go : ∃ r S1 M2, p_X3_worst_20 200 x (-6) (nI 0) (nI 1) S = some (r, S1) ∧ p_X4_worst_24 200 x (-6) (nI 0) (nI 1) M1 = some (r, M2) ∧ Inv S1 M2 :=
    worst_loop (X := (n, sg, bk, ru)) 200 1 S M1 (-6) (nI 0) (by omega) (by show 1 ≤ n + 1; omega) (by show n + 1 < 1 + 200; omega) (hI'.sam d2) (hT'.keep rfl rfl d2.1) d3 (Or.inl rfl)
  unfold p_X3_worst p_X4_worst p_X3_worst_12
  rcases x3 x 2 (by omega) with h | h | ⟨c, hc, rfl⟩
  · rw [in_lo h, if_neg (fun q => by rw [q] at h; exact absurd h (n_neg 0 (by omega))), if_neg (fun q => by rw [q] at h; exact absurd h (n_neg 1 (by omega)))]
    exact ⟨_, _, _, rfl, rfl, hI'⟩
  · rw [in_hi (ge_lt h (by omega) (by omega)), if_neg (fun q => by rw [q] at h; exact absurd h (by decide)), if_neg (fun q => by rw [q] at h; exact absurd h (by decide))]
    exact ⟨_, _, _, rfl, rfl, hI'⟩
  · rw [r_in (by omega) (by omega) (by omega), if_pos (show 0 ≤ c ∧ c ≤ 1 by omega), d1]
    simp only [Option.bind_some]
    rw [if_neg (show ¬ nI 1 = nI 0 by decide)]
    rcases (show c = 0 ∨ c = 1 by omega) with z | z <;> subst z
    · rw [if_pos rfl]; exact go
    · rw [if_neg (show ¬ nI 1 = nI 0 by decide), if_pos rfl]; exact go
end KCHG
