/-! the lines of one chapter -/
def csN (sg : Nat → Nat) (j s : Nat) : Nat → Nat
  | 0 => 0
  | l + 1 => csN sg j s l + (if chn sg (l + 1) = j + 1 ∧ (s = 0 ∨ isS (sg l) = true) then 1 else 0)
/-- lines a to b are chapter j's -/
def ChR (sg : Nat → Nat) (n j a b : Nat) : Prop := a ≤ b ∧ b < n ∧ (∀ l, l < n → (chn sg (l + 1) = j + 1 ↔ a ≤ l ∧ l ≤ b)) ∧ (∀ l, l < a → chn sg (l + 1) ≤ j) ∧ (∀ l, b < l → l < n → j + 1 < chn sg (l + 1))
section CHAP2
variable {sg bk ru : Nat → Nat} {n : Nat}
theorem chr_ex {j : Nat} (h : j < chn sg n) : ∃ a b, ChR sg n j a b := by
  have hn : 1 ≤ n := by
    rcases Nat.eq_zero_or_pos n with q | q
    · subst q; exact absurd h (Nat.not_lt_zero _)
    · exact q
  obtain ⟨a, ha, hal⟩ := pk_least (fun l => j + 1 ≤ chn sg (l + 1)) ⟨n - 1, by show j + 1 ≤ chn sg (n - 1 + 1); rw [show n - 1 + 1 = n by omega]; omega⟩
  obtain ⟨c, hc, hcl⟩ := pk_least (fun l => l = n ∨ j + 1 < chn sg (l + 1)) ⟨n, Or.inl rfl⟩
  have an : a < n := by
    rcases Nat.lt_or_ge a n with q | q
    · exact q
    · have := hal (n - 1) (by omega)
      exact absurd (show j + 1 ≤ chn sg (n - 1 + 1) by rw [show n - 1 + 1 = n by omega]; omega) this
  have cn : c ≤ n := by
    rcases Nat.lt_or_ge n c with q | q
    · exact absurd (Or.inl rfl) (hcl n q)
    · exact q
  have ea : chn sg (a + 1) = j + 1 := by
    have hst := chn_step (sg := sg) a
    have ha' : j + 1 ≤ chn sg (a + 1) := ha
    rcases Nat.eq_zero_or_pos a with q | q
    · subst q
      have : chn sg 0 = 0 := rfl
      omega
    · have h1 := hal (a - 1) (by omega)
      have h2 : ¬ j + 1 ≤ chn sg (a - 1 + 1) := h1
      rw [show a - 1 + 1 = a by omega] at h2
      omega
  have ac : a < c := by
    rcases Nat.lt_or_ge a c with q | q
    · exact q
    · rcases hc with e | e
      · omega
      · have := chn_mono (sg := sg) (show c + 1 ≤ a + 1 by omega)
        omega
  have lo : ∀ l, l < a → chn sg (l + 1) ≤ j := fun l hl => by
    have h1 : ¬ j + 1 ≤ chn sg (l + 1) := hal l hl
    omega
  have hi : ∀ l, c - 1 < l → l < n → j + 1 < chn sg (l + 1) := fun l hl hln => by
    rcases hc with e | e
    · omega
    · have := chn_mono (sg := sg) (show c + 1 ≤ l + 1 by omega)
      omega
  refine ⟨a, c - 1, by omega, by omega, fun l hl => ⟨fun e => ?_, fun e => ?_⟩, lo, hi⟩
  · refine ⟨?_, ?_⟩
    · rcases Nat.lt_or_ge l a with q | q
      · have := lo l q; omega
      · exact q
    · rcases Nat.lt_or_ge (c - 1) l with q | q
      · have := hi l q hl; omega
      · exact q
  · have h1 := chn_mono (sg := sg) (show a + 1 ≤ l + 1 by omega)
    have h2 : ¬ (l = n ∨ j + 1 < chn sg (l + 1)) := hcl l (by omega)
    have h3 : ¬ j + 1 < chn sg (l + 1) := fun x => h2 (Or.inr x)
    omega
theorem nj (j : Nat) : nI j = nI (j + 1) - nI 1 := by rw [pk_sub (by omega)]; rfl
theorem titleLineOf_ok {L : Ob} {j a b pg : Nat} (hn : n ≤ 60) (hL : LJ L n sg bk ru n pg) (h : ChR sg n j a b) (hj : j < 60) : p_X1_titleLineOf L (nI j) = some (nI a) := by
  obtain ⟨h1, h2, h3, h4, h5⟩ := h
  have hea : chn sg (a + 1) = j + 1 := (h3 a (by omega)).mpr ⟨Nat.le_refl _, h1⟩
  have key : ∀ (m k : Nat), k ≤ a → a < k + m → p_X1_titleLineOf_2 L m (nI j) (nI k) = some (nI a) := by
    intro m
    induction m with
    | zero => intro k x y; omega
    | succ m ih =>
      intro k x y
      have hc := chn_le (sg := sg) (k + 1)
      rw [p_X1_titleLineOf_2, hL.1, pk_sub (by omega), il (by omega) (by omega)]
      by_cases e : n - 1 ≤ k
      · rw [if_pos e, show k = a by omega]
      · rw [if_neg e, ld_ok (by omega) (by omega), (hL.2.2.1 k (by omega)).2.1]
        simp only [Option.bind_some]
        by_cases c : k = a
        · subst c
          rw [if_pos (by rw [nj j]; exact (s1_le (by omega) (by omega)).mpr (by omega))]
        · have := h4 k (by omega)
          rw [if_neg (fun q => by rw [nj j] at q; have := (s1_le (by omega) (by omega)).mp q; omega), nI_add]
          exact ih (k + 1) (by omega) (by omega)
  exact key 200 0 (Nat.zero_le _) (by omega)
theorem lastLineOf_ok {L : Ob} {j a b pg : Nat} (hn : n ≤ 60) (hL : LJ L n sg bk ru n pg) (h : ChR sg n j a b) (hj : j < 60) : p_X1_lastLineOf L (nI j) = some (nI b) := by
  obtain ⟨h1, h2, h3, h4, h5⟩ := h
  have heb : chn sg (b + 1) = j + 1 := (h3 b h2).mpr ⟨h1, Nat.le_refl _⟩
  have key : ∀ (m k : Nat), b ≤ k → k < n → k < b + m → p_X1_lastLineOf_7 L m (nI j) (nI k) = some (nI b) := by
    intro m
    induction m with
    | zero => intro k x y z; omega
    | succ m ih =>
      intro k x y z
      have hc := chn_le (sg := sg) (k + 1)
      rw [p_X1_lastLineOf_7, il (by omega) (by omega)]
      by_cases e : k ≤ 0
      · rw [if_pos e, show k = b by omega]
      · rw [if_neg e, ld_ok (by omega) (by omega), (hL.2.2.1 k (by omega)).2.1]
        simp only [Option.bind_some]
        by_cases c : k = b
        · subst c
          rw [if_pos (by rw [nj j]; exact (s1_le (by omega) (by omega)).mpr (by omega))]
        · have := h5 k (by omega) y
          rw [if_neg (fun q => by rw [nj j] at q; have := (s1_le (by omega) (by omega)).mp q; omega), show nI k + (-1) = nI (k - 1) from sb_m1 (by omega)]
          exact ih (k - 1) (by omega) (by omega) (by omega)
  unfold p_X1_lastLineOf
  rw [hL.1, pk_sub (by omega)]
  exact key 200 (n - 1) (by omega) (by omega) (by omega)
theorem rTitle_ok {M : Ob} {j a b : Nat} (hM : StOK (M 0) n sg bk ru) (h : ChR sg n j a b) (hj : j < 60) : p_X4_titleLine M (nI j) = some (nI a) := by
  have hn := hM.2.1
  obtain ⟨h1, h2, h3, h4, h5⟩ := h
  have hcj : nI j = cv (j + 1) := by unfold cv; rw [if_neg (by omega)]; rfl
  have key : ∀ (k m : Nat), k ≤ n → k < m → p_X4_titleLine_10 M m (nI j) (if b < k then -6 else if a ≤ k then nI k else nI a) (nI k - nI 1) = some (nI a) := by
    intro k
    induction k with
    | zero =>
      intro m x y
      obtain ⟨m, rfl⟩ : ∃ m', m = m' + 1 := ⟨m - 1, by omega⟩
      rw [p_X4_titleLine_10, if_pos (by decide), if_neg (by omega)]
      by_cases e : a ≤ 0
      · rw [if_pos e, show a = 0 by omega]
      · rw [if_neg e]
    | succ k ih =>
      intro m x y
      obtain ⟨m, rfl⟩ : ∃ m', m = m' + 1 := ⟨m - 1, by omega⟩
      have hc := chn_le (sg := sg) (k + 1)
      have hk := h3 k (by omega)
      rw [p_X4_titleLine_10, pk_sub (by omega), show k + 1 - 1 = k by omega, it (by omega) (by omega), if_neg (by omega), chapterOf_ok hM (by omega)]
      simp only [Option.bind_some]
      unfold p_X4_titleLine_28
      have ih' := ih m (by omega) (by omega)
      rw [show nI k + (-1) = nI k - nI 1 from (Int32.sub_eq_add_neg _ _).symm]
      by_cases e : chn sg (k + 1) = j + 1
      · have := hk.mp e
        rw [if_pos (by rw [hcj]; exact (cv_inj (by omega) (by omega)).mpr e)]
        rw [if_neg (by omega), if_pos (by omega)] at ih'
        exact ih'
      · have hno : ¬ (a ≤ k ∧ k ≤ b) := fun q => e (hk.mpr q)
        rw [if_neg (fun q => by rw [hcj] at q; exact e ((cv_inj (by omega) (by omega)).mp q))]
        have : (if b < k + 1 then (-6 : Int32) else if a ≤ k + 1 then nI (k + 1) else nI a) = (if b < k then -6 else if a ≤ k then nI k else nI a) := by
          by_cases q1 : b < k
          · rw [if_pos q1, if_pos (by omega)]
          · have q2 : k < a := by omega
            rw [if_neg q1, if_neg (show ¬ b < k + 1 by omega), if_neg (show ¬ a ≤ k by omega)]
            by_cases q3 : a ≤ k + 1
            · rw [if_pos q3, show a = k + 1 by omega]
            · rw [if_neg q3]
        rw [this]
        exact ih'
  unfold p_X4_titleLine
  rw [r_many hM]
  simp only [Option.bind_some]
  have := key n 200 (Nat.le_refl _) (by omega)
  rw [if_pos h2] at this
  exact this
theorem csN_le (j s : Nat) : ∀ l : Nat, csN sg j s l ≤ l
  | 0 => Nat.le_refl _
  | l + 1 => by
    rw [csN]
    have := csN_le j s l
    split <;> omega
theorem linesOf_ok {M : Ob} {j s : Nat} (hM : StOK (M 0) n sg bk ru) (hj : j < 60) (hs : s ≤ 1) : p_X4_linesOf M (nI j) (nI s) = some (nI (csN sg j s n)) := by
  have hn := hM.2.1
  have hcj : nI j = cv (j + 1) := by unfold cv; rw [if_neg (by omega)]; rfl
  have key : ∀ (m k : Nat), k ≤ n → n < k + m → p_X4_linesOf_5 M m (nI j) (nI s) (nI (csN sg j s k)) (nI k) = some (nI (csN sg j s n)) := by
    intro m
    induction m with
    | zero => intro k x y; omega
    | succ m ih =>
      intro k x y
      rw [p_X4_linesOf_5, r_many hM]
      simp only [Option.bind_some]
      rw [il (by omega) (by omega)]
      by_cases e : n ≤ k
      · rw [if_pos e, show k = n by omega]
      · obtain ⟨a1, a2, a3, a4⟩ := hM.2.2.1 k (by omega)
        have hs' := okS_lt a3
        have hc := chn_le (sg := sg) (k + 1)
        have ih' := ih (k + 1) (by omega) (by omega)
        rw [csN] at ih'
        rw [if_neg e, chapterOf_ok hM (by omega)]
        simp only [Option.bind_some]
        rw [nI_add, show 0 + k = k by omega, ld_ok (by omega) (by omega), a1]
        simp only [Option.bind_some]
        rw [r_isS (by omega)]
        simp only [Option.bind_some]
        unfold p_X4_linesOf_44 p_X4_linesOf_48 p_X4_linesOf_49
        rw [nI_add, nI_add, nI_add, ie (by omega) (by omega)]
        by_cases c : chn sg (k + 1) = j + 1
        · rw [if_pos (by rw [hcj]; exact (cv_inj (by omega) (by omega)).mpr c)]
          by_cases s0 : s = 0
          · rw [if_pos ⟨c, Or.inl s0⟩] at ih'
            rw [if_pos s0]; exact ih'
          · rw [if_neg s0]
            by_cases es : isS (sg k) = true
            · rw [if_pos ⟨c, Or.inr es⟩] at ih'
              rw [if_pos es, if_neg (by decide)]; exact ih'
            · rw [if_neg (fun q => by rcases q.2 with z | z; exact s0 z; exact es z)] at ih'
              rw [if_neg es, if_pos rfl]; exact ih'
        · rw [if_neg (fun q => c q.1)] at ih'
          rw [if_neg (fun q => by rw [hcj] at q; exact c ((cv_inj (by omega) (by omega)).mp q))]
          exact ih'
  exact key 200 0 (Nat.zero_le _) (by omega)
theorem csN_all {j a b : Nat} (h : ChR sg n j a b) : ∀ l : Nat, l ≤ n → csN sg j 0 l = min l (b + 1) - a
  | 0, _ => by rw [csN]; omega
  | l + 1, hl => by
    have ih := csN_all h l (by omega)
    have h3 := h.2.2.1 l (by omega)
    have h1 := h.1
    rw [csN, ih]
    by_cases e : chn sg (l + 1) = j + 1
    · have := h3.mp e
      rw [if_pos ⟨e, Or.inl rfl⟩]; omega
    · have : ¬ (a ≤ l ∧ l ≤ b) := fun q => e (h3.mpr q)
      rw [if_neg (fun q => e q.1)]; omega
theorem csN_low {j a b s : Nat} (h : ChR sg n j a b) : ∀ l : Nat, l ≤ a → csN sg j s l = 0
  | 0, _ => rfl
  | l + 1, hl => by
    rw [csN, csN_low h l (by omega), if_neg (fun q => by have := h.2.2.2.1 l (by omega); omega)]
theorem csN_high {j a b s : Nat} (h : ChR sg n j a b) : ∀ l : Nat, b + 1 ≤ l → l ≤ n → csN sg j s l = csN sg j s (b + 1) := by
  intro l
  induction l with
  | zero => intro x y; omega
  | succ l ih =>
    intro x y
    rcases Nat.lt_or_ge b l with q | q
    · rw [csN, ih (by omega) (by omega), if_neg (fun z => by have := h.2.2.2.2 l q (by omega); omega)]; rfl
    · rw [show l = b by omega]
theorem countSections_ok {B : Ob} {j a b : Nat} (hB : BL B n sg ru) (h : ChR sg n j a b) (hj : j < 60) : p_X0_countSections B (nI a) (nI b) = some (nI (csN sg j 1 n)) := by
  obtain ⟨b2, b3, b4, b9, b5⟩ := hB
  have h' := h
  obtain ⟨h1, h2, h3, h4, h5⟩ := h'
  have key : ∀ (m k : Nat), a ≤ k → k ≤ b + 1 → b + 1 < k + m → p_X0_countSections_5 B m (nI b) (nI (csN sg j 1 k)) (nI k) = some (nI (csN sg j 1 (b + 1))) := by
    intro m
    induction m with
    | zero => intro k x y z; omega
    | succ m ih =>
      intro k x y z
      have hcl := csN_le (sg := sg) j 1 k
      rw [p_X0_countSections_5, it (by omega) (by omega)]
      by_cases e : b < k
      · rw [if_pos e, show k = b + 1 by omega]
      · obtain ⟨s1, s2⟩ := b3 k (by omega)
        have ih' := ih (k + 1) (by omega) (by omega) (by omega)
        have hk := (h3 k (by omega)).mpr ⟨by omega, by omega⟩
        rw [csN] at ih'
        rw [if_neg e, ld_ok (by omega) (by omega), s1]
        simp only [Option.bind_some]
        rw [p_classOf _ (by have := sgC_lt s2; omega), isC_sgC, isS_sgC]
        simp only [Option.bind_some]
        unfold p_X0_countSections_28
        rw [nI_add, nI_add]
        by_cases ec : isC (sg k) = true
        · have es : ¬ isS (sg k) = true := fun q => by have := isC_iff.mp ec; have := isS_iff.mp q; omega
          rw [if_pos ec, if_neg (by decide)]
          rw [if_neg (fun q => by rcases q.2 with w | w; omega; exact es w)] at ih'
          exact ih'
        · rw [if_neg ec]
          by_cases es : isS (sg k) = true
          · rw [if_pos ⟨hk, Or.inr es⟩] at ih'
            rw [if_pos es, if_pos rfl]
            exact ih'
          · rw [if_neg (fun q => by rcases q.2 with w | w; omega; exact es w)] at ih'
            rw [if_neg es, if_neg (by decide)]
            exact ih'
  unfold p_X0_countSections
  rw [csN_high h n (by omega) (Nat.le_refl _)]
  have := key 200 a (Nat.le_refl _) (by omega) (by omega)
  rw [csN_low h a (Nat.le_refl _)] at this
  exact this
end CHAP2
