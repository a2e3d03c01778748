/-! chapters, on both sides -/
def cv (m : Nat) : Int32 := if m = 0 then -6 else nI (m - 1)
def shP (n : Nat) (sg bk ru : Nat → Nat) (p : Nat) : Bool := decide (cnt sg bk ru n p ≠ 0) && decide (max (chn sg (bef sg bk ru n p + 1)) 1 < chn sg (bef sg bk ru n p + cnt sg bk ru n p))
theorem s1_lt {a b : Nat} (ha : a < 2000) (hb : b < 2000) : (nI a - nI 1 < nI b - nI 1) ↔ a < b := by
  rw [Int32.lt_iff_toInt_lt, pk_sub_toInt (by omega) (by omega), pk_sub_toInt (by omega) (by omega)]
  omega
theorem s1_le {a b : Nat} (ha : a < 2000) (hb : b < 2000) : (nI a - nI 1 ≤ nI b - nI 1) ↔ a ≤ b := by
  rw [Int32.le_iff_toInt_le, pk_sub_toInt (by omega) (by omega), pk_sub_toInt (by omega) (by omega)]
  omega
theorem cv_neg {m : Nat} (h : m < 2000) : cv m < nI 0 ↔ m = 0 := by
  unfold cv
  by_cases e : m = 0
  · rw [if_pos e]; exact ⟨fun _ => e, fun _ => by decide⟩
  · rw [if_neg e, n_lt (by omega) (by omega)]; omega
theorem cv_nn {m : Nat} (h : m < 2000) : nI 0 ≤ cv m ↔ m ≠ 0 := by
  unfold cv
  by_cases e : m = 0
  · rw [if_pos e]; exact ⟨fun x => absurd x (by decide), fun x => absurd e x⟩
  · rw [if_neg e, n_le (by omega) (by omega)]; omega
theorem cv_inj {a b : Nat} (ha : a < 2000) (hb : b < 2000) : cv a = cv b ↔ a = b := by
  unfold cv
  by_cases ea : a = 0
  · rw [if_pos ea]
    by_cases eb : b = 0
    · rw [if_pos eb]; exact ⟨fun _ => by omega, fun _ => rfl⟩
    · rw [if_neg eb]
      exact ⟨fun x => absurd x.symm (n_ne6 (by omega)), fun x => by omega⟩
  · rw [if_neg ea]
    by_cases eb : b = 0
    · rw [if_pos eb]; exact ⟨fun x => absurd x (n_ne6 (by omega)), fun x => by omega⟩
    · rw [if_neg eb, n_eq (by omega) (by omega)]; omega
section CHAP
variable {sg bk ru : Nat → Nat} {n : Nat}
theorem chn_step (k : Nat) : chn sg k ≤ chn sg (k + 1) ∧ chn sg (k + 1) ≤ chn sg k + 1 := by
  rw [chn]
  split <;> omega
theorem chn_mono {j k : Nat} (h : j ≤ k) : chn sg j ≤ chn sg k := by
  induction k with
  | zero => rw [Nat.le_zero.mp h]; exact Nat.le_refl _
  | succ k ih =>
    rcases Nat.lt_or_ge j (k + 1) with q | q
    · exact Nat.le_trans (ih (by omega)) (chn_step k).1
    · rw [show j = k + 1 by omega]; exact Nat.le_refl _
theorem chn_le (k : Nat) : chn sg k ≤ k := by
  induction k with
  | zero => exact Nat.le_refl _
  | succ k ih => have := (chn_step (sg := sg) k).2; omega
theorem chapterOf_ok {M : Ob} {l : Nat} (hM : StOK (M 0) n sg bk ru) (hl : l < n) : p_X4_chapterOf M (nI l) = some (cv (chn sg (l + 1))) := by
  have hn := hM.2.1
  have key : ∀ (m k : Nat), k ≤ l + 1 → l + 1 < k + m → p_X4_chapterOf_5 M m (nI l) (cv (chn sg k)) (nI k) = some (cv (chn sg (l + 1))) := by
    intro m
    induction m with
    | zero => intro k a b; omega
    | succ m ih =>
      intro k a b
      rw [p_X4_chapterOf_5, it (by omega) (by omega)]
      by_cases e : l < k
      · have : k = l + 1 := by omega
        subst this
        rw [if_pos e]
      · obtain ⟨a1, a2, a3, a4⟩ := hM.2.2.1 k (by omega)
        have hs := okS_lt a3
        have ih' := ih (k + 1) (by omega) (by omega)
        have hc := chn_le (sg := sg) k
        rw [if_neg e, nI_add, show 0 + k = k by omega, ld_ok (by omega) (by omega), a1]
        simp only [Option.bind_some]
        rw [r_isC (by omega)]
        simp only [Option.bind_some]
        unfold p_X4_chapterOf_39
        rw [nI_add]
        by_cases ec : isC (sg k) = true
        · rw [if_pos ec, if_neg (by decide)]
          rw [chn, if_pos ec] at ih'
          by_cases e0 : chn sg k = 0
          · rw [if_neg (fun x => (cv_nn (by omega)).mp x e0)]
            rw [e0] at ih'
            exact ih'
          · rw [if_pos ((cv_nn (by omega)).mpr e0)]
            have : cv (chn sg k) + nI 1 = cv (chn sg k + 1) := by
              unfold cv
              rw [if_neg e0, if_neg (by omega), nI_add, show chn sg k - 1 + 1 = chn sg k + 1 - 1 by omega]
            rw [this]
            exact ih'
        · rw [if_neg ec, if_pos rfl]
          rw [chn, if_neg ec, Nat.add_zero] at ih'
          exact ih'
  exact key 200 0 (by omega) (by omega)
theorem isShared_ok {L : Ob} {p : Nat} (hn : n ≤ 60) (hL : LJ L n sg bk ru n (curP sg bk ru n).1) (hp1 : 1 ≤ p) (hp2 : p ≤ (curP sg bk ru n).1) : p_X1_isShared L (nI p) = some (if shP n sg bk ru p = true then nI 1 else nI 0) := by
  have hpg := PG_lt (sg := sg) (bk := bk) (ru := ru) hn
  obtain ⟨g4, g5, g6, g7⟩ := hL.2.2.2 p hp1 hp2
  have hbc := cnt_le (sg := sg) (bk := bk) (ru := ru) (p := p) n
  unfold p_X1_isShared
  rw [ld_ok (by omega) (by omega), g5]
  simp only [Option.bind_some]
  rw [ie (by omega) (by omega)]
  by_cases e0 : cnt sg bk ru n p = 0
  · rw [if_pos e0, if_neg (by simp [shP, e0])]
  · obtain ⟨-, c1, -, -⟩ := hL.2.2.1 (bef sg bk ru n p + cnt sg bk ru n p - 1) (by omega)
    obtain ⟨-, c2, -, -⟩ := hL.2.2.1 (bef sg bk ru n p) (by omega)
    rw [show bef sg bk ru n p + cnt sg bk ru n p - 1 + 1 = bef sg bk ru n p + cnt sg bk ru n p by omega] at c1
    rw [if_neg e0, ld_ok (by omega) (by omega), g4]
    simp only [Option.bind_some]
    rw [nI_add, pk_sub (by omega), ld_ok (by omega) (by omega), c1, ld_ok (by omega) (by omega), c2]
    simp only [Option.bind_some]
    have h1 := chn_le (sg := sg) (bef sg bk ru n p + 1)
    have h2 := chn_le (sg := sg) (bef sg bk ru n p + cnt sg bk ru n p)
    have hsh : shP n sg bk ru p = true ↔ max (chn sg (bef sg bk ru n p + 1)) 1 < chn sg (bef sg bk ru n p + cnt sg bk ru n p) := by
      unfold shP
      simp [e0]
    generalize chn sg (bef sg bk ru n p + 1) = x at h1 hsh ⊢
    generalize chn sg (bef sg bk ru n p + cnt sg bk ru n p) = y at h2 hsh ⊢
    have hm : (if nI x - nI 1 < nI 0 then nI 0 else nI x - nI 1) = nI (max x 1) - nI 1 := by
      by_cases ex : x = 0
      · subst ex; rfl
      · rw [if_neg (by rw [pk_sub (by omega), n_lt (by omega) (by omega)]; omega), Nat.max_eq_left (by omega)]
    rw [hm]
    by_cases e : y ≤ max x 1
    · rw [if_pos ((s1_le (by omega) (by omega)).mpr e), if_neg (fun q => by have := hsh.mp q; omega)]
    · rw [if_neg (fun q => e ((s1_le (by omega) (by omega)).mp q)), if_pos (hsh.mpr (by omega))]
theorem rShared_ok {M : Ob} {p : Nat} (hM : MJ M n sg bk ru n (curP sg bk ru n).1) (hp1 : 1 ≤ p) (hp2 : p ≤ (curP sg bk ru n).1) : p_X4_isShared M (nI p) = some (if shP n sg bk ru p = true then nI 1 else nI 0) := by
  have hn := hM.1.2.1
  have hpg := PG_lt (sg := sg) (bk := bk) (ru := ru) hn
  obtain ⟨g9, g8⟩ := hM.2.2.2 p hp1 hp2
  have hbc := cnt_le (sg := sg) (bk := bk) (ru := ru) (p := p) n
  have hsh : ∀ y, y = chn sg (bef sg bk ru n p + cnt sg bk ru n p) → 1 ≤ cnt sg bk ru n p → (shP n sg bk ru p = true ↔ max (chn sg (bef sg bk ru n p + 1)) 1 < y) := by
    intro y hy hc
    unfold shP
    rw [hy]
    simp [show cnt sg bk ru n p ≠ 0 by omega]
  have hch : ∀ k, k ≤ 60 → chn sg k ≤ 60 := fun k hk => by have := chn_le (sg := sg) k; omega
  have key : ∀ (m k : Nat), 1 ≤ k → k ≤ cnt sg bk ru n p → cnt sg bk ru n p < k + m → p_X4_isShared_8 M m (nI p) (cv (chn sg (bef sg bk ru n p + k))) (nI (chn sg (bef sg bk ru n p + k) + 1 - max (chn sg (bef sg bk ru n p + 1)) 1)) (nI k) = some (if shP n sg bk ru p = true then nI 1 else nI 0) := by
    intro m
    induction m with
    | zero => intro k a b c; omega
    | succ m ih =>
      intro k k1 a b
      have hb1 := hch (bef sg bk ru n p + 1) (by omega)
      have hbk := hch (bef sg bk ru n p + k) (by omega)
      have hmo := chn_mono (sg := sg) (show bef sg bk ru n p + 1 ≤ bef sg bk ru n p + k by omega)
      rw [p_X4_isShared_8, ld_ok (by omega) (by omega), g9]
      simp only [Option.bind_some]
      rw [il (by omega) (by omega), il (by omega) (by omega)]
      by_cases e : cnt sg bk ru n p ≤ k
      · have : k = cnt sg bk ru n p := by omega
        rw [if_pos e]
        have hs := hsh _ rfl (by omega)
        rw [this]
        by_cases q : chn sg (bef sg bk ru n p + cnt sg bk ru n p) + 1 - max (chn sg (bef sg bk ru n p + 1)) 1 ≤ 1
        · rw [if_pos q, if_neg (fun x => by have := hs.mp x; omega)]
        · rw [if_neg q, if_pos (hs.mpr (by omega))]
      · rw [if_neg e, ld_ok (by omega) (by omega), g8, if_neg (by omega)]
        simp only [Option.bind_some]
        rw [nI_add, chapterOf_ok hM.1 (by omega)]
        simp only [Option.bind_some]
        have ih' := ih (k + 1) (by omega) (by omega) (by omega)
        have hst := chn_step (sg := sg) (bef sg bk ru n p + k)
        have hb2 := hch (bef sg bk ru n p + k + 1) (by omega)
        rw [show bef sg bk ru n p + (k + 1) = bef sg bk ru n p + k + 1 from rfl] at ih'
        unfold p_X4_isShared_50 p_X4_isShared_51
        rw [nI_add, nI_add, nI_add]
        by_cases q0 : chn sg (bef sg bk ru n p + k + 1) = 0
        · rw [if_pos ((cv_neg (by omega)).mpr q0)]
          rw [show chn sg (bef sg bk ru n p + k) + 1 - max (chn sg (bef sg bk ru n p + 1)) 1 + 0 = chn sg (bef sg bk ru n p + k + 1) + 1 - max (chn sg (bef sg bk ru n p + 1)) 1 by omega]
          exact ih'
        · rw [if_neg (fun x => q0 ((cv_neg (by omega)).mp x))]
          by_cases qs : chn sg (bef sg bk ru n p + k + 1) = chn sg (bef sg bk ru n p + k)
          · rw [if_pos ((cv_inj (by omega) (by omega)).mpr qs)]
            rw [show chn sg (bef sg bk ru n p + k) + 1 - max (chn sg (bef sg bk ru n p + 1)) 1 + 0 = chn sg (bef sg bk ru n p + k + 1) + 1 - max (chn sg (bef sg bk ru n p + 1)) 1 by omega]
            exact ih'
          · rw [if_neg (fun x => qs ((cv_inj (by omega) (by omega)).mp x))]
            rw [show chn sg (bef sg bk ru n p + k) + 1 - max (chn sg (bef sg bk ru n p + 1)) 1 + 1 = chn sg (bef sg bk ru n p + k + 1) + 1 - max (chn sg (bef sg bk ru n p + 1)) 1 by omega]
            exact ih'
  unfold p_X4_isShared
  rw [p_X4_isShared_8, ld_ok (by omega) (by omega), g9]
  simp only [Option.bind_some]
  rw [il (by omega) (by omega)]
  by_cases e0 : cnt sg bk ru n p ≤ 0
  · rw [if_pos e0, if_pos (show nI 0 ≤ nI 1 by decide), if_neg (by simp [shP]; omega)]
  · have hb1 := hch (bef sg bk ru n p + 1) (by omega)
    rw [if_neg e0, ld_ok (by omega) (by omega), g8, if_neg (by omega)]
    simp only [Option.bind_some]
    rw [nI_add, Nat.add_zero, chapterOf_ok hM.1 (by omega)]
    simp only [Option.bind_some]
    have k1 := key 199 1 (by omega) (by omega) (by omega)
    unfold p_X4_isShared_50 p_X4_isShared_51
    rw [show nI 0 + nI 0 = nI 0 from rfl, show nI 0 + nI 1 = nI 1 from rfl]
    by_cases q0 : chn sg (bef sg bk ru n p + 1) = 0
    · rw [if_pos ((cv_neg (by omega)).mpr q0)]
      rw [show chn sg (bef sg bk ru n p + 1) + 1 - max (chn sg (bef sg bk ru n p + 1)) 1 = 0 by omega] at k1
      exact k1
    · rw [if_neg (fun x => q0 ((cv_neg (by omega)).mp x)), if_neg (fun x => by
        have : cv (chn sg (bef sg bk ru n p + 1)) = cv 0 := x
        exact q0 ((cv_inj (by omega) (by omega)).mp this))]
      rw [show chn sg (bef sg bk ru n p + 1) + 1 - max (chn sg (bef sg bk ru n p + 1)) 1 = 1 by omega] at k1
      exact k1
theorem countChapters_ok {L : Ob} {pg : Nat} (hn : n ≤ 60) (hL : LJ L n sg bk ru n pg) : p_X1_countChapters L = some (nI (chn sg n)) := by
  unfold p_X1_countChapters
  rw [hL.1, ie (by omega) (by omega)]
  by_cases e : n = 0
  · rw [if_pos e, e]; rfl
  · obtain ⟨-, c1, -, -⟩ := hL.2.2.1 (n - 1) (by omega)
    rw [show n - 1 + 1 = n by omega] at c1
    rw [if_neg e, pk_sub (by omega), ld_ok (by omega) (by omega), c1]
    simp only [Option.bind_some]
    rw [Int32.sub_add_cancel]
theorem rChapters_ok {M : Ob} (hM : StOK (M 0) n sg bk ru) : p_X4_chapters M = some (nI (chn sg n)) := by
  have hn := hM.2.1
  have hc := chn_le (sg := sg) n
  unfold p_X4_chapters
  rw [r_many hM]
  simp only [Option.bind_some]
  rw [ie (by omega) (by omega)]
  by_cases e : n = 0
  · rw [if_pos e, e]; rfl
  · rw [if_neg e, pk_sub (by omega), chapterOf_ok hM (by omega), show n - 1 + 1 = n by omega]
    simp only [Option.bind_some]
    by_cases e0 : chn sg n = 0
    · rw [if_neg (fun x => (cv_nn (by omega)).mp x e0), e0]
    · rw [if_pos ((cv_nn (by omega)).mpr e0)]
      unfold cv
      rw [if_neg e0, nI_add, show chn sg n - 1 + 1 = chn sg n by omega]
end CHAP
