def p_X4_restore_26  : Nat → Int32 → Int32 → Ob → Option (Int32 × Ob)
  | 0, _, _, _ => none
  | n + 1, x1, x2, M => (if (nI 130) ≤ x2 then (some ((nI 1), M)) else ((ldI (M 1) 260 (((nI 130) * x1) + x2)).bind fun v_9 => ((stO M 0 130 x2 v_9).bind fun N_11 => p_X4_restore_26 n x1 (x2 + nI 1) N_11)))
def p_X4_restore  (u1 : Int32) (M : Ob) : Option (Int32 × Ob) := ((p_X4_in u1 (nI 0) (nI 1)).bind fun v_1 => (if v_1 = nI 0 then (some ((-2), M)) else ((ldI (M 2) 2 u1).bind fun v_5 => (if v_5 = nI 0 then (some ((-3), M)) else p_X4_restore_26 200 u1 (nI 0) M))))
abbrev rmX4_restore : Room := { frames := 1, cells := 0, slots := 0, locals := 22 }
set_option maxHeartbeats 4000000 in
set_option maxRecDepth 100000 in
theorem c_X4_restore (l : Launch) (G : GT) (am : Nat → Nat) (M : Ob) (u1 : Int32) (sz : Nat) (r0 : Int32) (M0 : Ob) (hrun : p_X4_restore u1 M = some (r0, M0)) : Met l yX4_restore wsX4_restore rmX4_restore (PreW G [.ref (am 0), .int u1] (wMod G am M) sz) (QI G r0 (wMod G am M0) (va_A (wMod G am M) sz)) 0 0 (va_A (wMod G am M) sz) := by
  refine Met.ofW (cc := cX4_restore) (maxL := 3) (ret := (some .int)) (by decide) rfl ?_
  intro p e s m args below meth c s₁ Bd hml hv
  obtain ⟨rfl, hsz, hP, hC, hD0⟩ := hv
  have hx := Bd.exec
  have hb := Bd.bytes
  have hr := Bd.returns
  have hts := atoms_spec (ws := wsX4_restore) Bd.pre
  have hown : s.vm.findClass RX4 = some m.cls := findClass_of_methodNamed Bd.named
  have hlocks := Bd.notSynchronized
  have hK := hC.1
  have iwX4 : ∀ w ∈ wsX40, w ∈ wsX4_restore := by decide +kernel
  have ha0 := hts (.fieldLink RX4 16 "HeadMarksModel" "isKept" "[Z") (by decide +kernel)
  have ha1 := hts (.fieldLink RX4 7 "HeadMarksModel" "state" "[I") (by decide +kernel)
  have ha2 := hts (.fieldLink RX4 13 "HeadMarksModel" "images" "[I") (by decide +kernel)
  subst hsz
  have hD := hD0.self (sz := s.heap.size)
  generalize hAe : va_A (wMod G am M) s.heap.size = A at hD ⊢
  have hA : ∀ q : Nat, s.heap.size ≤ q → A q := fun q h => by rw [← hAe]; exact Or.inr h
  have hS : va_S A s.heap s.heap [] := va_S.rf
  have kH_26 : ∀ (n : Nat) (x1 x2 : Int32) (M : Ob) , ∀ (H : Heap) (locs : List Loc), va_P G.1 vwCl (wMod G am M) H → va_D A (wMod G am M) → va_S A s.heap H locs → ∀ (ls : Array Slot), lv_has ls 3 [(0, .ref (am 0)), (1, .int x1), (2, .int x2)] → p_X4_restore_26 n x1 x2 M = some (r0, M0) → W p l e (headSpec wsX4_restore rmX4_restore).room s m ([.ref (am 0), .int u1] : List Value).toArray below meth c H locs 0 0 (MQ below (QI G r0 (wMod G am M0) A) ([.ref (am 0), .int u1] : List Value).toArray s 0 0 A) (F0 m 26 ls []) := by
    intro n
    induction n with
    | zero => intro x1 x2 M H locs hP hD hS ls hl hrun; exact absurd (hrun : (none : Option (Int32 × Ob)) = some (r0, M0)) (fun h => by cases h)
    | succ n ih =>
      intro x1 x2 M H locs hP hD hS ls hl hrun
      rw [p_X4_restore_26] at hrun
      refine lv_iload_n hx hb dX4_restore_26 rfl (lv_at hl 2 rfl) ?_
      refine lv_sipush (v := nI 130) hx hb dX4_restore_27 (by decide) ?_
      refine lv_icmp_ge (tgt := 57) hx hb dX4_restore_30 (by decide) (fun c_8 => ?_) (fun c_8 => ?_)
      · replace hrun := it_pos c_8 hrun
        refine lv_iconst (v := nI 1) hx hb dX4_restore_57 (by decide) ?_
        obtain ⟨hr1, hr2⟩ := si2 hrun
        exact W.iret (v := (nI 1)) hx hb hr (fun t ht hW => ⟨⟨(nI 1), (), rfl, hr1, by rw [ht, ← hr2]; exact hP, by rw [← hr2]; exact hD⟩, hS.F ht⟩) hS.2.2 dX4_restore_58
      · replace hrun := it_neg c_8 hrun
        refine lv_aload_n hx hb dX4_restore_33 rfl (lv_at hl 0 rfl) ?_
        refine va_get (D := G.1) (ci := 4) (v := .ref (am 1)) (C := RX4) (T := TX4) (N := 12) hx hb hts iwX4 hown hK hP 0 rfl rfl 0 (by decide) ha1 (fun _ h9 => h9) rfl dX4_restore_34 ?_
        refine lv_iload_n hx hb dX4_restore_37 rfl (lv_at hl 2 rfl) ?_
        refine lv_aload_n hx hb dX4_restore_38 rfl (lv_at hl 0 rfl) ?_
        refine va_get (D := G.1) (ci := 4) (v := .ref (am 2)) (C := RX4) (T := TX4) (N := 12) hx hb hts iwX4 hown hK hP 0 rfl rfl 1 (by decide) ha2 (fun _ h9 => h9) rfl dX4_restore_39 ?_
        refine lv_sipush (v := nI 130) hx hb dX4_restore_42 (by decide) ?_
        refine lv_iload_n hx hb dX4_restore_45 rfl (lv_at hl 1 rfl) ?_
        refine lv_imul hx hb dX4_restore_46 ?_
        refine lv_iload_n hx hb dX4_restore_47 rfl (lv_at hl 2 rfl) ?_
        refine lv_iadd hx hb dX4_restore_48 ?_
        obtain ⟨v_9, e_10, hrun⟩ := bd hrun
        refine y_ald hx hb hK hP 2 0 rfl rfl e_10 dX4_restore_49 ?_
        obtain ⟨N_11, e_12, hrun⟩ := bd hrun
        replace e_12 := stO_spec e_12
        refine va_iast hx hb hK hP hD hS 1 0 rfl rfl e_12.1 dX4_restore_50 (fun H locs hP hD hS => ?_)
        replace hP : va_P G.1 vwCl (wMod G am N_11) H := by rw [← e_12.2]; exact hP
        replace hD : va_D A (wMod G am N_11) := by rw [← e_12.2]; exact hD
        refine lv_iinc (v := (x2 + nI 1)) (lv' := [(2, .int (x2 + nI 1)), (0, .ref (am 0)), (1, .int x1)]) hx hb dX4_restore_51 hl (k := 2) rfl rfl (by decide) rfl (fun ls hl => ?_)
        refine lv_goto (tgt := 26) hx hb dX4_restore_54 (by decide) ?_
        exact ih x1 (x2 + nI 1) N_11 _ _ hP hD hS ls (lv_sub hl [1, 2, 0] rfl) hrun
  have hl := lv_entry [.ref (am 0), .int u1] (n := 3) (Nat.le_of_ble_eq_true rfl)
  rw [lg_entry_eq]
  generalize (lg_sl [.ref (am 0), .int u1] ++ List.replicate (3 - (lg_sl [.ref (am 0), .int u1]).length) Slot.unset).toArray = ls at hl ⊢
  have hl : lv_has ls 3 [(0, .ref (am 0)), (1, .int u1)] := hl
  rw [p_X4_restore] at hrun
  refine lv_iload_n hx hb dX4_restore_0 rfl (lv_at hl 1 rfl) ?_
  refine lv_iconst (v := nI 0) hx hb dX4_restore_1 (by decide) ?_
  refine lv_iconst (v := nI 1) hx hb dX4_restore_2 (by decide) ?_
  obtain ⟨v_1, e_2, hrun⟩ := bd hrun
  refine y_roz (va_runS (As := [.int u1, .int (nI 0), .int (nI 1)]) (rest := []) ⟨hx, hb, hml, hown, hts⟩ (c_X4_in l G   u1 (nI 0) (nI 1) v_1 e_2) (cwS 3 hts gX4_restore_X4_in rfl rfl rfl (by decide +kernel) ⟨Nat.le_of_ble_eq_true rfl, Nat.le_of_ble_eq_true rfl⟩) ⟨PreR.blind, y_preR hC (fun _ _ h => by cases h)⟩ rfl rfl hl.1 rfl (lv_room (Nat.le_of_ble_eq_true rfl)) dX4_restore_3 ⟨Nat.zero_le _, Nat.zero_le _⟩) (fun z_3 => ?_)
  refine lv_if_ne (tgt := 12) hx hb dX4_restore_6 (by decide) (fun c_4 => ?_) (fun c_4 => ?_)
  · replace hrun := it_neg c_4 hrun
    refine lv_aload_n hx hb dX4_restore_12 rfl (lv_at hl 0 rfl) ?_
    refine va_get (D := G.1) (ci := 4) (v := .ref (am 3)) (C := RX4) (T := TX4) (N := 12) hx hb hts iwX4 hown hK hP 0 rfl rfl 2 (by decide) ha0 (fun _ h9 => h9) rfl dX4_restore_13 ?_
    refine lv_iload_n hx hb dX4_restore_16 rfl (lv_at hl 1 rfl) ?_
    obtain ⟨v_5, e_6, hrun⟩ := bd hrun
    refine y_zld hx hb hK hP 3 1 rfl rfl e_6 dX4_restore_17 ?_
    refine lv_if_ne (tgt := 24) hx hb dX4_restore_18 (by decide) (fun c_7 => ?_) (fun c_7 => ?_)
    · replace hrun := it_neg c_7 hrun
      refine lv_iconst (v := nI 0) hx hb dX4_restore_24 (by decide) ?_
      refine lv_istore_n (lv' := [(2, .int (nI 0)), (0, .ref (am 0)), (1, .int u1)]) hx hb dX4_restore_25 rfl hl (by decide) rfl (fun ls hl => ?_)
      exact kH_26 200 u1 (nI 0) M _ _ hP hD hS ls (lv_sub hl [1, 2, 0] rfl) hrun
    · replace hrun := it_pos c_7 hrun
      refine lv_bipush (v := -3) hx hb dX4_restore_21 (by decide) ?_
      obtain ⟨hr1, hr2⟩ := si2 hrun
      exact W.iret (v := (-3)) hx hb hr (fun t ht hW => ⟨⟨(-3), (), rfl, hr1, by rw [ht, ← hr2]; exact hP, by rw [← hr2]; exact hD⟩, hS.F ht⟩) hS.2.2 dX4_restore_23
  · replace hrun := it_pos c_4 hrun
    refine lv_bipush (v := -2) hx hb dX4_restore_9 (by decide) ?_
    obtain ⟨hr1, hr2⟩ := si2 hrun
    exact W.iret (v := (-2)) hx hb hr (fun t ht hW => ⟨⟨(-2), (), rfl, hr1, by rw [ht, ← hr2]; exact hP, by rw [← hr2]; exact hD⟩, hS.F ht⟩) hS.2.2 dX4_restore_11
def p_X4_count_125  (y0 : Int32) (M : Ob) : Option (Int32 × Ob) := ((ldI (M 2) 2 (nI 1)).bind fun v_33 => (if v_33 = nI 0 then (some ((y0 + (nI 0)), M)) else (some ((y0 + (nI 2)), M))))
def p_X4_count  (u1 : Int32) (M : Ob) : Option (Int32 × Ob) := ((p_X4_in u1 (nI 10) (nI 18)).bind fun v_1 => (if v_1 = nI 0 then ((p_X4_layPages M).bind fun N_6 => (if u1 = nI 0 then ((p_X4_many N_6).bind fun v_8 => (some (v_8, N_6))) else (if u1 = nI 1 then (some ((N_6 10 0), N_6)) else (if u1 = nI 2 then ((p_X4_pagesThat N_6 u1).bind fun v_12 => (some (v_12, N_6))) else (if u1 = nI 3 then ((p_X4_breaks N_6).bind fun v_15 => (some (v_15, N_6))) else (if u1 = nI 4 then ((p_X4_chapters N_6).bind fun v_18 => (some (v_18, N_6))) else (if u1 = nI 5 then ((p_X4_pagesThat N_6 u1).bind fun v_21 => (some (v_21, N_6))) else (if u1 = nI 6 then ((p_X4_pagesThat N_6 u1).bind fun v_24 => (some (v_24, N_6))) else (if u1 = nI 7 then (some ((N_6 4 0), N_6)) else (if u1 = nI 8 then ((ldI (N_6 2) 2 (nI 0)).bind fun v_28 => (if v_28 = nI 0 then p_X4_count_125 (nI 0) N_6 else p_X4_count_125 (nI 1) N_6)) else (some ((-2), N_6)))))))))))) else ((ldI (M 0) 130 (((nI 121) + u1) - (nI 10))).bind fun v_31 => (some (v_31, M)))))
abbrev rmX4_count : Room := { frames := 6, cells := 0, slots := 0, locals := 137 }
set_option maxHeartbeats 4000000 in
set_option maxRecDepth 100000 in
theorem c_X4_count (l : Launch) (G : GT) (am : Nat → Nat) (M : Ob) (u1 : Int32) (sz : Nat) (r0 : Int32) (M0 : Ob) (hrun : p_X4_count u1 M = some (r0, M0)) : Met l yX4_count wsX4_count rmX4_count (PreW G [.ref (am 0), .int u1] (wMod G am M) sz) (QI G r0 (wMod G am M0) (va_A (wMod G am M) sz)) 0 0 (va_A (wMod G am M) sz) := by
  refine Met.ofW (cc := cX4_count) (maxL := 2) (ret := (some .int)) (by decide) rfl ?_
  intro p e s m args below meth c s₁ Bd hml hv
  obtain ⟨rfl, hsz, hP, hC, hD0⟩ := hv
  have hx := Bd.exec
  have hb := Bd.bytes
  have hr := Bd.returns
  have hts := atoms_spec (ws := wsX4_count) Bd.pre
  have hown : s.vm.findClass RX4 = some m.cls := findClass_of_methodNamed Bd.named
  have hlocks := Bd.notSynchronized
  have hK := hC.1
  have iwX4 : ∀ w ∈ wsX40, w ∈ wsX4_count := by decide +kernel
  have ha0 := hts (.fieldLink RX4 76 "HeadMarksModel" "pages" "I") (by decide +kernel)
  have ha1 := hts (.fieldLink RX4 49 "HeadMarksModel" "said" "I") (by decide +kernel)
  have ha2 := hts (.fieldLink RX4 16 "HeadMarksModel" "isKept" "[Z") (by decide +kernel)
  have ha3 := hts (.fieldLink RX4 7 "HeadMarksModel" "state" "[I") (by decide +kernel)
  subst hsz
  have hD := hD0.self (sz := s.heap.size)
  generalize hAe : va_A (wMod G am M) s.heap.size = A at hD ⊢
  have hA : ∀ q : Nat, s.heap.size ≤ q → A q := fun q h => by rw [← hAe]; exact Or.inr h
  have hS : va_S A s.heap s.heap [] := va_S.rf
  have kJ_125 : ∀ (y0 : Int32) (M : Ob) , ∀ (H : Heap) (locs : List Loc), va_P G.1 vwCl (wMod G am M) H → va_D A (wMod G am M) → va_S A s.heap H locs → ∀ (ls : Array Slot), lv_has ls 2 [(0, .ref (am 0))] → p_X4_count_125 y0 M = some (r0, M0) → W p l e (headSpec wsX4_count rmX4_count).room s m ([.ref (am 0), .int u1] : List Value).toArray below meth c H locs 0 0 (MQ below (QI G r0 (wMod G am M0) A) ([.ref (am 0), .int u1] : List Value).toArray s 0 0 A) (F0 m 125 ls [.int y0]) := by
    intro y0 M H locs hP hD hS ls hl hrun
    rw [p_X4_count_125] at hrun
    refine lv_aload_n hx hb dX4_count_125 rfl (lv_at hl 0 rfl) ?_
    refine va_get (D := G.1) (ci := 4) (v := .ref (am 3)) (C := RX4) (T := TX4) (N := 12) hx hb hts iwX4 hown hK hP 0 rfl rfl 2 (by decide) ha2 (fun _ h9 => h9) rfl dX4_count_126 ?_
    refine lv_iconst (v := nI 1) hx hb dX4_count_129 (by decide) ?_
    obtain ⟨v_33, e_34, hrun⟩ := bd hrun
    refine y_zld hx hb hK hP 3 1 rfl rfl e_34 dX4_count_130 ?_
    refine lv_if_eq (tgt := 138) hx hb dX4_count_131 (by decide) (fun c_35 => ?_) (fun c_35 => ?_)
    · replace hrun := it_pos c_35 hrun
      refine lv_iconst (v := nI 0) hx hb dX4_count_138 (by decide) ?_
      refine lv_iadd hx hb dX4_count_139 ?_
      obtain ⟨hr1, hr2⟩ := si2 hrun
      exact W.iret (v := (y0 + (nI 0))) hx hb hr (fun t ht hW => ⟨⟨(y0 + (nI 0)), (), rfl, hr1, by rw [ht, ← hr2]; exact hP, by rw [← hr2]; exact hD⟩, hS.F ht⟩) hS.2.2 dX4_count_140
    · replace hrun := it_neg c_35 hrun
      refine lv_iconst (v := nI 2) hx hb dX4_count_134 (by decide) ?_
      refine lv_goto (tgt := 139) hx hb dX4_count_135 (by decide) ?_
      refine lv_iadd hx hb dX4_count_139 ?_
      obtain ⟨hr1, hr2⟩ := si2 hrun
      exact W.iret (v := (y0 + (nI 2))) hx hb hr (fun t ht hW => ⟨⟨(y0 + (nI 2)), (), rfl, hr1, by rw [ht, ← hr2]; exact hP, by rw [← hr2]; exact hD⟩, hS.F ht⟩) hS.2.2 dX4_count_140
  have hl := lv_entry [.ref (am 0), .int u1] (n := 2) (Nat.le_of_ble_eq_true rfl)
  rw [lg_entry_eq]
  generalize (lg_sl [.ref (am 0), .int u1] ++ List.replicate (2 - (lg_sl [.ref (am 0), .int u1]).length) Slot.unset).toArray = ls at hl ⊢
  have hl : lv_has ls 2 [(0, .ref (am 0)), (1, .int u1)] := hl
  rw [p_X4_count] at hrun
  refine lv_iload_n hx hb dX4_count_0 rfl (lv_at hl 1 rfl) ?_
  refine lv_bipush (v := nI 10) hx hb dX4_count_1 (by decide) ?_
  refine lv_bipush (v := nI 18) hx hb dX4_count_3 (by decide) ?_
  obtain ⟨v_1, e_2, hrun⟩ := bd hrun
  refine y_roz (va_runS (As := [.int u1, .int (nI 10), .int (nI 18)]) (rest := []) ⟨hx, hb, hml, hown, hts⟩ (c_X4_in l G   u1 (nI 10) (nI 18) v_1 e_2) (cwS 3 hts gX4_count_X4_in rfl rfl rfl (by decide +kernel) ⟨Nat.le_of_ble_eq_true rfl, Nat.le_of_ble_eq_true rfl⟩) ⟨PreR.blind, y_preR hC (fun _ _ h => by cases h)⟩ rfl rfl hl.1 rfl (lv_room (Nat.le_of_ble_eq_true rfl)) dX4_count_5 ⟨Nat.zero_le _, Nat.zero_le _⟩) (fun z_3 => ?_)
  refine lv_if_eq (tgt := 24) hx hb dX4_count_8 (by decide) (fun c_4 => ?_) (fun c_4 => ?_)
  · replace hrun := it_pos c_4 hrun
    refine lv_aload_n hx hb dX4_count_24 rfl (lv_at hl 0 rfl) ?_
    obtain ⟨N_6, e_5, hrun⟩ := bd hrun
    have hF := y_all hD hS hA
    refine y_rwv (va_runV (As := []) (rest := []) ⟨hx, hb, hml, hown, hts⟩ (c_X4_layPages l G am M  _ N_6 e_5) (cwV 0 hts gX4_count_X4_layPages rfl rfl rfl (by decide +kernel) ⟨Nat.le_of_ble_eq_true rfl, Nat.le_of_ble_eq_true rfl⟩) ⟨PreW.blind, va_recv hK hP (ci := 4) (q0 := 0) rfl rfl, y_preW hC hP hD⟩ rfl rfl hl.1 rfl (lv_room (Nat.le_of_ble_eq_true rfl)) dX4_count_25 ⟨Nat.zero_le _, Nat.zero_le _⟩) hS hF (fun H locs hP1 hD1 hk1 hS => ?_)
    replace hP : va_P G.1 vwCl (wMod G am N_6) H := hP1
    replace hD : va_D A (wMod G am N_6) := hD1.weaken (fun _ q _ h => hF q.1 h)
    clear hP1 hD1 hk1 hF
    refine lv_iload_n hx hb dX4_count_28 rfl (lv_at hl 1 rfl) ?_
    by_cases c_7 : u1 = nI 0
    · replace hrun := it_pos c_7 hrun
      refine lv_tableIn (tgt := 80) hx hb dX4_count_29 (by rw [c_7]; decide) (by rw [c_7]; decide) (off := 51) (by rw [c_7]; rfl) (by decide) ?_
      refine lv_aload_n hx hb dX4_count_80 rfl (lv_at hl 0 rfl) ?_
      obtain ⟨v_8, e_9, hrun⟩ := bd hrun
      refine y_ro (va_runV (As := []) (rest := []) ⟨hx, hb, hml, hown, hts⟩ (c_X4_many l G am N_6  v_8 e_9) (cwV 0 hts gX4_count_X4_many rfl rfl rfl (by decide +kernel) ⟨Nat.le_of_ble_eq_true rfl, Nat.le_of_ble_eq_true rfl⟩) ⟨PreR.blind, va_recv hK hP (ci := 4) (q0 := 0) rfl rfl, y_preR hC hP⟩ rfl rfl hl.1 rfl (lv_room (Nat.le_of_ble_eq_true rfl)) dX4_count_81 ⟨Nat.zero_le _, Nat.zero_le _⟩) ?_
      obtain ⟨hr1, hr2⟩ := si2 hrun
      exact W.iret (v := v_8) hx hb hr (fun t ht hW => ⟨⟨v_8, (), rfl, hr1, by rw [ht, ← hr2]; exact hP, by rw [← hr2]; exact hD⟩, hS.F ht⟩) hS.2.2 dX4_count_84
    · replace hrun := it_neg c_7 hrun
      by_cases c_10 : u1 = nI 1
      · replace hrun := it_pos c_10 hrun
        refine lv_tableIn (tgt := 85) hx hb dX4_count_29 (by rw [c_10]; decide) (by rw [c_10]; decide) (off := 56) (by rw [c_10]; rfl) (by decide) ?_
        refine lv_aload_n hx hb dX4_count_85 rfl (lv_at hl 0 rfl) ?_
        refine va_get (D := G.1) (ci := 4) (v := .int (N_6 10 0)) (C := RX4) (T := TX4) (N := 12) hx hb hts iwX4 hown hK hP 0 rfl rfl 10 (by decide) ha0 (fun _ h9 => h9) rfl dX4_count_86 ?_
        obtain ⟨hr1, hr2⟩ := si2 hrun
        exact W.iret (v := (N_6 10 0)) hx hb hr (fun t ht hW => ⟨⟨(N_6 10 0), (), rfl, hr1, by rw [ht, ← hr2]; exact hP, by rw [← hr2]; exact hD⟩, hS.F ht⟩) hS.2.2 dX4_count_89
      · replace hrun := it_neg c_10 hrun
        by_cases c_11 : u1 = nI 2
        · replace hrun := it_pos c_11 hrun
          refine lv_tableIn (tgt := 90) hx hb dX4_count_29 (by rw [c_11]; decide) (by rw [c_11]; decide) (off := 61) (by rw [c_11]; rfl) (by decide) ?_
          refine lv_aload_n hx hb dX4_count_90 rfl (lv_at hl 0 rfl) ?_
          refine lv_iload_n hx hb dX4_count_91 rfl (lv_at hl 1 rfl) ?_
          obtain ⟨v_12, e_13, hrun⟩ := bd hrun
          refine y_ro (va_runV (As := [.int u1]) (rest := []) ⟨hx, hb, hml, hown, hts⟩ (c_X4_pagesThat l G am N_6 u1 v_12 e_13) (cwV 1 hts gX4_count_X4_pagesThat rfl rfl rfl (by decide +kernel) ⟨Nat.le_of_ble_eq_true rfl, Nat.le_of_ble_eq_true rfl⟩) ⟨PreR.blind, va_recv hK hP (ci := 4) (q0 := 0) rfl rfl, y_preR hC hP⟩ rfl rfl hl.1 rfl (lv_room (Nat.le_of_ble_eq_true rfl)) dX4_count_92 ⟨Nat.zero_le _, Nat.zero_le _⟩) ?_
          obtain ⟨hr1, hr2⟩ := si2 hrun
          exact W.iret (v := v_12) hx hb hr (fun t ht hW => ⟨⟨v_12, (), rfl, hr1, by rw [ht, ← hr2]; exact hP, by rw [← hr2]; exact hD⟩, hS.F ht⟩) hS.2.2 dX4_count_95
        · replace hrun := it_neg c_11 hrun
          by_cases c_14 : u1 = nI 3
          · replace hrun := it_pos c_14 hrun
            refine lv_tableIn (tgt := 96) hx hb dX4_count_29 (by rw [c_14]; decide) (by rw [c_14]; decide) (off := 67) (by rw [c_14]; rfl) (by decide) ?_
            refine lv_aload_n hx hb dX4_count_96 rfl (lv_at hl 0 rfl) ?_
            obtain ⟨v_15, e_16, hrun⟩ := bd hrun
            refine y_ro (va_runV (As := []) (rest := []) ⟨hx, hb, hml, hown, hts⟩ (c_X4_breaks l G am N_6  v_15 e_16) (cwV 0 hts gX4_count_X4_breaks rfl rfl rfl (by decide +kernel) ⟨Nat.le_of_ble_eq_true rfl, Nat.le_of_ble_eq_true rfl⟩) ⟨PreR.blind, va_recv hK hP (ci := 4) (q0 := 0) rfl rfl, y_preR hC hP⟩ rfl rfl hl.1 rfl (lv_room (Nat.le_of_ble_eq_true rfl)) dX4_count_97 ⟨Nat.zero_le _, Nat.zero_le _⟩) ?_
            obtain ⟨hr1, hr2⟩ := si2 hrun
            exact W.iret (v := v_15) hx hb hr (fun t ht hW => ⟨⟨v_15, (), rfl, hr1, by rw [ht, ← hr2]; exact hP, by rw [← hr2]; exact hD⟩, hS.F ht⟩) hS.2.2 dX4_count_100
          · replace hrun := it_neg c_14 hrun
            by_cases c_17 : u1 = nI 4
            · replace hrun := it_pos c_17 hrun
              refine lv_tableIn (tgt := 101) hx hb dX4_count_29 (by rw [c_17]; decide) (by rw [c_17]; decide) (off := 72) (by rw [c_17]; rfl) (by decide) ?_
              refine lv_aload_n hx hb dX4_count_101 rfl (lv_at hl 0 rfl) ?_
              obtain ⟨v_18, e_19, hrun⟩ := bd hrun
              refine y_ro (va_runV (As := []) (rest := []) ⟨hx, hb, hml, hown, hts⟩ (c_X4_chapters l G am N_6  v_18 e_19) (cwV 0 hts gX4_count_X4_chapters rfl rfl rfl (by decide +kernel) ⟨Nat.le_of_ble_eq_true rfl, Nat.le_of_ble_eq_true rfl⟩) ⟨PreR.blind, va_recv hK hP (ci := 4) (q0 := 0) rfl rfl, y_preR hC hP⟩ rfl rfl hl.1 rfl (lv_room (Nat.le_of_ble_eq_true rfl)) dX4_count_102 ⟨Nat.zero_le _, Nat.zero_le _⟩) ?_
              obtain ⟨hr1, hr2⟩ := si2 hrun
              exact W.iret (v := v_18) hx hb hr (fun t ht hW => ⟨⟨v_18, (), rfl, hr1, by rw [ht, ← hr2]; exact hP, by rw [← hr2]; exact hD⟩, hS.F ht⟩) hS.2.2 dX4_count_105
            · replace hrun := it_neg c_17 hrun
              by_cases c_20 : u1 = nI 5
              · replace hrun := it_pos c_20 hrun
                refine lv_tableIn (tgt := 90) hx hb dX4_count_29 (by rw [c_20]; decide) (by rw [c_20]; decide) (off := 61) (by rw [c_20]; rfl) (by decide) ?_
                refine lv_aload_n hx hb dX4_count_90 rfl (lv_at hl 0 rfl) ?_
                refine lv_iload_n hx hb dX4_count_91 rfl (lv_at hl 1 rfl) ?_
                obtain ⟨v_21, e_22, hrun⟩ := bd hrun
                refine y_ro (va_runV (As := [.int u1]) (rest := []) ⟨hx, hb, hml, hown, hts⟩ (c_X4_pagesThat l G am N_6 u1 v_21 e_22) (cwV 1 hts gX4_count_X4_pagesThat rfl rfl rfl (by decide +kernel) ⟨Nat.le_of_ble_eq_true rfl, Nat.le_of_ble_eq_true rfl⟩) ⟨PreR.blind, va_recv hK hP (ci := 4) (q0 := 0) rfl rfl, y_preR hC hP⟩ rfl rfl hl.1 rfl (lv_room (Nat.le_of_ble_eq_true rfl)) dX4_count_92 ⟨Nat.zero_le _, Nat.zero_le _⟩) ?_
                obtain ⟨hr1, hr2⟩ := si2 hrun
                exact W.iret (v := v_21) hx hb hr (fun t ht hW => ⟨⟨v_21, (), rfl, hr1, by rw [ht, ← hr2]; exact hP, by rw [← hr2]; exact hD⟩, hS.F ht⟩) hS.2.2 dX4_count_95
              · replace hrun := it_neg c_20 hrun
                by_cases c_23 : u1 = nI 6
                · replace hrun := it_pos c_23 hrun
                  refine lv_tableIn (tgt := 90) hx hb dX4_count_29 (by rw [c_23]; decide) (by rw [c_23]; decide) (off := 61) (by rw [c_23]; rfl) (by decide) ?_
                  refine lv_aload_n hx hb dX4_count_90 rfl (lv_at hl 0 rfl) ?_
                  refine lv_iload_n hx hb dX4_count_91 rfl (lv_at hl 1 rfl) ?_
                  obtain ⟨v_24, e_25, hrun⟩ := bd hrun
                  refine y_ro (va_runV (As := [.int u1]) (rest := []) ⟨hx, hb, hml, hown, hts⟩ (c_X4_pagesThat l G am N_6 u1 v_24 e_25) (cwV 1 hts gX4_count_X4_pagesThat rfl rfl rfl (by decide +kernel) ⟨Nat.le_of_ble_eq_true rfl, Nat.le_of_ble_eq_true rfl⟩) ⟨PreR.blind, va_recv hK hP (ci := 4) (q0 := 0) rfl rfl, y_preR hC hP⟩ rfl rfl hl.1 rfl (lv_room (Nat.le_of_ble_eq_true rfl)) dX4_count_92 ⟨Nat.zero_le _, Nat.zero_le _⟩) ?_
                  obtain ⟨hr1, hr2⟩ := si2 hrun
                  exact W.iret (v := v_24) hx hb hr (fun t ht hW => ⟨⟨v_24, (), rfl, hr1, by rw [ht, ← hr2]; exact hP, by rw [← hr2]; exact hD⟩, hS.F ht⟩) hS.2.2 dX4_count_95
                · replace hrun := it_neg c_23 hrun
                  by_cases c_26 : u1 = nI 7
                  · replace hrun := it_pos c_26 hrun
                    refine lv_tableIn (tgt := 106) hx hb dX4_count_29 (by rw [c_26]; decide) (by rw [c_26]; decide) (off := 77) (by rw [c_26]; rfl) (by decide) ?_
                    refine lv_aload_n hx hb dX4_count_106 rfl (lv_at hl 0 rfl) ?_
                    refine va_get (D := G.1) (ci := 4) (v := .int (N_6 4 0)) (C := RX4) (T := TX4) (N := 12) hx hb hts iwX4 hown hK hP 0 rfl rfl 4 (by decide) ha1 (fun _ h9 => h9) rfl dX4_count_107 ?_
                    obtain ⟨hr1, hr2⟩ := si2 hrun
                    exact W.iret (v := (N_6 4 0)) hx hb hr (fun t ht hW => ⟨⟨(N_6 4 0), (), rfl, hr1, by rw [ht, ← hr2]; exact hP, by rw [← hr2]; exact hD⟩, hS.F ht⟩) hS.2.2 dX4_count_110
                  · replace hrun := it_neg c_26 hrun
                    by_cases c_27 : u1 = nI 8
                    · replace hrun := it_pos c_27 hrun
                      refine lv_tableIn (tgt := 111) hx hb dX4_count_29 (by rw [c_27]; decide) (by rw [c_27]; decide) (off := 82) (by rw [c_27]; rfl) (by decide) ?_
                      refine lv_aload_n hx hb dX4_count_111 rfl (lv_at hl 0 rfl) ?_
                      refine va_get (D := G.1) (ci := 4) (v := .ref (am 3)) (C := RX4) (T := TX4) (N := 12) hx hb hts iwX4 hown hK hP 0 rfl rfl 2 (by decide) ha2 (fun _ h9 => h9) rfl dX4_count_112 ?_
                      refine lv_iconst (v := nI 0) hx hb dX4_count_115 (by decide) ?_
                      obtain ⟨v_28, e_29, hrun⟩ := bd hrun
                      refine y_zld hx hb hK hP 3 1 rfl rfl e_29 dX4_count_116 ?_
                      refine lv_if_eq (tgt := 124) hx hb dX4_count_117 (by decide) (fun c_30 => ?_) (fun c_30 => ?_)
                      · replace hrun := it_pos c_30 hrun
                        refine lv_iconst (v := nI 0) hx hb dX4_count_124 (by decide) ?_
                        exact kJ_125 (nI 0) N_6 _ _ hP hD hS ls (lv_sub hl [0] rfl) hrun
                      · replace hrun := it_neg c_30 hrun
                        refine lv_iconst (v := nI 1) hx hb dX4_count_120 (by decide) ?_
                        refine lv_goto (tgt := 125) hx hb dX4_count_121 (by decide) ?_
                        exact kJ_125 (nI 1) N_6 _ _ hP hD hS ls (lv_sub hl [0] rfl) hrun
                    · replace hrun := it_neg c_27 hrun
                      refine lv_tableOut (tgt := 141) hx hb dX4_count_29 (tb_out (n := 9) (by decide) (fun k hk => by rcases (show k = 0 ∨ k = 1 ∨ k = 2 ∨ k = 3 ∨ k = 4 ∨ k = 5 ∨ k = 6 ∨ k = 7 ∨ k = 8 by omega) with rfl | rfl | rfl | rfl | rfl | rfl | rfl | rfl | rfl <;> first | exact c_7 | exact c_10 | exact c_11 | exact c_14 | exact c_17 | exact c_20 | exact c_23 | exact c_26 | exact c_27) (by decide)) (by decide) ?_
                      refine lv_bipush (v := -2) hx hb dX4_count_141 (by decide) ?_
                      obtain ⟨hr1, hr2⟩ := si2 hrun
                      exact W.iret (v := (-2)) hx hb hr (fun t ht hW => ⟨⟨(-2), (), rfl, hr1, by rw [ht, ← hr2]; exact hP, by rw [← hr2]; exact hD⟩, hS.F ht⟩) hS.2.2 dX4_count_143
  · replace hrun := it_neg c_4 hrun
    refine lv_aload_n hx hb dX4_count_11 rfl (lv_at hl 0 rfl) ?_
    refine va_get (D := G.1) (ci := 4) (v := .ref (am 1)) (C := RX4) (T := TX4) (N := 12) hx hb hts iwX4 hown hK hP 0 rfl rfl 0 (by decide) ha3 (fun _ h9 => h9) rfl dX4_count_12 ?_
    refine lv_bipush (v := nI 121) hx hb dX4_count_15 (by decide) ?_
    refine lv_iload_n hx hb dX4_count_17 rfl (lv_at hl 1 rfl) ?_
    refine lv_iadd hx hb dX4_count_18 ?_
    refine lv_bipush (v := nI 10) hx hb dX4_count_19 (by decide) ?_
    refine lv_isub hx hb dX4_count_21 ?_
    obtain ⟨v_31, e_32, hrun⟩ := bd hrun
    refine y_ald hx hb hK hP 1 0 rfl rfl e_32 dX4_count_22 ?_
    obtain ⟨hr1, hr2⟩ := si2 hrun
    exact W.iret (v := v_31) hx hb hr (fun t ht hW => ⟨⟨v_31, (), rfl, hr1, by rw [ht, ← hr2]; exact hP, by rw [← hr2]; exact hD⟩, hS.F ht⟩) hS.2.2 dX4_count_23
