def p_X4_line  (u1 : Int32) (u2 : Int32) (M : Ob) : Option (Int32 × Ob) := ((p_X4_isLine M u1).bind fun v_1 => (if v_1 = nI 0 then (some ((-1), M)) else ((p_X4_layPages M).bind fun N_6 => (if u2 = nI 0 then ((ldI (N_6 0) 130 ((nI 0) + u1)).bind fun v_8 => (if v_8 = nI 0 then (some ((-6), N_6)) else ((ldI (N_6 0) 130 ((nI 0) + u1)).bind fun v_11 => (some (v_11, N_6))))) else (if u2 = nI 1 then ((ldI (N_6 5) 60 u1).bind fun v_14 => (some (v_14, N_6))) else (if u2 = nI 2 then ((ldI (N_6 6) 60 u1).bind fun v_17 => (some (v_17, N_6))) else (if u2 = nI 3 then ((ldI (N_6 0) 130 ((nI 60) + u1)).bind fun v_20 => (some (v_20, N_6))) else (if u2 = nI 4 then ((ldI (N_6 7) 120 ((((nI 2) * u1) + u2) - (nI 4))).bind fun v_23 => (some (v_23, N_6))) else (if u2 = nI 5 then ((ldI (N_6 7) 120 ((((nI 2) * u1) + u2) - (nI 4))).bind fun v_26 => (some (v_26, N_6))) else (some ((-2), N_6)))))))))))
abbrev rmX4_line : Room := { frames := 4, cells := 0, slots := 0, locals := 86 }
set_option maxHeartbeats 4000000 in
set_option maxRecDepth 100000 in
theorem c_X4_line (l : Launch) (G : GT) (am : Nat → Nat) (M : Ob) (u1 u2 : Int32) (sz : Nat) (r0 : Int32) (M0 : Ob) (hrun : p_X4_line u1 u2 M = some (r0, M0)) : Met l yX4_line wsX4_line rmX4_line (PreW G [.ref (am 0), .int u1, .int u2] (wMod G am M) sz) (QI G r0 (wMod G am M0) (va_A (wMod G am M) sz)) 0 0 (va_A (wMod G am M) sz) := by
  refine Met.ofW (cc := cX4_line) (maxL := 3) (ret := (some .int)) (by decide) rfl ?_
  intro p e s m args below meth c s₁ Bd hml hv
  obtain ⟨rfl, hsz, hP, hC, hD0⟩ := hv
  have hx := Bd.exec
  have hb := Bd.bytes
  have hr := Bd.returns
  have hts := atoms_spec (ws := wsX4_line) Bd.pre
  have hown : s.vm.findClass RX4 = some m.cls := findClass_of_methodNamed Bd.named
  have hlocks := Bd.notSynchronized
  have hK := hC.1
  have iwX4 : ∀ w ∈ wsX40, w ∈ wsX4_line := by decide +kernel
  have ha0 := hts (.fieldLink RX4 7 "HeadMarksModel" "state" "[I") (by decide +kernel)
  have ha1 := hts (.fieldLink RX4 23 "HeadMarksModel" "pageOf" "[I") (by decide +kernel)
  have ha2 := hts (.fieldLink RX4 26 "HeadMarksModel" "placeOf" "[I") (by decide +kernel)
  have ha3 := hts (.fieldLink RX4 29 "HeadMarksModel" "force" "[I") (by decide +kernel)
  subst hsz
  have hD := hD0.self (sz := s.heap.size)
  generalize hAe : va_A (wMod G am M) s.heap.size = A at hD ⊢
  have hA : ∀ q : Nat, s.heap.size ≤ q → A q := fun q h => by rw [← hAe]; exact Or.inr h
  have hS : va_S A s.heap s.heap [] := va_S.rf
  have hl := lv_entry [.ref (am 0), .int u1, .int u2] (n := 3) (Nat.le_of_ble_eq_true rfl)
  rw [lg_entry_eq]
  generalize (lg_sl [.ref (am 0), .int u1, .int u2] ++ List.replicate (3 - (lg_sl [.ref (am 0), .int u1, .int u2]).length) Slot.unset).toArray = ls at hl ⊢
  have hl : lv_has ls 3 [(0, .ref (am 0)), (1, .int u1), (2, .int u2)] := hl
  rw [p_X4_line] at hrun
  refine lv_aload_n hx hb dX4_line_0 rfl (lv_at hl 0 rfl) ?_
  refine lv_iload_n hx hb dX4_line_1 rfl (lv_at hl 1 rfl) ?_
  obtain ⟨v_1, e_2, hrun⟩ := bd hrun
  refine y_roz (va_runV (As := [.int u1]) (rest := []) ⟨hx, hb, hml, hown, hts⟩ (c_X4_isLine l G am M u1 v_1 e_2) (cwV 1 hts gX4_line_X4_isLine rfl rfl rfl (by decide +kernel) ⟨Nat.le_of_ble_eq_true rfl, Nat.le_of_ble_eq_true rfl⟩) ⟨PreR.blind, va_recv hK hP (ci := 4) (q0 := 0) rfl rfl, y_preR hC hP⟩ rfl rfl hl.1 rfl (lv_room (Nat.le_of_ble_eq_true rfl)) dX4_line_2 ⟨Nat.zero_le _, Nat.zero_le _⟩) (fun z_3 => ?_)
  refine lv_if_ne (tgt := 10) hx hb dX4_line_5 (by decide) (fun c_4 => ?_) (fun c_4 => ?_)
  · replace hrun := it_neg c_4 hrun
    refine lv_aload_n hx hb dX4_line_10 rfl (lv_at hl 0 rfl) ?_
    obtain ⟨N_6, e_5, hrun⟩ := bd hrun
    have hF := y_all hD hS hA
    refine y_rwv (va_runV (As := []) (rest := []) ⟨hx, hb, hml, hown, hts⟩ (c_X4_layPages l G am M  _ N_6 e_5) (cwV 0 hts gX4_line_X4_layPages rfl rfl rfl (by decide +kernel) ⟨Nat.le_of_ble_eq_true rfl, Nat.le_of_ble_eq_true rfl⟩) ⟨PreW.blind, va_recv hK hP (ci := 4) (q0 := 0) rfl rfl, y_preW hC hP hD⟩ rfl rfl hl.1 rfl (lv_room (Nat.le_of_ble_eq_true rfl)) dX4_line_11 ⟨Nat.zero_le _, Nat.zero_le _⟩) hS hF (fun H locs hP1 hD1 hk1 hS => ?_)
    replace hP : va_P G.1 vwCl (wMod G am N_6) H := hP1
    replace hD : va_D A (wMod G am N_6) := hD1.weaken (fun _ q _ h => hF q.1 h)
    clear hP1 hD1 hk1 hF
    refine lv_iload_n hx hb dX4_line_14 rfl (lv_at hl 2 rfl) ?_
    by_cases c_7 : u2 = nI 0
    · replace hrun := it_pos c_7 hrun
      refine lv_tableIn (tgt := 52) hx hb dX4_line_15 (by rw [c_7]; decide) (by rw [c_7]; decide) (off := 37) (by rw [c_7]; rfl) (by decide) ?_
      refine lv_aload_n hx hb dX4_line_52 rfl (lv_at hl 0 rfl) ?_
      refine va_get (D := G.1) (ci := 4) (v := .ref (am 1)) (C := RX4) (T := TX4) (N := 12) hx hb hts iwX4 hown hK hP 0 rfl rfl 0 (by decide) ha0 (fun _ h9 => h9) rfl dX4_line_53 ?_
      refine lv_iconst (v := nI 0) hx hb dX4_line_56 (by decide) ?_
      refine lv_iload_n hx hb dX4_line_57 rfl (lv_at hl 1 rfl) ?_
      refine lv_iadd hx hb dX4_line_58 ?_
      obtain ⟨v_8, e_9, hrun⟩ := bd hrun
      refine y_ald hx hb hK hP 1 0 rfl rfl e_9 dX4_line_59 ?_
      refine lv_if_ne (tgt := 68) hx hb dX4_line_60 (by decide) (fun c_10 => ?_) (fun c_10 => ?_)
      · replace hrun := it_neg c_10 hrun
        refine lv_aload_n hx hb dX4_line_68 rfl (lv_at hl 0 rfl) ?_
        refine va_get (D := G.1) (ci := 4) (v := .ref (am 1)) (C := RX4) (T := TX4) (N := 12) hx hb hts iwX4 hown hK hP 0 rfl rfl 0 (by decide) ha0 (fun _ h9 => h9) rfl dX4_line_69 ?_
        refine lv_iconst (v := nI 0) hx hb dX4_line_72 (by decide) ?_
        refine lv_iload_n hx hb dX4_line_73 rfl (lv_at hl 1 rfl) ?_
        refine lv_iadd hx hb dX4_line_74 ?_
        obtain ⟨v_11, e_12, hrun⟩ := bd hrun
        refine y_ald hx hb hK hP 1 0 rfl rfl e_12 dX4_line_75 ?_
        obtain ⟨hr1, hr2⟩ := si2 hrun
        exact W.iret (v := v_11) hx hb hr (fun t ht hW => ⟨⟨v_11, (), rfl, hr1, by rw [ht, ← hr2]; exact hP, by rw [← hr2]; exact hD⟩, hS.F ht⟩) hS.2.2 dX4_line_76
      · replace hrun := it_pos c_10 hrun
        refine lv_bipush (v := -6) hx hb dX4_line_63 (by decide) ?_
        refine lv_goto (tgt := 76) hx hb dX4_line_65 (by decide) ?_
        obtain ⟨hr1, hr2⟩ := si2 hrun
        exact W.iret (v := (-6)) hx hb hr (fun t ht hW => ⟨⟨(-6), (), rfl, hr1, by rw [ht, ← hr2]; exact hP, by rw [← hr2]; exact hD⟩, hS.F ht⟩) hS.2.2 dX4_line_76
    · replace hrun := it_neg c_7 hrun
      by_cases c_13 : u2 = nI 1
      · replace hrun := it_pos c_13 hrun
        refine lv_tableIn (tgt := 77) hx hb dX4_line_15 (by rw [c_13]; decide) (by rw [c_13]; decide) (off := 62) (by rw [c_13]; rfl) (by decide) ?_
        refine lv_aload_n hx hb dX4_line_77 rfl (lv_at hl 0 rfl) ?_
        refine va_get (D := G.1) (ci := 4) (v := .ref (am 5)) (C := RX4) (T := TX4) (N := 12) hx hb hts iwX4 hown hK hP 0 rfl rfl 5 (by decide) ha1 (fun _ h9 => h9) rfl dX4_line_78 ?_
        refine lv_iload_n hx hb dX4_line_81 rfl (lv_at hl 1 rfl) ?_
        obtain ⟨v_14, e_15, hrun⟩ := bd hrun
        refine y_ald hx hb hK hP 5 0 rfl rfl e_15 dX4_line_82 ?_
        obtain ⟨hr1, hr2⟩ := si2 hrun
        exact W.iret (v := v_14) hx hb hr (fun t ht hW => ⟨⟨v_14, (), rfl, hr1, by rw [ht, ← hr2]; exact hP, by rw [← hr2]; exact hD⟩, hS.F ht⟩) hS.2.2 dX4_line_83
      · replace hrun := it_neg c_13 hrun
        by_cases c_16 : u2 = nI 2
        · replace hrun := it_pos c_16 hrun
          refine lv_tableIn (tgt := 84) hx hb dX4_line_15 (by rw [c_16]; decide) (by rw [c_16]; decide) (off := 69) (by rw [c_16]; rfl) (by decide) ?_
          refine lv_aload_n hx hb dX4_line_84 rfl (lv_at hl 0 rfl) ?_
          refine va_get (D := G.1) (ci := 4) (v := .ref (am 6)) (C := RX4) (T := TX4) (N := 12) hx hb hts iwX4 hown hK hP 0 rfl rfl 6 (by decide) ha2 (fun _ h9 => h9) rfl dX4_line_85 ?_
          refine lv_iload_n hx hb dX4_line_88 rfl (lv_at hl 1 rfl) ?_
          obtain ⟨v_17, e_18, hrun⟩ := bd hrun
          refine y_ald hx hb hK hP 6 0 rfl rfl e_18 dX4_line_89 ?_
          obtain ⟨hr1, hr2⟩ := si2 hrun
          exact W.iret (v := v_17) hx hb hr (fun t ht hW => ⟨⟨v_17, (), rfl, hr1, by rw [ht, ← hr2]; exact hP, by rw [← hr2]; exact hD⟩, hS.F ht⟩) hS.2.2 dX4_line_90
        · replace hrun := it_neg c_16 hrun
          by_cases c_19 : u2 = nI 3
          · replace hrun := it_pos c_19 hrun
            refine lv_tableIn (tgt := 91) hx hb dX4_line_15 (by rw [c_19]; decide) (by rw [c_19]; decide) (off := 76) (by rw [c_19]; rfl) (by decide) ?_
            refine lv_aload_n hx hb dX4_line_91 rfl (lv_at hl 0 rfl) ?_
            refine va_get (D := G.1) (ci := 4) (v := .ref (am 1)) (C := RX4) (T := TX4) (N := 12) hx hb hts iwX4 hown hK hP 0 rfl rfl 0 (by decide) ha0 (fun _ h9 => h9) rfl dX4_line_92 ?_
            refine lv_bipush (v := nI 60) hx hb dX4_line_95 (by decide) ?_
            refine lv_iload_n hx hb dX4_line_97 rfl (lv_at hl 1 rfl) ?_
            refine lv_iadd hx hb dX4_line_98 ?_
            obtain ⟨v_20, e_21, hrun⟩ := bd hrun
            refine y_ald hx hb hK hP 1 0 rfl rfl e_21 dX4_line_99 ?_
            obtain ⟨hr1, hr2⟩ := si2 hrun
            exact W.iret (v := v_20) hx hb hr (fun t ht hW => ⟨⟨v_20, (), rfl, hr1, by rw [ht, ← hr2]; exact hP, by rw [← hr2]; exact hD⟩, hS.F ht⟩) hS.2.2 dX4_line_100
          · replace hrun := it_neg c_19 hrun
            by_cases c_22 : u2 = nI 4
            · replace hrun := it_pos c_22 hrun
              refine lv_tableIn (tgt := 101) hx hb dX4_line_15 (by rw [c_22]; decide) (by rw [c_22]; decide) (off := 86) (by rw [c_22]; rfl) (by decide) ?_
              refine lv_aload_n hx hb dX4_line_101 rfl (lv_at hl 0 rfl) ?_
              refine va_get (D := G.1) (ci := 4) (v := .ref (am 7)) (C := RX4) (T := TX4) (N := 12) hx hb hts iwX4 hown hK hP 0 rfl rfl 7 (by decide) ha3 (fun _ h9 => h9) rfl dX4_line_102 ?_
              refine lv_iconst (v := nI 2) hx hb dX4_line_105 (by decide) ?_
              refine lv_iload_n hx hb dX4_line_106 rfl (lv_at hl 1 rfl) ?_
              refine lv_imul hx hb dX4_line_107 ?_
              refine lv_iload_n hx hb dX4_line_108 rfl (lv_at hl 2 rfl) ?_
              refine lv_iadd hx hb dX4_line_109 ?_
              refine lv_iconst (v := nI 4) hx hb dX4_line_110 (by decide) ?_
              refine lv_isub hx hb dX4_line_111 ?_
              obtain ⟨v_23, e_24, hrun⟩ := bd hrun
              refine y_ald hx hb hK hP 7 0 rfl rfl e_24 dX4_line_112 ?_
              obtain ⟨hr1, hr2⟩ := si2 hrun
              exact W.iret (v := v_23) hx hb hr (fun t ht hW => ⟨⟨v_23, (), rfl, hr1, by rw [ht, ← hr2]; exact hP, by rw [← hr2]; exact hD⟩, hS.F ht⟩) hS.2.2 dX4_line_113
            · replace hrun := it_neg c_22 hrun
              by_cases c_25 : u2 = nI 5
              · replace hrun := it_pos c_25 hrun
                refine lv_tableIn (tgt := 101) hx hb dX4_line_15 (by rw [c_25]; decide) (by rw [c_25]; decide) (off := 86) (by rw [c_25]; rfl) (by decide) ?_
                refine lv_aload_n hx hb dX4_line_101 rfl (lv_at hl 0 rfl) ?_
                refine va_get (D := G.1) (ci := 4) (v := .ref (am 7)) (C := RX4) (T := TX4) (N := 12) hx hb hts iwX4 hown hK hP 0 rfl rfl 7 (by decide) ha3 (fun _ h9 => h9) rfl dX4_line_102 ?_
                refine lv_iconst (v := nI 2) hx hb dX4_line_105 (by decide) ?_
                refine lv_iload_n hx hb dX4_line_106 rfl (lv_at hl 1 rfl) ?_
                refine lv_imul hx hb dX4_line_107 ?_
                refine lv_iload_n hx hb dX4_line_108 rfl (lv_at hl 2 rfl) ?_
                refine lv_iadd hx hb dX4_line_109 ?_
                refine lv_iconst (v := nI 4) hx hb dX4_line_110 (by decide) ?_
                refine lv_isub hx hb dX4_line_111 ?_
                obtain ⟨v_26, e_27, hrun⟩ := bd hrun
                refine y_ald hx hb hK hP 7 0 rfl rfl e_27 dX4_line_112 ?_
                obtain ⟨hr1, hr2⟩ := si2 hrun
                exact W.iret (v := v_26) hx hb hr (fun t ht hW => ⟨⟨v_26, (), rfl, hr1, by rw [ht, ← hr2]; exact hP, by rw [← hr2]; exact hD⟩, hS.F ht⟩) hS.2.2 dX4_line_113
              · replace hrun := it_neg c_25 hrun
                refine lv_tableOut (tgt := 114) hx hb dX4_line_15 (tb_out (n := 6) (by decide) (fun k hk => by rcases (show k = 0 ∨ k = 1 ∨ k = 2 ∨ k = 3 ∨ k = 4 ∨ k = 5 by omega) with rfl | rfl | rfl | rfl | rfl | rfl <;> first | exact c_7 | exact c_13 | exact c_16 | exact c_19 | exact c_22 | exact c_25) (by decide)) (by decide) ?_
                refine lv_bipush (v := -2) hx hb dX4_line_114 (by decide) ?_
                obtain ⟨hr1, hr2⟩ := si2 hrun
                exact W.iret (v := (-2)) hx hb hr (fun t ht hW => ⟨⟨(-2), (), rfl, hr1, by rw [ht, ← hr2]; exact hP, by rw [← hr2]; exact hD⟩, hS.F ht⟩) hS.2.2 dX4_line_116
  · replace hrun := it_pos c_4 hrun
    refine lv_iconst (v := -1) hx hb dX4_line_8 (by decide) ?_
    obtain ⟨hr1, hr2⟩ := si2 hrun
    exact W.iret (v := (-1)) hx hb hr (fun t ht hW => ⟨⟨(-1), (), rfl, hr1, by rw [ht, ← hr2]; exact hP, by rw [← hr2]; exact hD⟩, hS.F ht⟩) hS.2.2 dX4_line_9
def p_X4_page  (u1 : Int32) (u2 : Int32) (M : Ob) : Option (Int32 × Ob) := ((p_X4_layPages M).bind fun N_2 => ((p_X4_isPage N_2 u1).bind fun v_3 => (if v_3 = nI 0 then (some ((-1), N_2)) else (if u2 = nI 0 then ((ldI (N_2 9) 130 u1).bind fun v_8 => (some (v_8, N_2))) else (if u2 = nI 1 then ((ldI (N_2 8) 130 u1).bind fun v_11 => (some (v_11, N_2))) else (if u2 = nI 2 then ((p_X4_headOf N_2 u1).bind fun v_14 => (some (v_14, N_2))) else (if u2 = nI 3 then ((p_X4_isShared N_2 u1).bind fun v_17 => (if v_17 = nI 0 then (some ((nI 0), N_2)) else (some ((nI 1), N_2)))) else (some ((-2), N_2)))))))))
abbrev rmX4_page : Room := { frames := 5, cells := 0, slots := 0, locals := 113 }
set_option maxHeartbeats 4000000 in
set_option maxRecDepth 100000 in
theorem c_X4_page (l : Launch) (G : GT) (am : Nat → Nat) (M : Ob) (u1 u2 : Int32) (sz : Nat) (r0 : Int32) (M0 : Ob) (hrun : p_X4_page u1 u2 M = some (r0, M0)) : Met l yX4_page wsX4_page rmX4_page (PreW G [.ref (am 0), .int u1, .int u2] (wMod G am M) sz) (QI G r0 (wMod G am M0) (va_A (wMod G am M) sz)) 0 0 (va_A (wMod G am M) sz) := by
  refine Met.ofW (cc := cX4_page) (maxL := 3) (ret := (some .int)) (by decide) rfl ?_
  intro p e s m args below meth c s₁ Bd hml hv
  obtain ⟨rfl, hsz, hP, hC, hD0⟩ := hv
  have hx := Bd.exec
  have hb := Bd.bytes
  have hr := Bd.returns
  have hts := atoms_spec (ws := wsX4_page) Bd.pre
  have hown : s.vm.findClass RX4 = some m.cls := findClass_of_methodNamed Bd.named
  have hlocks := Bd.notSynchronized
  have hK := hC.1
  have iwX4 : ∀ w ∈ wsX40, w ∈ wsX4_page := by decide +kernel
  have ha0 := hts (.fieldLink RX4 35 "HeadMarksModel" "linesOn" "[I") (by decide +kernel)
  have ha1 := hts (.fieldLink RX4 32 "HeadMarksModel" "firstOn" "[I") (by decide +kernel)
  subst hsz
  have hD := hD0.self (sz := s.heap.size)
  generalize hAe : va_A (wMod G am M) s.heap.size = A at hD ⊢
  have hA : ∀ q : Nat, s.heap.size ≤ q → A q := fun q h => by rw [← hAe]; exact Or.inr h
  have hS : va_S A s.heap s.heap [] := va_S.rf
  have hl := lv_entry [.ref (am 0), .int u1, .int u2] (n := 3) (Nat.le_of_ble_eq_true rfl)
  rw [lg_entry_eq]
  generalize (lg_sl [.ref (am 0), .int u1, .int u2] ++ List.replicate (3 - (lg_sl [.ref (am 0), .int u1, .int u2]).length) Slot.unset).toArray = ls at hl ⊢
  have hl : lv_has ls 3 [(0, .ref (am 0)), (1, .int u1), (2, .int u2)] := hl
  rw [p_X4_page] at hrun
  refine lv_aload_n hx hb dX4_page_0 rfl (lv_at hl 0 rfl) ?_
  obtain ⟨N_2, e_1, hrun⟩ := bd hrun
  have hF := y_all hD hS hA
  refine y_rwv (va_runV (As := []) (rest := []) ⟨hx, hb, hml, hown, hts⟩ (c_X4_layPages l G am M  _ N_2 e_1) (cwV 0 hts gX4_page_X4_layPages rfl rfl rfl (by decide +kernel) ⟨Nat.le_of_ble_eq_true rfl, Nat.le_of_ble_eq_true rfl⟩) ⟨PreW.blind, va_recv hK hP (ci := 4) (q0 := 0) rfl rfl, y_preW hC hP hD⟩ rfl rfl hl.1 rfl (lv_room (Nat.le_of_ble_eq_true rfl)) dX4_page_1 ⟨Nat.zero_le _, Nat.zero_le _⟩) hS hF (fun H locs hP1 hD1 hk1 hS => ?_)
  replace hP : va_P G.1 vwCl (wMod G am N_2) H := hP1
  replace hD : va_D A (wMod G am N_2) := hD1.weaken (fun _ q _ h => hF q.1 h)
  clear hP1 hD1 hk1 hF
  refine lv_aload_n hx hb dX4_page_4 rfl (lv_at hl 0 rfl) ?_
  refine lv_iload_n hx hb dX4_page_5 rfl (lv_at hl 1 rfl) ?_
  obtain ⟨v_3, e_4, hrun⟩ := bd hrun
  refine y_roz (va_runV (As := [.int u1]) (rest := []) ⟨hx, hb, hml, hown, hts⟩ (c_X4_isPage l G am N_2 u1 v_3 e_4) (cwV 1 hts gX4_page_X4_isPage rfl rfl rfl (by decide +kernel) ⟨Nat.le_of_ble_eq_true rfl, Nat.le_of_ble_eq_true rfl⟩) ⟨PreR.blind, va_recv hK hP (ci := 4) (q0 := 0) rfl rfl, y_preR hC hP⟩ rfl rfl hl.1 rfl (lv_room (Nat.le_of_ble_eq_true rfl)) dX4_page_6 ⟨Nat.zero_le _, Nat.zero_le _⟩) (fun z_5 => ?_)
  refine lv_if_ne (tgt := 14) hx hb dX4_page_9 (by decide) (fun c_6 => ?_) (fun c_6 => ?_)
  · replace hrun := it_neg c_6 hrun
    refine lv_iload_n hx hb dX4_page_14 rfl (lv_at hl 2 rfl) ?_
    by_cases c_7 : u2 = nI 0
    · replace hrun := it_pos c_7 hrun
      refine lv_tableIn (tgt := 44) hx hb dX4_page_15 (by rw [c_7]; decide) (by rw [c_7]; decide) (off := 29) (by rw [c_7]; rfl) (by decide) ?_
      refine lv_aload_n hx hb dX4_page_44 rfl (lv_at hl 0 rfl) ?_
      refine va_get (D := G.1) (ci := 4) (v := .ref (am 9)) (C := RX4) (T := TX4) (N := 12) hx hb hts iwX4 hown hK hP 0 rfl rfl 9 (by decide) ha0 (fun _ h9 => h9) rfl dX4_page_45 ?_
      refine lv_iload_n hx hb dX4_page_48 rfl (lv_at hl 1 rfl) ?_
      obtain ⟨v_8, e_9, hrun⟩ := bd hrun
      refine y_ald hx hb hK hP 9 0 rfl rfl e_9 dX4_page_49 ?_
      obtain ⟨hr1, hr2⟩ := si2 hrun
      exact W.iret (v := v_8) hx hb hr (fun t ht hW => ⟨⟨v_8, (), rfl, hr1, by rw [ht, ← hr2]; exact hP, by rw [← hr2]; exact hD⟩, hS.F ht⟩) hS.2.2 dX4_page_50
    · replace hrun := it_neg c_7 hrun
      by_cases c_10 : u2 = nI 1
      · replace hrun := it_pos c_10 hrun
        refine lv_tableIn (tgt := 51) hx hb dX4_page_15 (by rw [c_10]; decide) (by rw [c_10]; decide) (off := 36) (by rw [c_10]; rfl) (by decide) ?_
        refine lv_aload_n hx hb dX4_page_51 rfl (lv_at hl 0 rfl) ?_
        refine va_get (D := G.1) (ci := 4) (v := .ref (am 8)) (C := RX4) (T := TX4) (N := 12) hx hb hts iwX4 hown hK hP 0 rfl rfl 8 (by decide) ha1 (fun _ h9 => h9) rfl dX4_page_52 ?_
        refine lv_iload_n hx hb dX4_page_55 rfl (lv_at hl 1 rfl) ?_
        obtain ⟨v_11, e_12, hrun⟩ := bd hrun
        refine y_ald hx hb hK hP 8 0 rfl rfl e_12 dX4_page_56 ?_
        obtain ⟨hr1, hr2⟩ := si2 hrun
        exact W.iret (v := v_11) hx hb hr (fun t ht hW => ⟨⟨v_11, (), rfl, hr1, by rw [ht, ← hr2]; exact hP, by rw [← hr2]; exact hD⟩, hS.F ht⟩) hS.2.2 dX4_page_57
      · replace hrun := it_neg c_10 hrun
        by_cases c_13 : u2 = nI 2
        · replace hrun := it_pos c_13 hrun
          refine lv_tableIn (tgt := 58) hx hb dX4_page_15 (by rw [c_13]; decide) (by rw [c_13]; decide) (off := 43) (by rw [c_13]; rfl) (by decide) ?_
          refine lv_aload_n hx hb dX4_page_58 rfl (lv_at hl 0 rfl) ?_
          refine lv_iload_n hx hb dX4_page_59 rfl (lv_at hl 1 rfl) ?_
          obtain ⟨v_14, e_15, hrun⟩ := bd hrun
          refine y_ro (va_runV (As := [.int u1]) (rest := []) ⟨hx, hb, hml, hown, hts⟩ (c_X4_headOf l G am N_2 u1 v_14 e_15) (cwV 1 hts gX4_page_X4_headOf rfl rfl rfl (by decide +kernel) ⟨Nat.le_of_ble_eq_true rfl, Nat.le_of_ble_eq_true rfl⟩) ⟨PreR.blind, va_recv hK hP (ci := 4) (q0 := 0) rfl rfl, y_preR hC hP⟩ rfl rfl hl.1 rfl (lv_room (Nat.le_of_ble_eq_true rfl)) dX4_page_60 ⟨Nat.zero_le _, Nat.zero_le _⟩) ?_
          obtain ⟨hr1, hr2⟩ := si2 hrun
          exact W.iret (v := v_14) hx hb hr (fun t ht hW => ⟨⟨v_14, (), rfl, hr1, by rw [ht, ← hr2]; exact hP, by rw [← hr2]; exact hD⟩, hS.F ht⟩) hS.2.2 dX4_page_63
        · replace hrun := it_neg c_13 hrun
          by_cases c_16 : u2 = nI 3
          · replace hrun := it_pos c_16 hrun
            refine lv_tableIn (tgt := 64) hx hb dX4_page_15 (by rw [c_16]; decide) (by rw [c_16]; decide) (off := 49) (by rw [c_16]; rfl) (by decide) ?_
            refine lv_aload_n hx hb dX4_page_64 rfl (lv_at hl 0 rfl) ?_
            refine lv_iload_n hx hb dX4_page_65 rfl (lv_at hl 1 rfl) ?_
            obtain ⟨v_17, e_18, hrun⟩ := bd hrun
            refine y_roz (va_runV (As := [.int u1]) (rest := []) ⟨hx, hb, hml, hown, hts⟩ (c_X4_isShared l G am N_2 u1 v_17 e_18) (cwV 1 hts gX4_page_X4_isShared rfl rfl rfl (by decide +kernel) ⟨Nat.le_of_ble_eq_true rfl, Nat.le_of_ble_eq_true rfl⟩) ⟨PreR.blind, va_recv hK hP (ci := 4) (q0 := 0) rfl rfl, y_preR hC hP⟩ rfl rfl hl.1 rfl (lv_room (Nat.le_of_ble_eq_true rfl)) dX4_page_66 ⟨Nat.zero_le _, Nat.zero_le _⟩) (fun z_19 => ?_)
            refine lv_if_eq (tgt := 76) hx hb dX4_page_69 (by decide) (fun c_20 => ?_) (fun c_20 => ?_)
            · replace hrun := it_pos c_20 hrun
              refine lv_iconst (v := nI 0) hx hb dX4_page_76 (by decide) ?_
              obtain ⟨hr1, hr2⟩ := si2 hrun
              exact W.iret (v := (nI 0)) hx hb hr (fun t ht hW => ⟨⟨(nI 0), (), rfl, hr1, by rw [ht, ← hr2]; exact hP, by rw [← hr2]; exact hD⟩, hS.F ht⟩) hS.2.2 dX4_page_77
            · replace hrun := it_neg c_20 hrun
              refine lv_iconst (v := nI 1) hx hb dX4_page_72 (by decide) ?_
              refine lv_goto (tgt := 77) hx hb dX4_page_73 (by decide) ?_
              obtain ⟨hr1, hr2⟩ := si2 hrun
              exact W.iret (v := (nI 1)) hx hb hr (fun t ht hW => ⟨⟨(nI 1), (), rfl, hr1, by rw [ht, ← hr2]; exact hP, by rw [← hr2]; exact hD⟩, hS.F ht⟩) hS.2.2 dX4_page_77
          · replace hrun := it_neg c_16 hrun
            refine lv_tableOut (tgt := 78) hx hb dX4_page_15 (tb_out (n := 4) (by decide) (fun k hk => by rcases (show k = 0 ∨ k = 1 ∨ k = 2 ∨ k = 3 by omega) with rfl | rfl | rfl | rfl <;> first | exact c_7 | exact c_10 | exact c_13 | exact c_16) (by decide)) (by decide) ?_
            refine lv_bipush (v := -2) hx hb dX4_page_78 (by decide) ?_
            obtain ⟨hr1, hr2⟩ := si2 hrun
            exact W.iret (v := (-2)) hx hb hr (fun t ht hW => ⟨⟨(-2), (), rfl, hr1, by rw [ht, ← hr2]; exact hP, by rw [← hr2]; exact hD⟩, hS.F ht⟩) hS.2.2 dX4_page_80
  · replace hrun := it_pos c_6 hrun
    refine lv_iconst (v := -1) hx hb dX4_page_12 (by decide) ?_
    obtain ⟨hr1, hr2⟩ := si2 hrun
    exact W.iret (v := (-1)) hx hb hr (fun t ht hW => ⟨⟨(-1), (), rfl, hr1, by rw [ht, ← hr2]; exact hP, by rw [← hr2]; exact hD⟩, hS.F ht⟩) hS.2.2 dX4_page_13
def p_X4_mark  (u1 : Int32) (u2 : Int32) (u3 : Int32) (M : Ob) : Option (Int32 × Ob) := ((p_X4_layPages M).bind fun N_2 => ((p_X4_isPage N_2 u1).bind fun v_3 => (if v_3 = nI 0 then (some ((-1), N_2)) else ((p_X4_in u2 (nI 0) (nI 1)).bind fun v_7 => (if v_7 = nI 0 then (some ((-2), N_2)) else ((p_X4_in u3 (nI 0) (nI 2)).bind fun v_11 => (if v_11 = nI 0 then (some ((-2), N_2)) else ((p_X4_markOf N_2 u1 u2 u3).bind fun v_15 => (some (v_15, N_2))))))))))
abbrev rmX4_mark : Room := { frames := 4, cells := 0, slots := 0, locals := 91 }
set_option maxHeartbeats 4000000 in
set_option maxRecDepth 100000 in
theorem c_X4_mark (l : Launch) (G : GT) (am : Nat → Nat) (M : Ob) (u1 u2 u3 : Int32) (sz : Nat) (r0 : Int32) (M0 : Ob) (hrun : p_X4_mark u1 u2 u3 M = some (r0, M0)) : Met l yX4_mark wsX4_mark rmX4_mark (PreW G [.ref (am 0), .int u1, .int u2, .int u3] (wMod G am M) sz) (QI G r0 (wMod G am M0) (va_A (wMod G am M) sz)) 0 0 (va_A (wMod G am M) sz) := by
  refine Met.ofW (cc := cX4_mark) (maxL := 4) (ret := (some .int)) (by decide) rfl ?_
  intro p e s m args below meth c s₁ Bd hml hv
  obtain ⟨rfl, hsz, hP, hC, hD0⟩ := hv
  have hx := Bd.exec
  have hb := Bd.bytes
  have hr := Bd.returns
  have hts := atoms_spec (ws := wsX4_mark) Bd.pre
  have hown : s.vm.findClass RX4 = some m.cls := findClass_of_methodNamed Bd.named
  have hlocks := Bd.notSynchronized
  have hK := hC.1
  subst hsz
  have hD := hD0.self (sz := s.heap.size)
  generalize hAe : va_A (wMod G am M) s.heap.size = A at hD ⊢
  have hA : ∀ q : Nat, s.heap.size ≤ q → A q := fun q h => by rw [← hAe]; exact Or.inr h
  have hS : va_S A s.heap s.heap [] := va_S.rf
  have hl := lv_entry [.ref (am 0), .int u1, .int u2, .int u3] (n := 4) (Nat.le_of_ble_eq_true rfl)
  rw [lg_entry_eq]
  generalize (lg_sl [.ref (am 0), .int u1, .int u2, .int u3] ++ List.replicate (4 - (lg_sl [.ref (am 0), .int u1, .int u2, .int u3]).length) Slot.unset).toArray = ls at hl ⊢
  have hl : lv_has ls 4 [(0, .ref (am 0)), (1, .int u1), (2, .int u2), (3, .int u3)] := hl
  rw [p_X4_mark] at hrun
  refine lv_aload_n hx hb dX4_mark_0 rfl (lv_at hl 0 rfl) ?_
  obtain ⟨N_2, e_1, hrun⟩ := bd hrun
  have hF := y_all hD hS hA
  refine y_rwv (va_runV (As := []) (rest := []) ⟨hx, hb, hml, hown, hts⟩ (c_X4_layPages l G am M  _ N_2 e_1) (cwV 0 hts gX4_mark_X4_layPages rfl rfl rfl (by decide +kernel) ⟨Nat.le_of_ble_eq_true rfl, Nat.le_of_ble_eq_true rfl⟩) ⟨PreW.blind, va_recv hK hP (ci := 4) (q0 := 0) rfl rfl, y_preW hC hP hD⟩ rfl rfl hl.1 rfl (lv_room (Nat.le_of_ble_eq_true rfl)) dX4_mark_1 ⟨Nat.zero_le _, Nat.zero_le _⟩) hS hF (fun H locs hP1 hD1 hk1 hS => ?_)
  replace hP : va_P G.1 vwCl (wMod G am N_2) H := hP1
  replace hD : va_D A (wMod G am N_2) := hD1.weaken (fun _ q _ h => hF q.1 h)
  clear hP1 hD1 hk1 hF
  refine lv_aload_n hx hb dX4_mark_4 rfl (lv_at hl 0 rfl) ?_
  refine lv_iload_n hx hb dX4_mark_5 rfl (lv_at hl 1 rfl) ?_
  obtain ⟨v_3, e_4, hrun⟩ := bd hrun
  refine y_roz (va_runV (As := [.int u1]) (rest := []) ⟨hx, hb, hml, hown, hts⟩ (c_X4_isPage l G am N_2 u1 v_3 e_4) (cwV 1 hts gX4_mark_X4_isPage rfl rfl rfl (by decide +kernel) ⟨Nat.le_of_ble_eq_true rfl, Nat.le_of_ble_eq_true rfl⟩) ⟨PreR.blind, va_recv hK hP (ci := 4) (q0 := 0) rfl rfl, y_preR hC hP⟩ rfl rfl hl.1 rfl (lv_room (Nat.le_of_ble_eq_true rfl)) dX4_mark_6 ⟨Nat.zero_le _, Nat.zero_le _⟩) (fun z_5 => ?_)
  refine lv_if_ne (tgt := 14) hx hb dX4_mark_9 (by decide) (fun c_6 => ?_) (fun c_6 => ?_)
  · replace hrun := it_neg c_6 hrun
    refine lv_iload_n hx hb dX4_mark_14 rfl (lv_at hl 2 rfl) ?_
    refine lv_iconst (v := nI 0) hx hb dX4_mark_15 (by decide) ?_
    refine lv_iconst (v := nI 1) hx hb dX4_mark_16 (by decide) ?_
    obtain ⟨v_7, e_8, hrun⟩ := bd hrun
    refine y_roz (va_runS (As := [.int u2, .int (nI 0), .int (nI 1)]) (rest := []) ⟨hx, hb, hml, hown, hts⟩ (c_X4_in l G   u2 (nI 0) (nI 1) v_7 e_8) (cwS 3 hts gX4_mark_X4_in rfl rfl rfl (by decide +kernel) ⟨Nat.le_of_ble_eq_true rfl, Nat.le_of_ble_eq_true rfl⟩) ⟨PreR.blind, y_preR hC (fun _ _ h => by cases h)⟩ rfl rfl hl.1 rfl (lv_room (Nat.le_of_ble_eq_true rfl)) dX4_mark_17 ⟨Nat.zero_le _, Nat.zero_le _⟩) (fun z_9 => ?_)
    refine lv_if_eq (tgt := 42) hx hb dX4_mark_20 (by decide) (fun c_10 => ?_) (fun c_10 => ?_)
    · replace hrun := it_pos c_10 hrun
      refine lv_bipush (v := -2) hx hb dX4_mark_42 (by decide) ?_
      obtain ⟨hr1, hr2⟩ := si2 hrun
      exact W.iret (v := (-2)) hx hb hr (fun t ht hW => ⟨⟨(-2), (), rfl, hr1, by rw [ht, ← hr2]; exact hP, by rw [← hr2]; exact hD⟩, hS.F ht⟩) hS.2.2 dX4_mark_44
    · replace hrun := it_neg c_10 hrun
      refine lv_iload_n hx hb dX4_mark_23 rfl (lv_at hl 3 rfl) ?_
      refine lv_iconst (v := nI 0) hx hb dX4_mark_24 (by decide) ?_
      refine lv_iconst (v := nI 2) hx hb dX4_mark_25 (by decide) ?_
      obtain ⟨v_11, e_12, hrun⟩ := bd hrun
      refine y_roz (va_runS (As := [.int u3, .int (nI 0), .int (nI 2)]) (rest := []) ⟨hx, hb, hml, hown, hts⟩ (c_X4_in l G   u3 (nI 0) (nI 2) v_11 e_12) (cwS 3 hts gX4_mark_X4_in rfl rfl rfl (by decide +kernel) ⟨Nat.le_of_ble_eq_true rfl, Nat.le_of_ble_eq_true rfl⟩) ⟨PreR.blind, y_preR hC (fun _ _ h => by cases h)⟩ rfl rfl hl.1 rfl (lv_room (Nat.le_of_ble_eq_true rfl)) dX4_mark_26 ⟨Nat.zero_le _, Nat.zero_le _⟩) (fun z_13 => ?_)
      refine lv_if_eq (tgt := 42) hx hb dX4_mark_29 (by decide) (fun c_14 => ?_) (fun c_14 => ?_)
      · replace hrun := it_pos c_14 hrun
        refine lv_bipush (v := -2) hx hb dX4_mark_42 (by decide) ?_
        obtain ⟨hr1, hr2⟩ := si2 hrun
        exact W.iret (v := (-2)) hx hb hr (fun t ht hW => ⟨⟨(-2), (), rfl, hr1, by rw [ht, ← hr2]; exact hP, by rw [← hr2]; exact hD⟩, hS.F ht⟩) hS.2.2 dX4_mark_44
      · replace hrun := it_neg c_14 hrun
        refine lv_aload_n hx hb dX4_mark_32 rfl (lv_at hl 0 rfl) ?_
        refine lv_iload_n hx hb dX4_mark_33 rfl (lv_at hl 1 rfl) ?_
        refine lv_iload_n hx hb dX4_mark_34 rfl (lv_at hl 2 rfl) ?_
        refine lv_iload_n hx hb dX4_mark_35 rfl (lv_at hl 3 rfl) ?_
        obtain ⟨v_15, e_16, hrun⟩ := bd hrun
        refine y_ro (va_runV (As := [.int u1, .int u2, .int u3]) (rest := []) ⟨hx, hb, hml, hown, hts⟩ (c_X4_markOf l G am N_2 u1 u2 u3 v_15 e_16) (cwV 3 hts gX4_mark_X4_markOf rfl rfl rfl (by decide +kernel) ⟨Nat.le_of_ble_eq_true rfl, Nat.le_of_ble_eq_true rfl⟩) ⟨PreR.blind, va_recv hK hP (ci := 4) (q0 := 0) rfl rfl, y_preR hC hP⟩ rfl rfl hl.1 rfl (lv_room (Nat.le_of_ble_eq_true rfl)) dX4_mark_36 ⟨Nat.zero_le _, Nat.zero_le _⟩) ?_
        refine lv_goto (tgt := 44) hx hb dX4_mark_39 (by decide) ?_
        obtain ⟨hr1, hr2⟩ := si2 hrun
        exact W.iret (v := v_15) hx hb hr (fun t ht hW => ⟨⟨v_15, (), rfl, hr1, by rw [ht, ← hr2]; exact hP, by rw [← hr2]; exact hD⟩, hS.F ht⟩) hS.2.2 dX4_mark_44
  · replace hrun := it_pos c_6 hrun
    refine lv_iconst (v := -1) hx hb dX4_mark_12 (by decide) ?_
    obtain ⟨hr1, hr2⟩ := si2 hrun
    exact W.iret (v := (-1)) hx hb hr (fun t ht hW => ⟨⟨(-1), (), rfl, hr1, by rw [ht, ← hr2]; exact hP, by rw [← hr2]; exact hD⟩, hS.F ht⟩) hS.2.2 dX4_mark_13
def p_X4_headed_56  (K : Int32 → Int32 → Int32 → Int32 → Ob → Option (Int32 × Ob)) (x1 : Int32) (x2 : Int32) (x3 : Int32) (x4 : Int32) (M : Ob) : Option (Int32 × Ob) := K x1 x2 x3 (x4 + nI 1) M
def p_X4_headed_26  : Nat → Int32 → Int32 → Int32 → Int32 → Ob → Option (Int32 × Ob)
  | 0, _, _, _, _, _ => none
  | n + 1, x1, x2, x3, x4, M => (if (M 10 0) < x4 then (if x2 = (-1) then (some (x3, M)) else (some ((-6), M))) else ((p_X4_headOf M x4).bind fun v_13 => (if v_13 = x1 then (if x3 = x2 then (some (x4, M)) else p_X4_headed_56 (p_X4_headed_26 n) x1 x2 (x3 + nI 1) x4 M) else p_X4_headed_56 (p_X4_headed_26 n) x1 x2 x3 x4 M)))
def p_X4_headed_17  (x1 : Int32) (x2 : Int32) (M : Ob) : Option (Int32 × Ob) := ((p_X4_layPages M).bind fun N_10 => p_X4_headed_26 200 x1 x2 (nI 0) (nI 1) N_10)
def p_X4_headed  (u1 : Int32) (u2 : Int32) (M : Ob) : Option (Int32 × Ob) := ((p_X4_isChapter u1).bind fun v_1 => (if v_1 = nI 0 then ((p_X4_isSection u1).bind fun v_5 => (if v_5 = nI 0 then (some ((-2), M)) else p_X4_headed_17 u1 u2 M)) else p_X4_headed_17 u1 u2 M))
abbrev rmX4_headed : Room := { frames := 5, cells := 0, slots := 0, locals := 113 }
set_option maxHeartbeats 4000000 in
set_option maxRecDepth 100000 in
theorem c_X4_headed (l : Launch) (G : GT) (am : Nat → Nat) (M : Ob) (u1 u2 : Int32) (sz : Nat) (r0 : Int32) (M0 : Ob) (hrun : p_X4_headed u1 u2 M = some (r0, M0)) : Met l yX4_headed wsX4_headed rmX4_headed (PreW G [.ref (am 0), .int u1, .int u2] (wMod G am M) sz) (QI G r0 (wMod G am M0) (va_A (wMod G am M) sz)) 0 0 (va_A (wMod G am M) sz) := by
  refine Met.ofW (cc := cX4_headed) (maxL := 5) (ret := (some .int)) (by decide) rfl ?_
  intro p e s m args below meth c s₁ Bd hml hv
  obtain ⟨rfl, hsz, hP, hC, hD0⟩ := hv
  have hx := Bd.exec
  have hb := Bd.bytes
  have hr := Bd.returns
  have hts := atoms_spec (ws := wsX4_headed) Bd.pre
  have hown : s.vm.findClass RX4 = some m.cls := findClass_of_methodNamed Bd.named
  have hlocks := Bd.notSynchronized
  have hK := hC.1
  have iwX4 : ∀ w ∈ wsX40, w ∈ wsX4_headed := by decide +kernel
  have ha0 := hts (.fieldLink RX4 76 "HeadMarksModel" "pages" "I") (by decide +kernel)
  subst hsz
  have hD := hD0.self (sz := s.heap.size)
  generalize hAe : va_A (wMod G am M) s.heap.size = A at hD ⊢
  have hA : ∀ q : Nat, s.heap.size ≤ q → A q := fun q h => by rw [← hAe]; exact Or.inr h
  have hS : va_S A s.heap s.heap [] := va_S.rf
  have kH_26 : ∀ (n : Nat) (x1 x2 x3 x4 : Int32) (M : Ob) , ∀ (H : Heap) (locs : List Loc), va_P G.1 vwCl (wMod G am M) H → va_D A (wMod G am M) → va_S A s.heap H locs → ∀ (ls : Array Slot), lv_has ls 5 [(0, .ref (am 0)), (1, .int x1), (2, .int x2), (3, .int x3), (4, .int x4)] → p_X4_headed_26 n x1 x2 x3 x4 M = some (r0, M0) → W p l e (headSpec wsX4_headed rmX4_headed).room s m ([.ref (am 0), .int u1, .int u2] : List Value).toArray below meth c H locs 0 0 (MQ below (QI G r0 (wMod G am M0) A) ([.ref (am 0), .int u1, .int u2] : List Value).toArray s 0 0 A) (F0 m 26 ls []) := by
    intro n
    induction n with
    | zero => intro x1 x2 x3 x4 M H locs hP hD hS ls hl hrun; exact absurd (hrun : (none : Option (Int32 × Ob)) = some (r0, M0)) (fun h => by cases h)
    | succ n ih =>
      have kJ_56 : ∀ (x1 x2 x3 x4 : Int32) (M : Ob) , ∀ (H : Heap) (locs : List Loc), va_P G.1 vwCl (wMod G am M) H → va_D A (wMod G am M) → va_S A s.heap H locs → ∀ (ls : Array Slot), lv_has ls 5 [(0, .ref (am 0)), (1, .int x1), (2, .int x2), (3, .int x3), (4, .int x4)] → p_X4_headed_56 (p_X4_headed_26 n) x1 x2 x3 x4 M = some (r0, M0) → W p l e (headSpec wsX4_headed rmX4_headed).room s m ([.ref (am 0), .int u1, .int u2] : List Value).toArray below meth c H locs 0 0 (MQ below (QI G r0 (wMod G am M0) A) ([.ref (am 0), .int u1, .int u2] : List Value).toArray s 0 0 A) (F0 m 56 ls []) := by
        intro x1 x2 x3 x4 M H locs hP hD hS ls hl hrun
        rw [p_X4_headed_56] at hrun
        refine lv_iinc (v := (x4 + nI 1)) (lv' := [(4, .int (x4 + nI 1)), (0, .ref (am 0)), (1, .int x1), (2, .int x2), (3, .int x3)]) hx hb dX4_headed_56 hl (k := 4) rfl rfl (by decide) rfl (fun ls hl => ?_)
        refine lv_goto (tgt := 26) hx hb dX4_headed_59 (by decide) ?_
        exact ih x1 x2 x3 (x4 + nI 1) M _ _ hP hD hS ls (lv_sub hl [1, 2, 3, 4, 0] rfl) hrun
      intro x1 x2 x3 x4 M H locs hP hD hS ls hl hrun
      rw [p_X4_headed_26] at hrun
      refine lv_iload hx hb dX4_headed_26 (lv_at hl 4 rfl) ?_
      refine lv_aload_n hx hb dX4_headed_28 rfl (lv_at hl 0 rfl) ?_
      refine va_get (D := G.1) (ci := 4) (v := .int (M 10 0)) (C := RX4) (T := TX4) (N := 12) hx hb hts iwX4 hown hK hP 0 rfl rfl 10 (by decide) ha0 (fun _ h9 => h9) rfl dX4_headed_29 ?_
      refine lv_icmp_gt (tgt := 62) hx hb dX4_headed_32 (by decide) (fun c_11 => ?_) (fun c_11 => ?_)
      · replace hrun := it_pos c_11 hrun
        refine lv_iload_n hx hb dX4_headed_62 rfl (lv_at hl 2 rfl) ?_
        refine lv_iconst (v := -1) hx hb dX4_headed_63 (by decide) ?_
        refine lv_icmp_ne (tgt := 71) hx hb dX4_headed_64 (by decide) (fun c_12 => ?_) (fun c_12 => ?_)
        · replace hrun := it_neg c_12 hrun
          refine lv_bipush (v := -6) hx hb dX4_headed_71 (by decide) ?_
          obtain ⟨hr1, hr2⟩ := si2 hrun
          exact W.iret (v := (-6)) hx hb hr (fun t ht hW => ⟨⟨(-6), (), rfl, hr1, by rw [ht, ← hr2]; exact hP, by rw [← hr2]; exact hD⟩, hS.F ht⟩) hS.2.2 dX4_headed_73
        · replace hrun := it_pos c_12 hrun
          refine lv_iload_n hx hb dX4_headed_67 rfl (lv_at hl 3 rfl) ?_
          refine lv_goto (tgt := 73) hx hb dX4_headed_68 (by decide) ?_
          obtain ⟨hr1, hr2⟩ := si2 hrun
          exact W.iret (v := x3) hx hb hr (fun t ht hW => ⟨⟨x3, (), rfl, hr1, by rw [ht, ← hr2]; exact hP, by rw [← hr2]; exact hD⟩, hS.F ht⟩) hS.2.2 dX4_headed_73
      · replace hrun := it_neg c_11 hrun
        refine lv_aload_n hx hb dX4_headed_35 rfl (lv_at hl 0 rfl) ?_
        refine lv_iload hx hb dX4_headed_36 (lv_at hl 4 rfl) ?_
        obtain ⟨v_13, e_14, hrun⟩ := bd hrun
        refine y_ro (va_runV (As := [.int x4]) (rest := []) ⟨hx, hb, hml, hown, hts⟩ (c_X4_headOf l G am M x4 v_13 e_14) (cwV 1 hts gX4_headed_X4_headOf rfl rfl rfl (by decide +kernel) ⟨Nat.le_of_ble_eq_true rfl, Nat.le_of_ble_eq_true rfl⟩) ⟨PreR.blind, va_recv hK hP (ci := 4) (q0 := 0) rfl rfl, y_preR hC hP⟩ rfl rfl hl.1 rfl (lv_room (Nat.le_of_ble_eq_true rfl)) dX4_headed_38 ⟨Nat.zero_le _, Nat.zero_le _⟩) ?_
        refine lv_iload_n hx hb dX4_headed_41 rfl (lv_at hl 1 rfl) ?_
        refine lv_icmp_ne (tgt := 56) hx hb dX4_headed_42 (by decide) (fun c_15 => ?_) (fun c_15 => ?_)
        · replace hrun := it_neg c_15 hrun
          exact kJ_56 x1 x2 x3 x4 M _ _ hP hD hS ls (lv_sub hl [0, 1, 2, 3, 4] rfl) hrun
        · replace hrun := it_pos c_15 hrun
          refine lv_iload_n hx hb dX4_headed_45 rfl (lv_at hl 3 rfl) ?_
          refine lv_iload_n hx hb dX4_headed_46 rfl (lv_at hl 2 rfl) ?_
          refine lv_icmp_ne (tgt := 53) hx hb dX4_headed_47 (by decide) (fun c_16 => ?_) (fun c_16 => ?_)
          · replace hrun := it_neg c_16 hrun
            refine lv_iinc (v := (x3 + nI 1)) (lv' := [(3, .int (x3 + nI 1)), (0, .ref (am 0)), (1, .int x1), (2, .int x2), (4, .int x4)]) hx hb dX4_headed_53 hl (k := 3) rfl rfl (by decide) rfl (fun ls hl => ?_)
            exact kJ_56 x1 x2 (x3 + nI 1) x4 M _ _ hP hD hS ls (lv_sub hl [1, 2, 3, 0, 4] rfl) hrun
          · replace hrun := it_pos c_16 hrun
            refine lv_iload hx hb dX4_headed_50 (lv_at hl 4 rfl) ?_
            obtain ⟨hr1, hr2⟩ := si2 hrun
            exact W.iret (v := x4) hx hb hr (fun t ht hW => ⟨⟨x4, (), rfl, hr1, by rw [ht, ← hr2]; exact hP, by rw [← hr2]; exact hD⟩, hS.F ht⟩) hS.2.2 dX4_headed_52
  have kJ_17 : ∀ (x1 x2 : Int32) (M : Ob) , ∀ (H : Heap) (locs : List Loc), va_P G.1 vwCl (wMod G am M) H → va_D A (wMod G am M) → va_S A s.heap H locs → ∀ (ls : Array Slot), lv_has ls 5 [(0, .ref (am 0)), (1, .int x1), (2, .int x2)] → p_X4_headed_17 x1 x2 M = some (r0, M0) → W p l e (headSpec wsX4_headed rmX4_headed).room s m ([.ref (am 0), .int u1, .int u2] : List Value).toArray below meth c H locs 0 0 (MQ below (QI G r0 (wMod G am M0) A) ([.ref (am 0), .int u1, .int u2] : List Value).toArray s 0 0 A) (F0 m 17 ls []) := by
    intro x1 x2 M H locs hP hD hS ls hl hrun
    rw [p_X4_headed_17] at hrun
    refine lv_aload_n hx hb dX4_headed_17 rfl (lv_at hl 0 rfl) ?_
    obtain ⟨N_10, e_9, hrun⟩ := bd hrun
    have hF := y_all hD hS hA
    refine y_rwv (va_runV (As := []) (rest := []) ⟨hx, hb, hml, hown, hts⟩ (c_X4_layPages l G am M  _ N_10 e_9) (cwV 0 hts gX4_headed_X4_layPages rfl rfl rfl (by decide +kernel) ⟨Nat.le_of_ble_eq_true rfl, Nat.le_of_ble_eq_true rfl⟩) ⟨PreW.blind, va_recv hK hP (ci := 4) (q0 := 0) rfl rfl, y_preW hC hP hD⟩ rfl rfl hl.1 rfl (lv_room (Nat.le_of_ble_eq_true rfl)) dX4_headed_18 ⟨Nat.zero_le _, Nat.zero_le _⟩) hS hF (fun H locs hP1 hD1 hk1 hS => ?_)
    replace hP : va_P G.1 vwCl (wMod G am N_10) H := hP1
    replace hD : va_D A (wMod G am N_10) := hD1.weaken (fun _ q _ h => hF q.1 h)
    clear hP1 hD1 hk1 hF
    refine lv_iconst (v := nI 0) hx hb dX4_headed_21 (by decide) ?_
    refine lv_istore_n (lv' := [(3, .int (nI 0)), (0, .ref (am 0)), (1, .int x1), (2, .int x2)]) hx hb dX4_headed_22 rfl hl (by decide) rfl (fun ls hl => ?_)
    refine lv_iconst (v := nI 1) hx hb dX4_headed_23 (by decide) ?_
    refine lv_istore (lv' := [(4, .int (nI 1)), (3, .int (nI 0)), (0, .ref (am 0)), (1, .int x1), (2, .int x2)]) hx hb dX4_headed_24 hl (by decide) rfl (fun ls hl => ?_)
    exact kH_26 200 x1 x2 (nI 0) (nI 1) N_10 _ _ hP hD hS ls (lv_sub hl [2, 3, 4, 1, 0] rfl) hrun
  have hl := lv_entry [.ref (am 0), .int u1, .int u2] (n := 5) (Nat.le_of_ble_eq_true rfl)
  rw [lg_entry_eq]
  generalize (lg_sl [.ref (am 0), .int u1, .int u2] ++ List.replicate (5 - (lg_sl [.ref (am 0), .int u1, .int u2]).length) Slot.unset).toArray = ls at hl ⊢
  have hl : lv_has ls 5 [(0, .ref (am 0)), (1, .int u1), (2, .int u2)] := hl
  rw [p_X4_headed] at hrun
  refine lv_iload_n hx hb dX4_headed_0 rfl (lv_at hl 1 rfl) ?_
  obtain ⟨v_1, e_2, hrun⟩ := bd hrun
  refine y_roz (va_runS (As := [.int u1]) (rest := []) ⟨hx, hb, hml, hown, hts⟩ (c_X4_isChapter l G   u1 v_1 e_2) (cwS 1 hts gX4_headed_X4_isChapter rfl rfl rfl (by decide +kernel) ⟨Nat.le_of_ble_eq_true rfl, Nat.le_of_ble_eq_true rfl⟩) ⟨PreR.blind, y_preR hC (fun _ _ h => by cases h)⟩ rfl rfl hl.1 rfl (lv_room (Nat.le_of_ble_eq_true rfl)) dX4_headed_1 ⟨Nat.zero_le _, Nat.zero_le _⟩) (fun z_3 => ?_)
  refine lv_if_ne (tgt := 17) hx hb dX4_headed_4 (by decide) (fun c_4 => ?_) (fun c_4 => ?_)
  · replace hrun := it_neg c_4 hrun
    exact kJ_17 u1 u2 M _ _ hP hD hS ls (lv_sub hl [0, 1, 2] rfl) hrun
  · replace hrun := it_pos c_4 hrun
    refine lv_iload_n hx hb dX4_headed_7 rfl (lv_at hl 1 rfl) ?_
    obtain ⟨v_5, e_6, hrun⟩ := bd hrun
    refine y_roz (va_runS (As := [.int u1]) (rest := []) ⟨hx, hb, hml, hown, hts⟩ (c_X4_isSection l G   u1 v_5 e_6) (cwS 1 hts gX4_headed_X4_isSection rfl rfl rfl (by decide +kernel) ⟨Nat.le_of_ble_eq_true rfl, Nat.le_of_ble_eq_true rfl⟩) ⟨PreR.blind, y_preR hC (fun _ _ h => by cases h)⟩ rfl rfl hl.1 rfl (lv_room (Nat.le_of_ble_eq_true rfl)) dX4_headed_8 ⟨Nat.zero_le _, Nat.zero_le _⟩) (fun z_7 => ?_)
    refine lv_if_ne (tgt := 17) hx hb dX4_headed_11 (by decide) (fun c_8 => ?_) (fun c_8 => ?_)
    · replace hrun := it_neg c_8 hrun
      exact kJ_17 u1 u2 M _ _ hP hD hS ls (lv_sub hl [0, 1, 2] rfl) hrun
    · replace hrun := it_pos c_8 hrun
      refine lv_bipush (v := -2) hx hb dX4_headed_14 (by decide) ?_
      obtain ⟨hr1, hr2⟩ := si2 hrun
      exact W.iret (v := (-2)) hx hb hr (fun t ht hW => ⟨⟨(-2), (), rfl, hr1, by rw [ht, ← hr2]; exact hP, by rw [← hr2]; exact hD⟩, hS.F ht⟩) hS.2.2 dX4_headed_16
def p_X4_chapter  (u1 : Int32) (u2 : Int32) (M : Ob) : Option (Int32 × Ob) := ((p_X4_in u2 (nI 0) (nI 4)).bind fun v_1 => (if v_1 = nI 0 then (some ((-2), M)) else ((p_X4_chapters M).bind fun v_5 => ((p_X4_in u1 (nI 0) (v_5 - (nI 1))).bind fun v_7 => (if v_7 = nI 0 then (some ((-6), M)) else ((p_X4_layPages M).bind fun N_12 => ((p_X4_titleLine N_12 u1).bind fun v_13 => (if u2 = nI 0 then ((ldI (N_12 0) 130 ((nI 0) + v_13)).bind fun v_16 => (some (v_16, N_12))) else (if u2 = nI 1 then ((ldI (N_12 5) 60 v_13).bind fun v_19 => (some (v_19, N_12))) else (if u2 = nI 2 then ((p_X4_linesOf N_12 u1 (nI 0)).bind fun v_22 => ((ldI (N_12 5) 60 ((v_13 + v_22) - (nI 1))).bind fun v_24 => (some (v_24, N_12)))) else (if u2 = nI 3 then ((p_X4_linesOf N_12 u1 (nI 0)).bind fun v_27 => (some (v_27, N_12))) else ((p_X4_linesOf N_12 u1 (nI 1)).bind fun v_29 => (some (v_29, N_12))))))))))))))
abbrev rmX4_chapter : Room := { frames := 4, cells := 0, slots := 0, locals := 89 }
set_option maxHeartbeats 4000000 in
set_option maxRecDepth 100000 in
theorem c_X4_chapter (l : Launch) (G : GT) (am : Nat → Nat) (M : Ob) (u1 u2 : Int32) (sz : Nat) (r0 : Int32) (M0 : Ob) (hrun : p_X4_chapter u1 u2 M = some (r0, M0)) : Met l yX4_chapter wsX4_chapter rmX4_chapter (PreW G [.ref (am 0), .int u1, .int u2] (wMod G am M) sz) (QI G r0 (wMod G am M0) (va_A (wMod G am M) sz)) 0 0 (va_A (wMod G am M) sz) := by
  refine Met.ofW (cc := cX4_chapter) (maxL := 4) (ret := (some .int)) (by decide) rfl ?_
  intro p e s m args below meth c s₁ Bd hml hv
  obtain ⟨rfl, hsz, hP, hC, hD0⟩ := hv
  have hx := Bd.exec
  have hb := Bd.bytes
  have hr := Bd.returns
  have hts := atoms_spec (ws := wsX4_chapter) Bd.pre
  have hown : s.vm.findClass RX4 = some m.cls := findClass_of_methodNamed Bd.named
  have hlocks := Bd.notSynchronized
  have hK := hC.1
  have iwX4 : ∀ w ∈ wsX40, w ∈ wsX4_chapter := by decide +kernel
  have ha0 := hts (.fieldLink RX4 7 "HeadMarksModel" "state" "[I") (by decide +kernel)
  have ha1 := hts (.fieldLink RX4 23 "HeadMarksModel" "pageOf" "[I") (by decide +kernel)
  subst hsz
  have hD := hD0.self (sz := s.heap.size)
  generalize hAe : va_A (wMod G am M) s.heap.size = A at hD ⊢
  have hA : ∀ q : Nat, s.heap.size ≤ q → A q := fun q h => by rw [← hAe]; exact Or.inr h
  have hS : va_S A s.heap s.heap [] := va_S.rf
  have hl := lv_entry [.ref (am 0), .int u1, .int u2] (n := 4) (Nat.le_of_ble_eq_true rfl)
  rw [lg_entry_eq]
  generalize (lg_sl [.ref (am 0), .int u1, .int u2] ++ List.replicate (4 - (lg_sl [.ref (am 0), .int u1, .int u2]).length) Slot.unset).toArray = ls at hl ⊢
  have hl : lv_has ls 4 [(0, .ref (am 0)), (1, .int u1), (2, .int u2)] := hl
  rw [p_X4_chapter] at hrun
  refine lv_iload_n hx hb dX4_chapter_0 rfl (lv_at hl 2 rfl) ?_
  refine lv_iconst (v := nI 0) hx hb dX4_chapter_1 (by decide) ?_
  refine lv_iconst (v := nI 4) hx hb dX4_chapter_2 (by decide) ?_
  obtain ⟨v_1, e_2, hrun⟩ := bd hrun
  refine y_roz (va_runS (As := [.int u2, .int (nI 0), .int (nI 4)]) (rest := []) ⟨hx, hb, hml, hown, hts⟩ (c_X4_in l G   u2 (nI 0) (nI 4) v_1 e_2) (cwS 3 hts gX4_chapter_X4_in rfl rfl rfl (by decide +kernel) ⟨Nat.le_of_ble_eq_true rfl, Nat.le_of_ble_eq_true rfl⟩) ⟨PreR.blind, y_preR hC (fun _ _ h => by cases h)⟩ rfl rfl hl.1 rfl (lv_room (Nat.le_of_ble_eq_true rfl)) dX4_chapter_3 ⟨Nat.zero_le _, Nat.zero_le _⟩) (fun z_3 => ?_)
  refine lv_if_ne (tgt := 12) hx hb dX4_chapter_6 (by decide) (fun c_4 => ?_) (fun c_4 => ?_)
  · replace hrun := it_neg c_4 hrun
    refine lv_iload_n hx hb dX4_chapter_12 rfl (lv_at hl 1 rfl) ?_
    refine lv_iconst (v := nI 0) hx hb dX4_chapter_13 (by decide) ?_
    refine lv_aload_n hx hb dX4_chapter_14 rfl (lv_at hl 0 rfl) ?_
    obtain ⟨v_5, e_6, hrun⟩ := bd hrun
    refine y_ro (va_runV (As := []) (rest := [.int (nI 0), .int u1]) ⟨hx, hb, hml, hown, hts⟩ (c_X4_chapters l G am M  v_5 e_6) (cwV 0 hts gX4_chapter_X4_chapters rfl rfl rfl (by decide +kernel) ⟨Nat.le_of_ble_eq_true rfl, Nat.le_of_ble_eq_true rfl⟩) ⟨PreR.blind, va_recv hK hP (ci := 4) (q0 := 0) rfl rfl, y_preR hC hP⟩ rfl rfl hl.1 rfl (lv_room (Nat.le_of_ble_eq_true rfl)) dX4_chapter_15 ⟨Nat.zero_le _, Nat.zero_le _⟩) ?_
    refine lv_iconst (v := nI 1) hx hb dX4_chapter_18 (by decide) ?_
    refine lv_isub hx hb dX4_chapter_19 ?_
    obtain ⟨v_7, e_8, hrun⟩ := bd hrun
    refine y_roz (va_runS (As := [.int u1, .int (nI 0), .int (v_5 - (nI 1))]) (rest := []) ⟨hx, hb, hml, hown, hts⟩ (c_X4_in l G   u1 (nI 0) (v_5 - (nI 1)) v_7 e_8) (cwS 3 hts gX4_chapter_X4_in rfl rfl rfl (by decide +kernel) ⟨Nat.le_of_ble_eq_true rfl, Nat.le_of_ble_eq_true rfl⟩) ⟨PreR.blind, y_preR hC (fun _ _ h => by cases h)⟩ rfl rfl hl.1 rfl (lv_room (Nat.le_of_ble_eq_true rfl)) dX4_chapter_20 ⟨Nat.zero_le _, Nat.zero_le _⟩) (fun z_9 => ?_)
    refine lv_if_ne (tgt := 29) hx hb dX4_chapter_23 (by decide) (fun c_10 => ?_) (fun c_10 => ?_)
    · replace hrun := it_neg c_10 hrun
      refine lv_aload_n hx hb dX4_chapter_29 rfl (lv_at hl 0 rfl) ?_
      obtain ⟨N_12, e_11, hrun⟩ := bd hrun
      have hF := y_all hD hS hA
      refine y_rwv (va_runV (As := []) (rest := []) ⟨hx, hb, hml, hown, hts⟩ (c_X4_layPages l G am M  _ N_12 e_11) (cwV 0 hts gX4_chapter_X4_layPages rfl rfl rfl (by decide +kernel) ⟨Nat.le_of_ble_eq_true rfl, Nat.le_of_ble_eq_true rfl⟩) ⟨PreW.blind, va_recv hK hP (ci := 4) (q0 := 0) rfl rfl, y_preW hC hP hD⟩ rfl rfl hl.1 rfl (lv_room (Nat.le_of_ble_eq_true rfl)) dX4_chapter_30 ⟨Nat.zero_le _, Nat.zero_le _⟩) hS hF (fun H locs hP1 hD1 hk1 hS => ?_)
      replace hP : va_P G.1 vwCl (wMod G am N_12) H := hP1
      replace hD : va_D A (wMod G am N_12) := hD1.weaken (fun _ q _ h => hF q.1 h)
      clear hP1 hD1 hk1 hF
      refine lv_aload_n hx hb dX4_chapter_33 rfl (lv_at hl 0 rfl) ?_
      refine lv_iload_n hx hb dX4_chapter_34 rfl (lv_at hl 1 rfl) ?_
      obtain ⟨v_13, e_14, hrun⟩ := bd hrun
      refine y_ro (va_runV (As := [.int u1]) (rest := []) ⟨hx, hb, hml, hown, hts⟩ (c_X4_titleLine l G am N_12 u1 v_13 e_14) (cwV 1 hts gX4_chapter_X4_titleLine rfl rfl rfl (by decide +kernel) ⟨Nat.le_of_ble_eq_true rfl, Nat.le_of_ble_eq_true rfl⟩) ⟨PreR.blind, va_recv hK hP (ci := 4) (q0 := 0) rfl rfl, y_preR hC hP⟩ rfl rfl hl.1 rfl (lv_room (Nat.le_of_ble_eq_true rfl)) dX4_chapter_35 ⟨Nat.zero_le _, Nat.zero_le _⟩) ?_
      refine lv_istore_n (lv' := [(3, .int v_13), (0, .ref (am 0)), (1, .int u1), (2, .int u2)]) hx hb dX4_chapter_38 rfl hl (by decide) rfl (fun ls hl => ?_)
      refine lv_iload_n hx hb dX4_chapter_39 rfl (lv_at hl 3 rfl) ?_
      by_cases c_15 : u2 = nI 0
      · replace hrun := it_pos c_15 hrun
        refine lv_tableIn (tgt := 72) hx hb dX4_chapter_40 (by rw [c_15]; decide) (by rw [c_15]; decide) (off := 32) (by rw [c_15]; rfl) (by decide) ?_
        refine lv_aload_n hx hb dX4_chapter_72 rfl (lv_at hl 1 rfl) ?_
        refine va_get (D := G.1) (ci := 4) (v := .ref (am 1)) (C := RX4) (T := TX4) (N := 12) hx hb hts iwX4 hown hK hP 0 rfl rfl 0 (by decide) ha0 (fun _ h9 => h9) rfl dX4_chapter_73 ?_
        refine lv_iconst (v := nI 0) hx hb dX4_chapter_76 (by decide) ?_
        refine lv_iload_n hx hb dX4_chapter_77 rfl (lv_at hl 0 rfl) ?_
        refine lv_iadd hx hb dX4_chapter_78 ?_
        obtain ⟨v_16, e_17, hrun⟩ := bd hrun
        refine y_ald hx hb hK hP 1 0 rfl rfl e_17 dX4_chapter_79 ?_
        obtain ⟨hr1, hr2⟩ := si2 hrun
        exact W.iret (v := v_16) hx hb hr (fun t ht hW => ⟨⟨v_16, (), rfl, hr1, by rw [ht, ← hr2]; exact hP, by rw [← hr2]; exact hD⟩, hS.F ht⟩) hS.2.2 dX4_chapter_80
      · replace hrun := it_neg c_15 hrun
        by_cases c_18 : u2 = nI 1
        · replace hrun := it_pos c_18 hrun
          refine lv_tableIn (tgt := 81) hx hb dX4_chapter_40 (by rw [c_18]; decide) (by rw [c_18]; decide) (off := 41) (by rw [c_18]; rfl) (by decide) ?_
          refine lv_aload_n hx hb dX4_chapter_81 rfl (lv_at hl 1 rfl) ?_
          refine va_get (D := G.1) (ci := 4) (v := .ref (am 5)) (C := RX4) (T := TX4) (N := 12) hx hb hts iwX4 hown hK hP 0 rfl rfl 5 (by decide) ha1 (fun _ h9 => h9) rfl dX4_chapter_82 ?_
          refine lv_iload_n hx hb dX4_chapter_85 rfl (lv_at hl 0 rfl) ?_
          obtain ⟨v_19, e_20, hrun⟩ := bd hrun
          refine y_ald hx hb hK hP 5 0 rfl rfl e_20 dX4_chapter_86 ?_
          obtain ⟨hr1, hr2⟩ := si2 hrun
          exact W.iret (v := v_19) hx hb hr (fun t ht hW => ⟨⟨v_19, (), rfl, hr1, by rw [ht, ← hr2]; exact hP, by rw [← hr2]; exact hD⟩, hS.F ht⟩) hS.2.2 dX4_chapter_87
        · replace hrun := it_neg c_18 hrun
          by_cases c_21 : u2 = nI 2
          · replace hrun := it_pos c_21 hrun
            refine lv_tableIn (tgt := 88) hx hb dX4_chapter_40 (by rw [c_21]; decide) (by rw [c_21]; decide) (off := 48) (by rw [c_21]; rfl) (by decide) ?_
            refine lv_aload_n hx hb dX4_chapter_88 rfl (lv_at hl 1 rfl) ?_
            refine va_get (D := G.1) (ci := 4) (v := .ref (am 5)) (C := RX4) (T := TX4) (N := 12) hx hb hts iwX4 hown hK hP 0 rfl rfl 5 (by decide) ha1 (fun _ h9 => h9) rfl dX4_chapter_89 ?_
            refine lv_iload_n hx hb dX4_chapter_92 rfl (lv_at hl 0 rfl) ?_
            refine lv_aload_n hx hb dX4_chapter_93 rfl (lv_at hl 1 rfl) ?_
            refine lv_iload_n hx hb dX4_chapter_94 rfl (lv_at hl 2 rfl) ?_
            refine lv_iconst (v := nI 0) hx hb dX4_chapter_95 (by decide) ?_
            obtain ⟨v_22, e_23, hrun⟩ := bd hrun
            refine y_ro (va_runV (As := [.int u1, .int (nI 0)]) (rest := [.int v_13, .ref (am 5)]) ⟨hx, hb, hml, hown, hts⟩ (c_X4_linesOf l G am N_12 u1 (nI 0) v_22 e_23) (cwV 2 hts gX4_chapter_X4_linesOf rfl rfl rfl (by decide +kernel) ⟨Nat.le_of_ble_eq_true rfl, Nat.le_of_ble_eq_true rfl⟩) ⟨PreR.blind, va_recv hK hP (ci := 4) (q0 := 0) rfl rfl, y_preR hC hP⟩ rfl rfl hl.1 rfl (lv_room (Nat.le_of_ble_eq_true rfl)) dX4_chapter_96 ⟨Nat.zero_le _, Nat.zero_le _⟩) ?_
            refine lv_iadd hx hb dX4_chapter_99 ?_
            refine lv_iconst (v := nI 1) hx hb dX4_chapter_100 (by decide) ?_
            refine lv_isub hx hb dX4_chapter_101 ?_
            obtain ⟨v_24, e_25, hrun⟩ := bd hrun
            refine y_ald hx hb hK hP 5 0 rfl rfl e_25 dX4_chapter_102 ?_
            obtain ⟨hr1, hr2⟩ := si2 hrun
            exact W.iret (v := v_24) hx hb hr (fun t ht hW => ⟨⟨v_24, (), rfl, hr1, by rw [ht, ← hr2]; exact hP, by rw [← hr2]; exact hD⟩, hS.F ht⟩) hS.2.2 dX4_chapter_103
          · replace hrun := it_neg c_21 hrun
            by_cases c_26 : u2 = nI 3
            · replace hrun := it_pos c_26 hrun
              refine lv_tableIn (tgt := 104) hx hb dX4_chapter_40 (by rw [c_26]; decide) (by rw [c_26]; decide) (off := 64) (by rw [c_26]; rfl) (by decide) ?_
              refine lv_aload_n hx hb dX4_chapter_104 rfl (lv_at hl 1 rfl) ?_
              refine lv_iload_n hx hb dX4_chapter_105 rfl (lv_at hl 2 rfl) ?_
              refine lv_iconst (v := nI 0) hx hb dX4_chapter_106 (by decide) ?_
              obtain ⟨v_27, e_28, hrun⟩ := bd hrun
              refine y_ro (va_runV (As := [.int u1, .int (nI 0)]) (rest := []) ⟨hx, hb, hml, hown, hts⟩ (c_X4_linesOf l G am N_12 u1 (nI 0) v_27 e_28) (cwV 2 hts gX4_chapter_X4_linesOf rfl rfl rfl (by decide +kernel) ⟨Nat.le_of_ble_eq_true rfl, Nat.le_of_ble_eq_true rfl⟩) ⟨PreR.blind, va_recv hK hP (ci := 4) (q0 := 0) rfl rfl, y_preR hC hP⟩ rfl rfl hl.1 rfl (lv_room (Nat.le_of_ble_eq_true rfl)) dX4_chapter_107 ⟨Nat.zero_le _, Nat.zero_le _⟩) ?_
              obtain ⟨hr1, hr2⟩ := si2 hrun
              exact W.iret (v := v_27) hx hb hr (fun t ht hW => ⟨⟨v_27, (), rfl, hr1, by rw [ht, ← hr2]; exact hP, by rw [← hr2]; exact hD⟩, hS.F ht⟩) hS.2.2 dX4_chapter_110
            · replace hrun := it_neg c_26 hrun
              refine lv_tableOut (tgt := 111) hx hb dX4_chapter_40 (tb_out (n := 4) (by decide) (fun k hk => by rcases (show k = 0 ∨ k = 1 ∨ k = 2 ∨ k = 3 by omega) with rfl | rfl | rfl | rfl <;> first | exact c_15 | exact c_18 | exact c_21 | exact c_26) (by decide)) (by decide) ?_
              refine lv_aload_n hx hb dX4_chapter_111 rfl (lv_at hl 1 rfl) ?_
              refine lv_iload_n hx hb dX4_chapter_112 rfl (lv_at hl 2 rfl) ?_
              refine lv_iconst (v := nI 1) hx hb dX4_chapter_113 (by decide) ?_
              obtain ⟨v_29, e_30, hrun⟩ := bd hrun
              refine y_ro (va_runV (As := [.int u1, .int (nI 1)]) (rest := []) ⟨hx, hb, hml, hown, hts⟩ (c_X4_linesOf l G am N_12 u1 (nI 1) v_29 e_30) (cwV 2 hts gX4_chapter_X4_linesOf rfl rfl rfl (by decide +kernel) ⟨Nat.le_of_ble_eq_true rfl, Nat.le_of_ble_eq_true rfl⟩) ⟨PreR.blind, va_recv hK hP (ci := 4) (q0 := 0) rfl rfl, y_preR hC hP⟩ rfl rfl hl.1 rfl (lv_room (Nat.le_of_ble_eq_true rfl)) dX4_chapter_114 ⟨Nat.zero_le _, Nat.zero_le _⟩) ?_
              obtain ⟨hr1, hr2⟩ := si2 hrun
              exact W.iret (v := v_29) hx hb hr (fun t ht hW => ⟨⟨v_29, (), rfl, hr1, by rw [ht, ← hr2]; exact hP, by rw [← hr2]; exact hD⟩, hS.F ht⟩) hS.2.2 dX4_chapter_117
    · replace hrun := it_pos c_10 hrun
      refine lv_bipush (v := -6) hx hb dX4_chapter_26 (by decide) ?_
      obtain ⟨hr1, hr2⟩ := si2 hrun
      exact W.iret (v := (-6)) hx hb hr (fun t ht hW => ⟨⟨(-6), (), rfl, hr1, by rw [ht, ← hr2]; exact hP, by rw [← hr2]; exact hD⟩, hS.F ht⟩) hS.2.2 dX4_chapter_28
  · replace hrun := it_pos c_4 hrun
    refine lv_bipush (v := -2) hx hb dX4_chapter_9 (by decide) ?_
    obtain ⟨hr1, hr2⟩ := si2 hrun
    exact W.iret (v := (-2)) hx hb hr (fun t ht hW => ⟨⟨(-2), (), rfl, hr1, by rw [ht, ← hr2]; exact hP, by rw [← hr2]; exact hD⟩, hS.F ht⟩) hS.2.2 dX4_chapter_11
