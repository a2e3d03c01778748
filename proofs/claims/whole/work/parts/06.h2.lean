def p_X3_chapter (S : (Nat → Ob)) (u1 : Int32) (u2 : Int32)  : Option (Int32) := (if u2 < nI 0 then (some (-2)) else (if u2 ≤ (nI 4) then (if u1 < nI 0 then (some (-6)) else ((p_X1_countChapters (S 5)).bind fun v_4 => (if u1 < v_4 then ((p_X1_titleLineOf (S 5) u1).bind fun v_7 => ((p_X1_lastLineOf (S 5) u1).bind fun v_9 => (if u2 = nI 0 then ((ldI ((S 2) 0) 60 v_7).bind fun v_12 => (some v_12)) else (if u2 = nI 1 then ((ldI ((S 5) 0) 60 v_7).bind fun v_15 => (some v_15)) else (if u2 = nI 2 then ((ldI ((S 5) 0) 60 v_9).bind fun v_18 => (some v_18)) else (if u2 = nI 3 then (some ((v_9 - v_7) + (nI 1))) else ((p_X0_countSections (S 2) v_7 v_9).bind fun v_21 => (some v_21)))))))) else (some (-6))))) else (some (-2))))
abbrev rmX3_chapter : Room := { frames := 2, cells := 0, slots := 0, locals := 44 }
set_option maxHeartbeats 4000000 in
set_option maxRecDepth 100000 in
theorem c_X3_chapter (l : Launch) (G : GT) (a : Nat → Nat → Nat) (S : Nat → Ob) (u1 u2 : Int32) (r0 : Int32) (hrun : p_X3_chapter S u1 u2 = some r0) : Met l yX3_chapter wsX3_chapter rmX3_chapter (PreR G [.ref (a 0 0), .int u1, .int u2] (wHM G a S)) (Ri r0) 0 0 (fun _ => False) := by
  refine Met.ofW (cc := cX3_chapter) (maxL := 5) (ret := (some .int)) (by decide) rfl ?_
  intro p e s m args below meth c s₁ Bd hml hv
  obtain ⟨rfl, hP, hC⟩ := hv
  have hx := Bd.exec
  have hb := Bd.bytes
  have hr := Bd.returns
  have hts := atoms_spec (ws := wsX3_chapter) Bd.pre
  have hown : s.vm.findClass RX3 = some m.cls := findClass_of_methodNamed Bd.named
  have hlocks := Bd.notSynchronized
  have hK := hC.1
  have iwX0 : ∀ w ∈ wsX00, w ∈ wsX3_chapter := by decide +kernel
  have iwX1 : ∀ w ∈ wsX10, w ∈ wsX3_chapter := by decide +kernel
  have iwX3 : ∀ w ∈ wsX30, w ∈ wsX3_chapter := by decide +kernel
  have ha0 := hts (.fieldLink RX3 34 "HeadMarks" "now" "LHeadMarks$Layout;") (by decide +kernel)
  have ha1 := hts (.fieldLink RX3 19 "HeadMarks" "book" "LHeadMarks$Book;") (by decide +kernel)
  have ha2 := hts (.fieldLink RX3 80 "HeadMarks$Book" "signs" "[I") (by decide +kernel)
  have ha3 := hts (.fieldLink RX3 87 "HeadMarks$Layout" "pageOf" "[I") (by decide +kernel)
  have hl := lv_entry [.ref (a 0 0), .int u1, .int u2] (n := 5) (Nat.le_of_ble_eq_true rfl)
  rw [lg_entry_eq]
  generalize (lg_sl [.ref (a 0 0), .int u1, .int u2] ++ List.replicate (5 - (lg_sl [.ref (a 0 0), .int u1, .int u2]).length) Slot.unset).toArray = ls at hl ⊢
  have hl : lv_has ls 5 [(0, .ref (a 0 0)), (1, .int u1), (2, .int u2)] := hl
  rw [p_X3_chapter] at hrun
  refine lv_iload_n hx hb dX3_chapter_0 rfl (lv_at hl 2 rfl) ?_
  refine lv_if_lt (tgt := 9) hx hb dX3_chapter_1 (by decide) (fun c_1 => ?_) (fun c_1 => ?_)
  · replace hrun := it_pos c_1 hrun
    refine lv_bipush (v := -2) hx hb dX3_chapter_9 (by decide) ?_
    exact W.iret (v := (-2)) hx hb hr (fun t ht hW => ⟨(-2), rfl, si hrun, ht⟩) (fun _ h => absurd h List.not_mem_nil) dX3_chapter_11
  · replace hrun := it_neg c_1 hrun
    refine lv_iload_n hx hb dX3_chapter_4 rfl (lv_at hl 2 rfl) ?_
    refine lv_iconst (v := nI 4) hx hb dX3_chapter_5 (by decide) ?_
    refine lv_icmp_le (tgt := 12) hx hb dX3_chapter_6 (by decide) (fun c_2 => ?_) (fun c_2 => ?_)
    · replace hrun := it_pos c_2 hrun
      refine lv_iload_n hx hb dX3_chapter_12 rfl (lv_at hl 1 rfl) ?_
      refine lv_if_lt (tgt := 27) hx hb dX3_chapter_13 (by decide) (fun c_3 => ?_) (fun c_3 => ?_)
      · replace hrun := it_pos c_3 hrun
        refine lv_bipush (v := -6) hx hb dX3_chapter_27 (by decide) ?_
        exact W.iret (v := (-6)) hx hb hr (fun t ht hW => ⟨(-6), rfl, si hrun, ht⟩) (fun _ h => absurd h List.not_mem_nil) dX3_chapter_29
      · replace hrun := it_neg c_3 hrun
        refine lv_iload_n hx hb dX3_chapter_16 rfl (lv_at hl 1 rfl) ?_
        refine lv_aload_n hx hb dX3_chapter_17 rfl (lv_at hl 0 rfl) ?_
        refine va_get (D := G.1) (ci := 3) (v := .ref ((a 5) 0)) (C := RX3) (T := TX3) (N := 6) hx hb hts iwX3 hown hK hP 0 rfl rfl 4 (by decide) ha0 (fun _ h9 => h9) rfl dX3_chapter_18 ?_
        obtain ⟨v_4, e_5, hrun⟩ := bd hrun
        refine y_ro (va_runV (As := []) (rest := [.int u1]) ⟨hx, hb, hml, hown, hts⟩ (c_X1_countChapters l G (a 5) (S 5)  v_4 e_5) (cwV 0 hts gX3_chapter_X1_countChapters rfl rfl rfl (by decide +kernel) ⟨Nat.le_of_ble_eq_true rfl, Nat.le_of_ble_eq_true rfl⟩) ⟨PreR.blind, va_recv hK hP (ci := 1) (q0 := 16) rfl rfl, y_preR hC (hP.sub (ws' := wLay G (a 5) (S 5)) [16, 17, 18, 19, 20, 21, 22, 23, 24, 25, 26, 27] rfl)⟩ rfl rfl hl.1 rfl (lv_room (Nat.le_of_ble_eq_true rfl)) dX3_chapter_21 ⟨Nat.zero_le _, Nat.zero_le _⟩) ?_
        refine lv_icmp_lt (tgt := 30) hx hb dX3_chapter_24 (by decide) (fun c_6 => ?_) (fun c_6 => ?_)
        · replace hrun := it_pos c_6 hrun
          refine lv_aload_n hx hb dX3_chapter_30 rfl (lv_at hl 0 rfl) ?_
          refine va_get (D := G.1) (ci := 3) (v := .ref ((a 5) 0)) (C := RX3) (T := TX3) (N := 6) hx hb hts iwX3 hown hK hP 0 rfl rfl 4 (by decide) ha0 (fun _ h9 => h9) rfl dX3_chapter_31 ?_
          refine lv_iload_n hx hb dX3_chapter_34 rfl (lv_at hl 1 rfl) ?_
          obtain ⟨v_7, e_8, hrun⟩ := bd hrun
          refine y_ro (va_runV (As := [.int u1]) (rest := []) ⟨hx, hb, hml, hown, hts⟩ (c_X1_titleLineOf l G (a 5) (S 5) u1 v_7 e_8) (cwV 1 hts gX3_chapter_X1_titleLineOf rfl rfl rfl (by decide +kernel) ⟨Nat.le_of_ble_eq_true rfl, Nat.le_of_ble_eq_true rfl⟩) ⟨PreR.blind, va_recv hK hP (ci := 1) (q0 := 16) rfl rfl, y_preR hC (hP.sub (ws' := wLay G (a 5) (S 5)) [16, 17, 18, 19, 20, 21, 22, 23, 24, 25, 26, 27] rfl)⟩ rfl rfl hl.1 rfl (lv_room (Nat.le_of_ble_eq_true rfl)) dX3_chapter_35 ⟨Nat.zero_le _, Nat.zero_le _⟩) ?_
          refine lv_istore_n (lv' := [(3, .int v_7), (0, .ref (a 0 0)), (1, .int u1), (2, .int u2)]) hx hb dX3_chapter_38 rfl hl (by decide) rfl (fun ls hl => ?_)
          refine lv_aload_n hx hb dX3_chapter_39 rfl (lv_at hl 1 rfl) ?_
          refine va_get (D := G.1) (ci := 3) (v := .ref ((a 5) 0)) (C := RX3) (T := TX3) (N := 6) hx hb hts iwX3 hown hK hP 0 rfl rfl 4 (by decide) ha0 (fun _ h9 => h9) rfl dX3_chapter_40 ?_
          refine lv_iload_n hx hb dX3_chapter_43 rfl (lv_at hl 2 rfl) ?_
          obtain ⟨v_9, e_10, hrun⟩ := bd hrun
          refine y_ro (va_runV (As := [.int u1]) (rest := []) ⟨hx, hb, hml, hown, hts⟩ (c_X1_lastLineOf l G (a 5) (S 5) u1 v_9 e_10) (cwV 1 hts gX3_chapter_X1_lastLineOf rfl rfl rfl (by decide +kernel) ⟨Nat.le_of_ble_eq_true rfl, Nat.le_of_ble_eq_true rfl⟩) ⟨PreR.blind, va_recv hK hP (ci := 1) (q0 := 16) rfl rfl, y_preR hC (hP.sub (ws' := wLay G (a 5) (S 5)) [16, 17, 18, 19, 20, 21, 22, 23, 24, 25, 26, 27] rfl)⟩ rfl rfl hl.1 rfl (lv_room (Nat.le_of_ble_eq_true rfl)) dX3_chapter_44 ⟨Nat.zero_le _, Nat.zero_le _⟩) ?_
          refine lv_istore (lv' := [(4, .int v_9), (3, .int v_7), (0, .ref (a 0 0)), (1, .int u1), (2, .int u2)]) hx hb dX3_chapter_47 hl (by decide) rfl (fun ls hl => ?_)
          refine lv_iload_n hx hb dX3_chapter_49 rfl (lv_at hl 4 rfl) ?_
          by_cases c_11 : u2 = nI 0
          · replace hrun := it_pos c_11 hrun
            refine lv_tableIn (tgt := 80) hx hb dX3_chapter_50 (by rw [c_11]; decide) (by rw [c_11]; decide) (off := 30) (by rw [c_11]; rfl) (by decide) ?_
            refine lv_aload_n hx hb dX3_chapter_80 rfl (lv_at hl 2 rfl) ?_
            refine va_get (D := G.1) (ci := 3) (v := .ref ((a 2) 0)) (C := RX3) (T := TX3) (N := 6) hx hb hts iwX3 hown hK hP 0 rfl rfl 1 (by decide) ha1 (fun _ h9 => h9) rfl dX3_chapter_81 ?_
            refine va_get (D := G.1) (ci := 0) (v := .ref ((a 2) 1)) (C := RX0) (T := TX0) (N := 4) hx hb hts iwX0 hown hK hP 4 rfl rfl 0 (by decide) ha2 (fun _ h9 => h9) rfl dX3_chapter_84 ?_
            refine lv_iload_n hx hb dX3_chapter_87 rfl (lv_at hl 1 rfl) ?_
            obtain ⟨v_12, e_13, hrun⟩ := bd hrun
            refine y_ald hx hb hK hP 5 0 rfl rfl e_13 dX3_chapter_88 ?_
            exact W.iret (v := v_12) hx hb hr (fun t ht hW => ⟨v_12, rfl, si hrun, ht⟩) (fun _ h => absurd h List.not_mem_nil) dX3_chapter_89
          · replace hrun := it_neg c_11 hrun
            by_cases c_14 : u2 = nI 1
            · replace hrun := it_pos c_14 hrun
              refine lv_tableIn (tgt := 90) hx hb dX3_chapter_50 (by rw [c_14]; decide) (by rw [c_14]; decide) (off := 40) (by rw [c_14]; rfl) (by decide) ?_
              refine lv_aload_n hx hb dX3_chapter_90 rfl (lv_at hl 2 rfl) ?_
              refine va_get (D := G.1) (ci := 3) (v := .ref ((a 5) 0)) (C := RX3) (T := TX3) (N := 6) hx hb hts iwX3 hown hK hP 0 rfl rfl 4 (by decide) ha0 (fun _ h9 => h9) rfl dX3_chapter_91 ?_
              refine va_get (D := G.1) (ci := 1) (v := .ref ((a 5) 1)) (C := RX1) (T := TX1) (N := 9) hx hb hts iwX1 hown hK hP 16 rfl rfl 0 (by decide) ha3 (fun _ h9 => h9) rfl dX3_chapter_94 ?_
              refine lv_iload_n hx hb dX3_chapter_97 rfl (lv_at hl 1 rfl) ?_
              obtain ⟨v_15, e_16, hrun⟩ := bd hrun
              refine y_ald hx hb hK hP 17 0 rfl rfl e_16 dX3_chapter_98 ?_
              exact W.iret (v := v_15) hx hb hr (fun t ht hW => ⟨v_15, rfl, si hrun, ht⟩) (fun _ h => absurd h List.not_mem_nil) dX3_chapter_99
            · replace hrun := it_neg c_14 hrun
              by_cases c_17 : u2 = nI 2
              · replace hrun := it_pos c_17 hrun
                refine lv_tableIn (tgt := 100) hx hb dX3_chapter_50 (by rw [c_17]; decide) (by rw [c_17]; decide) (off := 50) (by rw [c_17]; rfl) (by decide) ?_
                refine lv_aload_n hx hb dX3_chapter_100 rfl (lv_at hl 2 rfl) ?_
                refine va_get (D := G.1) (ci := 3) (v := .ref ((a 5) 0)) (C := RX3) (T := TX3) (N := 6) hx hb hts iwX3 hown hK hP 0 rfl rfl 4 (by decide) ha0 (fun _ h9 => h9) rfl dX3_chapter_101 ?_
                refine va_get (D := G.1) (ci := 1) (v := .ref ((a 5) 1)) (C := RX1) (T := TX1) (N := 9) hx hb hts iwX1 hown hK hP 16 rfl rfl 0 (by decide) ha3 (fun _ h9 => h9) rfl dX3_chapter_104 ?_
                refine lv_iload hx hb dX3_chapter_107 (lv_at hl 0 rfl) ?_
                obtain ⟨v_18, e_19, hrun⟩ := bd hrun
                refine y_ald hx hb hK hP 17 0 rfl rfl e_19 dX3_chapter_109 ?_
                exact W.iret (v := v_18) hx hb hr (fun t ht hW => ⟨v_18, rfl, si hrun, ht⟩) (fun _ h => absurd h List.not_mem_nil) dX3_chapter_110
              · replace hrun := it_neg c_17 hrun
                by_cases c_20 : u2 = nI 3
                · replace hrun := it_pos c_20 hrun
                  refine lv_tableIn (tgt := 111) hx hb dX3_chapter_50 (by rw [c_20]; decide) (by rw [c_20]; decide) (off := 61) (by rw [c_20]; rfl) (by decide) ?_
                  refine lv_iload hx hb dX3_chapter_111 (lv_at hl 0 rfl) ?_
                  refine lv_iload_n hx hb dX3_chapter_113 rfl (lv_at hl 1 rfl) ?_
                  refine lv_isub hx hb dX3_chapter_114 ?_
                  refine lv_iconst (v := nI 1) hx hb dX3_chapter_115 (by decide) ?_
                  refine lv_iadd hx hb dX3_chapter_116 ?_
                  exact W.iret (v := ((v_9 - v_7) + (nI 1))) hx hb hr (fun t ht hW => ⟨((v_9 - v_7) + (nI 1)), rfl, si hrun, ht⟩) (fun _ h => absurd h List.not_mem_nil) dX3_chapter_117
                · replace hrun := it_neg c_20 hrun
                  refine lv_tableOut (tgt := 118) hx hb dX3_chapter_50 (tb_out (n := 4) (by decide) (fun k hk => by rcases (show k = 0 ∨ k = 1 ∨ k = 2 ∨ k = 3 by omega) with rfl | rfl | rfl | rfl <;> first | exact c_11 | exact c_14 | exact c_17 | exact c_20) (by decide)) (by decide) ?_
                  refine lv_aload_n hx hb dX3_chapter_118 rfl (lv_at hl 2 rfl) ?_
                  refine va_get (D := G.1) (ci := 3) (v := .ref ((a 2) 0)) (C := RX3) (T := TX3) (N := 6) hx hb hts iwX3 hown hK hP 0 rfl rfl 1 (by decide) ha1 (fun _ h9 => h9) rfl dX3_chapter_119 ?_
                  refine lv_iload_n hx hb dX3_chapter_122 rfl (lv_at hl 1 rfl) ?_
                  refine lv_iload hx hb dX3_chapter_123 (lv_at hl 0 rfl) ?_
                  obtain ⟨v_21, e_22, hrun⟩ := bd hrun
                  refine y_ro (va_runV (As := [.int v_7, .int v_9]) (rest := []) ⟨hx, hb, hml, hown, hts⟩ (c_X0_countSections l G (a 2) (S 2) v_7 v_9 v_21 e_22) (cwV 2 hts gX3_chapter_X0_countSections rfl rfl rfl (by decide +kernel) ⟨Nat.le_of_ble_eq_true rfl, Nat.le_of_ble_eq_true rfl⟩) ⟨PreR.blind, va_recv hK hP (ci := 0) (q0 := 4) rfl rfl, y_preR hC (hP.sub (ws' := wBook G (a 2) (S 2)) [4, 5, 6, 7] rfl)⟩ rfl rfl hl.1 rfl (lv_room (Nat.le_of_ble_eq_true rfl)) dX3_chapter_125 ⟨Nat.zero_le _, Nat.zero_le _⟩) ?_
                  exact W.iret (v := v_21) hx hb hr (fun t ht hW => ⟨v_21, rfl, si hrun, ht⟩) (fun _ h => absurd h List.not_mem_nil) dX3_chapter_128
        · replace hrun := it_neg c_6 hrun
          refine lv_bipush (v := -6) hx hb dX3_chapter_27 (by decide) ?_
          exact W.iret (v := (-6)) hx hb hr (fun t ht hW => ⟨(-6), rfl, si hrun, ht⟩) (fun _ h => absurd h List.not_mem_nil) dX3_chapter_29
    · replace hrun := it_neg c_2 hrun
      refine lv_bipush (v := -2) hx hb dX3_chapter_9 (by decide) ?_
      exact W.iret (v := (-2)) hx hb hr (fun t ht hW => ⟨(-2), rfl, si hrun, ht⟩) (fun _ h => absurd h List.not_mem_nil) dX3_chapter_11
def p_X3_count_25 (S : (Nat → Ob)) (x1 : Int32)  : Option (Int32) := (if x1 = nI 0 then (some ((S 2) 3 0)) else (if x1 = nI 1 then (some ((S 5) 10 0)) else (if x1 = nI 2 then ((p_X1_countBlank (S 5)).bind fun v_8 => (some v_8)) else (if x1 = nI 3 then ((p_X0_countBreaks (S 2)).bind fun v_11 => (some v_11)) else (if x1 = nI 4 then ((p_X1_countChapters (S 5)).bind fun v_14 => (some v_14)) else (if x1 = nI 5 then ((p_X1_countShared (S 5)).bind fun v_17 => (some v_17)) else (if x1 = nI 6 then ((p_X1_countHeads (S 5)).bind fun v_20 => (some v_20)) else (if x1 = nI 7 then (some ((S 1) 1 0)) else (if x1 = nI 8 then (some (S 0 0 0)) else (some (-2)))))))))))
def p_X3_count (S : (Nat → Ob)) (u1 : Int32)  : Option (Int32) := (if u1 < (nI 10) then p_X3_count_25 S u1 else (if (nI 19) ≤ u1 then p_X3_count_25 S u1 else ((ldI ((S 2) 2) 9 (u1 - (nI 10))).bind fun v_3 => (some v_3))))
abbrev rmX3_count : Room := { frames := 3, cells := 0, slots := 0, locals := 75 }
set_option maxHeartbeats 4000000 in
set_option maxRecDepth 100000 in
theorem c_X3_count (l : Launch) (G : GT) (a : Nat → Nat → Nat) (S : Nat → Ob) (u1 : Int32) (r0 : Int32) (hrun : p_X3_count S u1 = some r0) : Met l yX3_count wsX3_count rmX3_count (PreR G [.ref (a 0 0), .int u1] (wHM G a S)) (Ri r0) 0 0 (fun _ => False) := by
  refine Met.ofW (cc := cX3_count) (maxL := 2) (ret := (some .int)) (by decide) rfl ?_
  intro p e s m args below meth c s₁ Bd hml hv
  obtain ⟨rfl, hP, hC⟩ := hv
  have hx := Bd.exec
  have hb := Bd.bytes
  have hr := Bd.returns
  have hts := atoms_spec (ws := wsX3_count) Bd.pre
  have hown : s.vm.findClass RX3 = some m.cls := findClass_of_methodNamed Bd.named
  have hlocks := Bd.notSynchronized
  have hK := hC.1
  have iwX0 : ∀ w ∈ wsX00, w ∈ wsX3_count := by decide +kernel
  have iwX1 : ∀ w ∈ wsX10, w ∈ wsX3_count := by decide +kernel
  have iwX2 : ∀ w ∈ wsX20, w ∈ wsX3_count := by decide +kernel
  have iwX3 : ∀ w ∈ wsX30, w ∈ wsX3_count := by decide +kernel
  have ha0 := hts (.fieldLink RX3 19 "HeadMarks" "book" "LHeadMarks$Book;") (by decide +kernel)
  have ha1 := hts (.fieldLink RX3 66 "HeadMarks$Book" "rules" "[I") (by decide +kernel)
  have ha2 := hts (.fieldLink RX3 59 "HeadMarks$Book" "lines" "I") (by decide +kernel)
  have ha3 := hts (.fieldLink RX3 34 "HeadMarks" "now" "LHeadMarks$Layout;") (by decide +kernel)
  have ha4 := hts (.fieldLink RX3 113 "HeadMarks$Layout" "pages" "I") (by decide +kernel)
  have ha5 := hts (.fieldLink RX3 12 "HeadMarks" "pad" "LHeadMarks$Pad;") (by decide +kernel)
  have ha6 := hts (.fieldLink RX3 41 "HeadMarks$Pad" "size" "I") (by decide +kernel)
  have ha7 := hts (.fieldLink RX3 27 "HeadMarks" "imagesKept" "I") (by decide +kernel)
  have kJ_25 : ∀ (x1 : Int32) , ∀ (ls : Array Slot), lv_has ls 2 [(0, .ref (a 0 0)), (1, .int x1)] → p_X3_count_25 S x1 = some r0 → W p l e (headSpec wsX3_count rmX3_count).room s m ([.ref (a 0 0), .int u1] : List Value).toArray below meth c s.heap [] 0 0 (MQ below (Ri r0) ([.ref (a 0 0), .int u1] : List Value).toArray s 0 0 (fun _ => False)) (F0 m 25 ls []) := by
    intro x1 ls hl hrun
    rw [p_X3_count_25] at hrun
    refine lv_iload_n hx hb dX3_count_25 rfl (lv_at hl 1 rfl) ?_
    by_cases c_5 : x1 = nI 0
    · replace hrun := it_pos c_5 hrun
      refine lv_tableIn (tgt := 76) hx hb dX3_count_26 (by rw [c_5]; decide) (by rw [c_5]; decide) (off := 50) (by rw [c_5]; rfl) (by decide) ?_
      refine lv_aload_n hx hb dX3_count_76 rfl (lv_at hl 0 rfl) ?_
      refine va_get (D := G.1) (ci := 3) (v := .ref ((a 2) 0)) (C := RX3) (T := TX3) (N := 6) hx hb hts iwX3 hown hK hP 0 rfl rfl 1 (by decide) ha0 (fun _ h9 => h9) rfl dX3_count_77 ?_
      refine va_get (D := G.1) (ci := 0) (v := .int ((S 2) 3 0)) (C := RX0) (T := TX0) (N := 4) hx hb hts iwX0 hown hK hP 4 rfl rfl 3 (by decide) ha2 (fun _ h9 => h9) rfl dX3_count_80 ?_
      exact W.iret (v := ((S 2) 3 0)) hx hb hr (fun t ht hW => ⟨((S 2) 3 0), rfl, si hrun, ht⟩) (fun _ h => absurd h List.not_mem_nil) dX3_count_83
    · replace hrun := it_neg c_5 hrun
      by_cases c_6 : x1 = nI 1
      · replace hrun := it_pos c_6 hrun
        refine lv_tableIn (tgt := 84) hx hb dX3_count_26 (by rw [c_6]; decide) (by rw [c_6]; decide) (off := 58) (by rw [c_6]; rfl) (by decide) ?_
        refine lv_aload_n hx hb dX3_count_84 rfl (lv_at hl 0 rfl) ?_
        refine va_get (D := G.1) (ci := 3) (v := .ref ((a 5) 0)) (C := RX3) (T := TX3) (N := 6) hx hb hts iwX3 hown hK hP 0 rfl rfl 4 (by decide) ha3 (fun _ h9 => h9) rfl dX3_count_85 ?_
        refine va_get (D := G.1) (ci := 1) (v := .int ((S 5) 10 0)) (C := RX1) (T := TX1) (N := 9) hx hb hts iwX1 hown hK hP 16 rfl rfl 8 (by decide) ha4 (fun _ h9 => h9) rfl dX3_count_88 ?_
        exact W.iret (v := ((S 5) 10 0)) hx hb hr (fun t ht hW => ⟨((S 5) 10 0), rfl, si hrun, ht⟩) (fun _ h => absurd h List.not_mem_nil) dX3_count_91
      · replace hrun := it_neg c_6 hrun
        by_cases c_7 : x1 = nI 2
        · replace hrun := it_pos c_7 hrun
          refine lv_tableIn (tgt := 92) hx hb dX3_count_26 (by rw [c_7]; decide) (by rw [c_7]; decide) (off := 66) (by rw [c_7]; rfl) (by decide) ?_
          refine lv_aload_n hx hb dX3_count_92 rfl (lv_at hl 0 rfl) ?_
          refine va_get (D := G.1) (ci := 3) (v := .ref ((a 5) 0)) (C := RX3) (T := TX3) (N := 6) hx hb hts iwX3 hown hK hP 0 rfl rfl 4 (by decide) ha3 (fun _ h9 => h9) rfl dX3_count_93 ?_
          obtain ⟨v_8, e_9, hrun⟩ := bd hrun
          refine y_ro (va_runV (As := []) (rest := []) ⟨hx, hb, hml, hown, hts⟩ (c_X1_countBlank l G (a 5) (S 5)  v_8 e_9) (cwV 0 hts gX3_count_X1_countBlank rfl rfl rfl (by decide +kernel) ⟨Nat.le_of_ble_eq_true rfl, Nat.le_of_ble_eq_true rfl⟩) ⟨PreR.blind, va_recv hK hP (ci := 1) (q0 := 16) rfl rfl, y_preR hC (hP.sub (ws' := wLay G (a 5) (S 5)) [16, 17, 18, 19, 20, 21, 22, 23, 24, 25, 26, 27] rfl)⟩ rfl rfl hl.1 rfl (lv_room (Nat.le_of_ble_eq_true rfl)) dX3_count_96 ⟨Nat.zero_le _, Nat.zero_le _⟩) ?_
          exact W.iret (v := v_8) hx hb hr (fun t ht hW => ⟨v_8, rfl, si hrun, ht⟩) (fun _ h => absurd h List.not_mem_nil) dX3_count_99
        · replace hrun := it_neg c_7 hrun
          by_cases c_10 : x1 = nI 3
          · replace hrun := it_pos c_10 hrun
            refine lv_tableIn (tgt := 100) hx hb dX3_count_26 (by rw [c_10]; decide) (by rw [c_10]; decide) (off := 74) (by rw [c_10]; rfl) (by decide) ?_
            refine lv_aload_n hx hb dX3_count_100 rfl (lv_at hl 0 rfl) ?_
            refine va_get (D := G.1) (ci := 3) (v := .ref ((a 2) 0)) (C := RX3) (T := TX3) (N := 6) hx hb hts iwX3 hown hK hP 0 rfl rfl 1 (by decide) ha0 (fun _ h9 => h9) rfl dX3_count_101 ?_
            obtain ⟨v_11, e_12, hrun⟩ := bd hrun
            refine y_ro (va_runV (As := []) (rest := []) ⟨hx, hb, hml, hown, hts⟩ (c_X0_countBreaks l G (a 2) (S 2)  v_11 e_12) (cwV 0 hts gX3_count_X0_countBreaks rfl rfl rfl (by decide +kernel) ⟨Nat.le_of_ble_eq_true rfl, Nat.le_of_ble_eq_true rfl⟩) ⟨PreR.blind, va_recv hK hP (ci := 0) (q0 := 4) rfl rfl, y_preR hC (hP.sub (ws' := wBook G (a 2) (S 2)) [4, 5, 6, 7] rfl)⟩ rfl rfl hl.1 rfl (lv_room (Nat.le_of_ble_eq_true rfl)) dX3_count_104 ⟨Nat.zero_le _, Nat.zero_le _⟩) ?_
            exact W.iret (v := v_11) hx hb hr (fun t ht hW => ⟨v_11, rfl, si hrun, ht⟩) (fun _ h => absurd h List.not_mem_nil) dX3_count_107
          · replace hrun := it_neg c_10 hrun
            by_cases c_13 : x1 = nI 4
            · replace hrun := it_pos c_13 hrun
              refine lv_tableIn (tgt := 108) hx hb dX3_count_26 (by rw [c_13]; decide) (by rw [c_13]; decide) (off := 82) (by rw [c_13]; rfl) (by decide) ?_
              refine lv_aload_n hx hb dX3_count_108 rfl (lv_at hl 0 rfl) ?_
              refine va_get (D := G.1) (ci := 3) (v := .ref ((a 5) 0)) (C := RX3) (T := TX3) (N := 6) hx hb hts iwX3 hown hK hP 0 rfl rfl 4 (by decide) ha3 (fun _ h9 => h9) rfl dX3_count_109 ?_
              obtain ⟨v_14, e_15, hrun⟩ := bd hrun
              refine y_ro (va_runV (As := []) (rest := []) ⟨hx, hb, hml, hown, hts⟩ (c_X1_countChapters l G (a 5) (S 5)  v_14 e_15) (cwV 0 hts gX3_count_X1_countChapters rfl rfl rfl (by decide +kernel) ⟨Nat.le_of_ble_eq_true rfl, Nat.le_of_ble_eq_true rfl⟩) ⟨PreR.blind, va_recv hK hP (ci := 1) (q0 := 16) rfl rfl, y_preR hC (hP.sub (ws' := wLay G (a 5) (S 5)) [16, 17, 18, 19, 20, 21, 22, 23, 24, 25, 26, 27] rfl)⟩ rfl rfl hl.1 rfl (lv_room (Nat.le_of_ble_eq_true rfl)) dX3_count_112 ⟨Nat.zero_le _, Nat.zero_le _⟩) ?_
              exact W.iret (v := v_14) hx hb hr (fun t ht hW => ⟨v_14, rfl, si hrun, ht⟩) (fun _ h => absurd h List.not_mem_nil) dX3_count_115
            · replace hrun := it_neg c_13 hrun
              by_cases c_16 : x1 = nI 5
              · replace hrun := it_pos c_16 hrun
                refine lv_tableIn (tgt := 116) hx hb dX3_count_26 (by rw [c_16]; decide) (by rw [c_16]; decide) (off := 90) (by rw [c_16]; rfl) (by decide) ?_
                refine lv_aload_n hx hb dX3_count_116 rfl (lv_at hl 0 rfl) ?_
                refine va_get (D := G.1) (ci := 3) (v := .ref ((a 5) 0)) (C := RX3) (T := TX3) (N := 6) hx hb hts iwX3 hown hK hP 0 rfl rfl 4 (by decide) ha3 (fun _ h9 => h9) rfl dX3_count_117 ?_
                obtain ⟨v_17, e_18, hrun⟩ := bd hrun
                refine y_ro (va_runV (As := []) (rest := []) ⟨hx, hb, hml, hown, hts⟩ (c_X1_countShared l G (a 5) (S 5)  v_17 e_18) (cwV 0 hts gX3_count_X1_countShared rfl rfl rfl (by decide +kernel) ⟨Nat.le_of_ble_eq_true rfl, Nat.le_of_ble_eq_true rfl⟩) ⟨PreR.blind, va_recv hK hP (ci := 1) (q0 := 16) rfl rfl, y_preR hC (hP.sub (ws' := wLay G (a 5) (S 5)) [16, 17, 18, 19, 20, 21, 22, 23, 24, 25, 26, 27] rfl)⟩ rfl rfl hl.1 rfl (lv_room (Nat.le_of_ble_eq_true rfl)) dX3_count_120 ⟨Nat.zero_le _, Nat.zero_le _⟩) ?_
                exact W.iret (v := v_17) hx hb hr (fun t ht hW => ⟨v_17, rfl, si hrun, ht⟩) (fun _ h => absurd h List.not_mem_nil) dX3_count_123
              · replace hrun := it_neg c_16 hrun
                by_cases c_19 : x1 = nI 6
                · replace hrun := it_pos c_19 hrun
                  refine lv_tableIn (tgt := 124) hx hb dX3_count_26 (by rw [c_19]; decide) (by rw [c_19]; decide) (off := 98) (by rw [c_19]; rfl) (by decide) ?_
                  refine lv_aload_n hx hb dX3_count_124 rfl (lv_at hl 0 rfl) ?_
                  refine va_get (D := G.1) (ci := 3) (v := .ref ((a 5) 0)) (C := RX3) (T := TX3) (N := 6) hx hb hts iwX3 hown hK hP 0 rfl rfl 4 (by decide) ha3 (fun _ h9 => h9) rfl dX3_count_125 ?_
                  obtain ⟨v_20, e_21, hrun⟩ := bd hrun
                  refine y_ro (va_runV (As := []) (rest := []) ⟨hx, hb, hml, hown, hts⟩ (c_X1_countHeads l G (a 5) (S 5)  v_20 e_21) (cwV 0 hts gX3_count_X1_countHeads rfl rfl rfl (by decide +kernel) ⟨Nat.le_of_ble_eq_true rfl, Nat.le_of_ble_eq_true rfl⟩) ⟨PreR.blind, va_recv hK hP (ci := 1) (q0 := 16) rfl rfl, y_preR hC (hP.sub (ws' := wLay G (a 5) (S 5)) [16, 17, 18, 19, 20, 21, 22, 23, 24, 25, 26, 27] rfl)⟩ rfl rfl hl.1 rfl (lv_room (Nat.le_of_ble_eq_true rfl)) dX3_count_128 ⟨Nat.zero_le _, Nat.zero_le _⟩) ?_
                  exact W.iret (v := v_20) hx hb hr (fun t ht hW => ⟨v_20, rfl, si hrun, ht⟩) (fun _ h => absurd h List.not_mem_nil) dX3_count_131
                · replace hrun := it_neg c_19 hrun
                  by_cases c_22 : x1 = nI 7
                  · replace hrun := it_pos c_22 hrun
                    refine lv_tableIn (tgt := 132) hx hb dX3_count_26 (by rw [c_22]; decide) (by rw [c_22]; decide) (off := 106) (by rw [c_22]; rfl) (by decide) ?_
                    refine lv_aload_n hx hb dX3_count_132 rfl (lv_at hl 0 rfl) ?_
                    refine va_get (D := G.1) (ci := 3) (v := .ref ((a 1) 0)) (C := RX3) (T := TX3) (N := 6) hx hb hts iwX3 hown hK hP 0 rfl rfl 0 (by decide) ha5 (fun _ h9 => h9) rfl dX3_count_133 ?_
                    refine va_get (D := G.1) (ci := 2) (v := .int ((S 1) 1 0)) (C := RX2) (T := TX2) (N := 2) hx hb hts iwX2 hown hK hP 2 rfl rfl 1 (by decide) ha6 (fun _ h9 => h9) rfl dX3_count_136 ?_
                    exact W.iret (v := ((S 1) 1 0)) hx hb hr (fun t ht hW => ⟨((S 1) 1 0), rfl, si hrun, ht⟩) (fun _ h => absurd h List.not_mem_nil) dX3_count_139
                  · replace hrun := it_neg c_22 hrun
                    by_cases c_23 : x1 = nI 8
                    · replace hrun := it_pos c_23 hrun
                      refine lv_tableIn (tgt := 140) hx hb dX3_count_26 (by rw [c_23]; decide) (by rw [c_23]; decide) (off := 114) (by rw [c_23]; rfl) (by decide) ?_
                      refine lv_aload_n hx hb dX3_count_140 rfl (lv_at hl 0 rfl) ?_
                      refine va_get (D := G.1) (ci := 3) (v := .int (S 0 0 0)) (C := RX3) (T := TX3) (N := 6) hx hb hts iwX3 hown hK hP 0 rfl rfl 3 (by decide) ha7 (fun _ h9 => h9) rfl dX3_count_141 ?_
                      exact W.iret (v := (S 0 0 0)) hx hb hr (fun t ht hW => ⟨(S 0 0 0), rfl, si hrun, ht⟩) (fun _ h => absurd h List.not_mem_nil) dX3_count_144
                    · replace hrun := it_neg c_23 hrun
                      refine lv_tableOut (tgt := 145) hx hb dX3_count_26 (tb_out (n := 9) (by decide) (fun k hk => by rcases (show k = 0 ∨ k = 1 ∨ k = 2 ∨ k = 3 ∨ k = 4 ∨ k = 5 ∨ k = 6 ∨ k = 7 ∨ k = 8 by omega) with rfl | rfl | rfl | rfl | rfl | rfl | rfl | rfl | rfl <;> first | exact c_5 | exact c_6 | exact c_7 | exact c_10 | exact c_13 | exact c_16 | exact c_19 | exact c_22 | exact c_23) (by decide)) (by decide) ?_
                      refine lv_bipush (v := -2) hx hb dX3_count_145 (by decide) ?_
                      exact W.iret (v := (-2)) hx hb hr (fun t ht hW => ⟨(-2), rfl, si hrun, ht⟩) (fun _ h => absurd h List.not_mem_nil) dX3_count_147
  have hl := lv_entry [.ref (a 0 0), .int u1] (n := 2) (Nat.le_of_ble_eq_true rfl)
  rw [lg_entry_eq]
  generalize (lg_sl [.ref (a 0 0), .int u1] ++ List.replicate (2 - (lg_sl [.ref (a 0 0), .int u1]).length) Slot.unset).toArray = ls at hl ⊢
  have hl : lv_has ls 2 [(0, .ref (a 0 0)), (1, .int u1)] := hl
  rw [p_X3_count] at hrun
  refine lv_iload_n hx hb dX3_count_0 rfl (lv_at hl 1 rfl) ?_
  refine lv_bipush (v := nI 10) hx hb dX3_count_1 (by decide) ?_
  refine lv_icmp_lt (tgt := 25) hx hb dX3_count_3 (by decide) (fun c_1 => ?_) (fun c_1 => ?_)
  · replace hrun := it_pos c_1 hrun
    exact kJ_25 u1  ls (lv_sub hl [0, 1] rfl) hrun
  · replace hrun := it_neg c_1 hrun
    refine lv_iload_n hx hb dX3_count_6 rfl (lv_at hl 1 rfl) ?_
    refine lv_bipush (v := nI 19) hx hb dX3_count_7 (by decide) ?_
    refine lv_icmp_ge (tgt := 25) hx hb dX3_count_9 (by decide) (fun c_2 => ?_) (fun c_2 => ?_)
    · replace hrun := it_pos c_2 hrun
      exact kJ_25 u1  ls (lv_sub hl [0, 1] rfl) hrun
    · replace hrun := it_neg c_2 hrun
      refine lv_aload_n hx hb dX3_count_12 rfl (lv_at hl 0 rfl) ?_
      refine va_get (D := G.1) (ci := 3) (v := .ref ((a 2) 0)) (C := RX3) (T := TX3) (N := 6) hx hb hts iwX3 hown hK hP 0 rfl rfl 1 (by decide) ha0 (fun _ h9 => h9) rfl dX3_count_13 ?_
      refine va_get (D := G.1) (ci := 0) (v := .ref ((a 2) 3)) (C := RX0) (T := TX0) (N := 4) hx hb hts iwX0 hown hK hP 4 rfl rfl 2 (by decide) ha1 (fun _ h9 => h9) rfl dX3_count_16 ?_
      refine lv_iload_n hx hb dX3_count_19 rfl (lv_at hl 1 rfl) ?_
      refine lv_bipush (v := nI 10) hx hb dX3_count_20 (by decide) ?_
      refine lv_isub hx hb dX3_count_22 ?_
      obtain ⟨v_3, e_4, hrun⟩ := bd hrun
      refine y_ald hx hb hK hP 7 0 rfl rfl e_4 dX3_count_23 ?_
      exact W.iret (v := v_3) hx hb hr (fun t ht hW => ⟨v_3, rfl, si hrun, ht⟩) (fun _ h => absurd h List.not_mem_nil) dX3_count_24
def p_X3_say  (u1 : Int32) (S : (Nat → Ob)) : Option (Int32 × (Nat → Ob)) := (if u1 < (nI 33) then (some ((-2), S)) else (if u1 ≤ (nI 126) then (if ((S 1) 1 0) < (nI 60) then ((p_X2_append u1 (S 1)).bind fun N_5 => (some (va_up S 1 N_5)).bind fun S_6 => (some (((S_6 1) 1 0), S_6))) else (some ((-4), S))) else (some ((-2), S))))
abbrev rmX3_say : Room := { frames := 1, cells := 0, slots := 0, locals := 21 }
set_option maxHeartbeats 4000000 in
set_option maxRecDepth 100000 in
theorem c_X3_say (l : Launch) (G : GT) (a : Nat → Nat → Nat) (S : Nat → Ob) (u1 : Int32) (sz : Nat) (r0 : Int32) (S0 : (Nat → Ob)) (hrun : p_X3_say u1 S = some (r0, S0)) : Met l yX3_say wsX3_say rmX3_say (PreW G [.ref (a 0 0), .int u1] (wHM G a S) sz) (QI G r0 (wHM G a S0) (va_A (wHM G a S) sz)) 0 0 (va_A (wHM G a S) sz) := by
  refine Met.ofW (cc := cX3_say) (maxL := 2) (ret := (some .int)) (by decide) rfl ?_
  intro p e s m args below meth c s₁ Bd hml hv
  obtain ⟨rfl, hsz, hP, hC, hD0⟩ := hv
  have hx := Bd.exec
  have hb := Bd.bytes
  have hr := Bd.returns
  have hts := atoms_spec (ws := wsX3_say) Bd.pre
  have hown : s.vm.findClass RX3 = some m.cls := findClass_of_methodNamed Bd.named
  have hlocks := Bd.notSynchronized
  have hK := hC.1
  have iwX2 : ∀ w ∈ wsX20, w ∈ wsX3_say := by decide +kernel
  have iwX3 : ∀ w ∈ wsX30, w ∈ wsX3_say := by decide +kernel
  have ha0 := hts (.fieldLink RX3 12 "HeadMarks" "pad" "LHeadMarks$Pad;") (by decide +kernel)
  have ha1 := hts (.fieldLink RX3 41 "HeadMarks$Pad" "size" "I") (by decide +kernel)
  subst hsz
  have hD := hD0.self (sz := s.heap.size)
  generalize hAe : va_A (wHM G a S) s.heap.size = A at hD ⊢
  have hA : ∀ q : Nat, s.heap.size ≤ q → A q := fun q h => by rw [← hAe]; exact Or.inr h
  have hS : va_S A s.heap s.heap [] := va_S.rf
  have hl := lv_entry [.ref (a 0 0), .int u1] (n := 2) (Nat.le_of_ble_eq_true rfl)
  rw [lg_entry_eq]
  generalize (lg_sl [.ref (a 0 0), .int u1] ++ List.replicate (2 - (lg_sl [.ref (a 0 0), .int u1]).length) Slot.unset).toArray = ls at hl ⊢
  have hl : lv_has ls 2 [(0, .ref (a 0 0)), (1, .int u1)] := hl
  rw [p_X3_say] at hrun
  refine lv_iload_n hx hb dX3_say_0 rfl (lv_at hl 1 rfl) ?_
  refine lv_bipush (v := nI 33) hx hb dX3_say_1 (by decide) ?_
  refine lv_icmp_lt (tgt := 12) hx hb dX3_say_3 (by decide) (fun c_1 => ?_) (fun c_1 => ?_)
  · replace hrun := it_pos c_1 hrun
    refine lv_bipush (v := -2) hx hb dX3_say_12 (by decide) ?_
    obtain ⟨hr1, hr2⟩ := si2 hrun
    exact W.iret (v := (-2)) hx hb hr (fun t ht hW => ⟨⟨(-2), (), rfl, hr1, by rw [ht, ← hr2]; exact hP, by rw [← hr2]; exact hD⟩, hS.F ht⟩) hS.2.2 dX3_say_14
  · replace hrun := it_neg c_1 hrun
    refine lv_iload_n hx hb dX3_say_6 rfl (lv_at hl 1 rfl) ?_
    refine lv_bipush (v := nI 126) hx hb dX3_say_7 (by decide) ?_
    refine lv_icmp_le (tgt := 15) hx hb dX3_say_9 (by decide) (fun c_2 => ?_) (fun c_2 => ?_)
    · replace hrun := it_pos c_2 hrun
      refine lv_aload_n hx hb dX3_say_15 rfl (lv_at hl 0 rfl) ?_
      refine va_get (D := G.1) (ci := 3) (v := .ref ((a 1) 0)) (C := RX3) (T := TX3) (N := 6) hx hb hts iwX3 hown hK hP 0 rfl rfl 0 (by decide) ha0 (fun _ h9 => h9) rfl dX3_say_16 ?_
      refine va_get (D := G.1) (ci := 2) (v := .int ((S 1) 1 0)) (C := RX2) (T := TX2) (N := 2) hx hb hts iwX2 hown hK hP 2 rfl rfl 1 (by decide) ha1 (fun _ h9 => h9) rfl dX3_say_19 ?_
      refine lv_bipush (v := nI 60) hx hb dX3_say_22 (by decide) ?_
      refine lv_icmp_lt (tgt := 30) hx hb dX3_say_24 (by decide) (fun c_3 => ?_) (fun c_3 => ?_)
      · replace hrun := it_pos c_3 hrun
        refine lv_aload_n hx hb dX3_say_30 rfl (lv_at hl 0 rfl) ?_
        refine va_get (D := G.1) (ci := 3) (v := .ref ((a 1) 0)) (C := RX3) (T := TX3) (N := 6) hx hb hts iwX3 hown hK hP 0 rfl rfl 0 (by decide) ha0 (fun _ h9 => h9) rfl dX3_say_31 ?_
        refine lv_iload_n hx hb dX3_say_34 rfl (lv_at hl 1 rfl) ?_
        obtain ⟨N_5, e_4, hrun⟩ := bd hrun
        obtain ⟨S_6, e_7, hrun⟩ := bd hrun
        replace e_7 := si e_7
        have hF := va_free (wc := wPad G (a 1) (S 1)) hD hS hA [2, 3] rfl
        refine y_rwv (va_runV (As := [.int u1]) (rest := []) ⟨hx, hb, hml, hown, hts⟩ (c_X2_append l G (a 1) (S 1) u1 _ N_5 e_4) (cwV 1 hts gX3_say_X2_append rfl rfl rfl (by decide +kernel) ⟨Nat.le_of_ble_eq_true rfl, Nat.le_of_ble_eq_true rfl⟩) ⟨PreW.blind, va_recv hK hP (ci := 2) (q0 := 2) rfl rfl, y_preW hC (hP.sub (ws' := wPad G (a 1) (S 1)) [2, 3] rfl) (hD.sub (ws' := wPad G (a 1) (S 1)) [2, 3] (by decide) rfl)⟩ rfl rfl hl.1 rfl (lv_room (Nat.le_of_ble_eq_true rfl)) dX3_say_35 ⟨Nat.zero_le _, Nat.zero_le _⟩) hS hF (fun H locs hP1 hD1 hk1 hS => ?_)
        replace hP := jn_hm_S1_mS1 hP hD hk1 hF hP1 hD1
        replace hD := hP.2
        replace hP := hP.1
        rw [e_7] at hP hD
        clear hP1 hD1 hk1 hF
        refine lv_aload_n hx hb dX3_say_38 rfl (lv_at hl 0 rfl) ?_
        refine va_get (D := G.1) (ci := 3) (v := .ref ((a 1) 0)) (C := RX3) (T := TX3) (N := 6) hx hb hts iwX3 hown hK hP 0 rfl rfl 0 (by decide) ha0 (fun _ h9 => h9) rfl dX3_say_39 ?_
        refine va_get (D := G.1) (ci := 2) (v := .int ((S_6 1) 1 0)) (C := RX2) (T := TX2) (N := 2) hx hb hts iwX2 hown hK hP 2 rfl rfl 1 (by decide) ha1 (fun _ h9 => h9) rfl dX3_say_42 ?_
        obtain ⟨hr1, hr2⟩ := si2 hrun
        exact W.iret (v := ((S_6 1) 1 0)) hx hb hr (fun t ht hW => ⟨⟨((S_6 1) 1 0), (), rfl, hr1, by rw [ht, ← hr2]; exact hP, by rw [← hr2]; exact hD⟩, hS.F ht⟩) hS.2.2 dX3_say_45
      · replace hrun := it_neg c_3 hrun
        refine lv_bipush (v := -4) hx hb dX3_say_27 (by decide) ?_
        obtain ⟨hr1, hr2⟩ := si2 hrun
        exact W.iret (v := (-4)) hx hb hr (fun t ht hW => ⟨⟨(-4), (), rfl, hr1, by rw [ht, ← hr2]; exact hP, by rw [← hr2]; exact hD⟩, hS.F ht⟩) hS.2.2 dX3_say_29
    · replace hrun := it_neg c_2 hrun
      refine lv_bipush (v := -2) hx hb dX3_say_12 (by decide) ?_
      obtain ⟨hr1, hr2⟩ := si2 hrun
      exact W.iret (v := (-2)) hx hb hr (fun t ht hW => ⟨⟨(-2), (), rfl, hr1, by rw [ht, ← hr2]; exact hP, by rw [← hr2]; exact hD⟩, hS.F ht⟩) hS.2.2 dX3_say_14
def p_X3_wipe   (S : (Nat → Ob)) : Option (Int32 × (Nat → Ob)) := ((some (va_up S 1 (puO (S 1) 1 (nI 0)))).bind fun S_1 => (some (((S 1) 1 0), S_1)))
abbrev rmX3_wipe : Room := { frames := 0, cells := 0, slots := 0, locals := 0 }
set_option maxHeartbeats 4000000 in
set_option maxRecDepth 100000 in
theorem c_X3_wipe (l : Launch) (G : GT) (a : Nat → Nat → Nat) (S : Nat → Ob) (sz : Nat) (r0 : Int32) (S0 : (Nat → Ob)) (hrun : p_X3_wipe S = some (r0, S0)) : Met l yX3_wipe wsX3_wipe rmX3_wipe (PreW G [.ref (a 0 0)] (wHM G a S) sz) (QI G r0 (wHM G a S0) (va_A (wHM G a S) sz)) 0 0 (va_A (wHM G a S) sz) := by
  refine Met.ofW (cc := cX3_wipe) (maxL := 2) (ret := (some .int)) (by decide) rfl ?_
  intro p e s m args below meth c s₁ Bd hml hv
  obtain ⟨rfl, hsz, hP, hC, hD0⟩ := hv
  have hx := Bd.exec
  have hb := Bd.bytes
  have hr := Bd.returns
  have hts := atoms_spec (ws := wsX3_wipe) Bd.pre
  have hown : s.vm.findClass RX3 = some m.cls := findClass_of_methodNamed Bd.named
  have hlocks := Bd.notSynchronized
  have hK := hC.1
  have iwX2 : ∀ w ∈ wsX20, w ∈ wsX3_wipe := by decide +kernel
  have iwX3 : ∀ w ∈ wsX30, w ∈ wsX3_wipe := by decide +kernel
  have ha0 := hts (.fieldLink RX3 12 "HeadMarks" "pad" "LHeadMarks$Pad;") (by decide +kernel)
  have ha1 := hts (.fieldLink RX3 41 "HeadMarks$Pad" "size" "I") (by decide +kernel)
  subst hsz
  have hD := hD0.self (sz := s.heap.size)
  generalize hAe : va_A (wHM G a S) s.heap.size = A at hD ⊢
  have hA : ∀ q : Nat, s.heap.size ≤ q → A q := fun q h => by rw [← hAe]; exact Or.inr h
  have hS : va_S A s.heap s.heap [] := va_S.rf
  have hl := lv_entry [.ref (a 0 0)] (n := 2) (Nat.le_of_ble_eq_true rfl)
  rw [lg_entry_eq]
  generalize (lg_sl [.ref (a 0 0)] ++ List.replicate (2 - (lg_sl [.ref (a 0 0)]).length) Slot.unset).toArray = ls at hl ⊢
  have hl : lv_has ls 2 [(0, .ref (a 0 0))] := hl
  rw [p_X3_wipe] at hrun
  refine lv_aload_n hx hb dX3_wipe_0 rfl (lv_at hl 0 rfl) ?_
  refine va_get (D := G.1) (ci := 3) (v := .ref ((a 1) 0)) (C := RX3) (T := TX3) (N := 6) hx hb hts iwX3 hown hK hP 0 rfl rfl 0 (by decide) ha0 (fun _ h9 => h9) rfl dX3_wipe_1 ?_
  refine va_get (D := G.1) (ci := 2) (v := .int ((S 1) 1 0)) (C := RX2) (T := TX2) (N := 2) hx hb hts iwX2 hown hK hP 2 rfl rfl 1 (by decide) ha1 (fun _ h9 => h9) rfl dX3_wipe_4 ?_
  refine lv_istore_n (lv' := [(1, .int ((S 1) 1 0)), (0, .ref (a 0 0))]) hx hb dX3_wipe_7 rfl hl (by decide) rfl (fun ls hl => ?_)
  refine lv_aload_n hx hb dX3_wipe_8 rfl (lv_at hl 1 rfl) ?_
  refine va_get (D := G.1) (ci := 3) (v := .ref ((a 1) 0)) (C := RX3) (T := TX3) (N := 6) hx hb hts iwX3 hown hK hP 0 rfl rfl 0 (by decide) ha0 (fun _ h9 => h9) rfl dX3_wipe_9 ?_
  refine lv_iconst (v := nI 0) hx hb dX3_wipe_12 (by decide) ?_
  obtain ⟨S_1, e_2, hrun⟩ := bd hrun
  replace e_2 := si e_2
  refine va_put (D := G.1) (ci := 2) (v := .int (nI 0)) (ty := .int) (C := RX2) (T := TX2) (N := 2) hx hb hts iwX2 tyX2 tyX2_ok nmX2 hown hK hP hD hS 2 rfl rfl 1 (by decide) ha1 (fun _ h9 => h9) rfl (by decide +kernel) rfl rfl (Nat.le_of_ble_eq_true rfl) dX3_wipe_13 (fun H locs hP hD hS => ?_)
  replace hP : va_P G.1 vwCl (wHM G a S_1) H := by rw [← e_2]; exact hP
  replace hD : va_D A (wHM G a S_1) := by rw [← e_2]; exact hD
  refine lv_iload_n hx hb dX3_wipe_16 rfl (lv_at hl 0 rfl) ?_
  obtain ⟨hr1, hr2⟩ := si2 hrun
  exact W.iret (v := ((S 1) 1 0)) hx hb hr (fun t ht hW => ⟨⟨((S 1) 1 0), (), rfl, hr1, by rw [ht, ← hr2]; exact hP, by rw [← hr2]; exact hD⟩, hS.F ht⟩) hS.2.2 dX3_wipe_17
def p_X3_layNow   (S : (Nat → Ob)) : Option ((Nat → Ob)) := ((ldI ((S 2) 2) 9 (nI 0)).bind fun v_1 => ((p_X1_lay (S 2) v_1 (-1) (S 5)).bind fun N_4 => (some (va_up S 5 N_4)).bind fun S_5 => (some S_5)))
abbrev rmX3_layNow : Room := { frames := 4, cells := 0, slots := 0, locals := 94 }
set_option maxHeartbeats 4000000 in
set_option maxRecDepth 100000 in
theorem c_X3_layNow (l : Launch) (G : GT) (a : Nat → Nat → Nat) (S : Nat → Ob) (sz : Nat) (S0 : (Nat → Ob)) (hrun : p_X3_layNow S = some S0) : Met l yX3_layNow wsX3_layNow rmX3_layNow (PreW G [.ref (a 0 0)] (wHM G a S) sz) (QV G (wHM G a S0) (va_A (wHM G a S) sz)) 0 0 (va_A (wHM G a S) sz) := by
  refine Met.ofW (cc := cX3_layNow) (maxL := 1) (ret := none) (by decide) rfl ?_
  intro p e s m args below meth c s₁ Bd hml hv
  obtain ⟨rfl, hsz, hP, hC, hD0⟩ := hv
  have hx := Bd.exec
  have hb := Bd.bytes
  have hr := Bd.returns
  have hts := atoms_spec (ws := wsX3_layNow) Bd.pre
  have hown : s.vm.findClass RX3 = some m.cls := findClass_of_methodNamed Bd.named
  have hlocks := Bd.notSynchronized
  have hK := hC.1
  have iwX0 : ∀ w ∈ wsX00, w ∈ wsX3_layNow := by decide +kernel
  have iwX3 : ∀ w ∈ wsX30, w ∈ wsX3_layNow := by decide +kernel
  have ha0 := hts (.fieldLink RX3 34 "HeadMarks" "now" "LHeadMarks$Layout;") (by decide +kernel)
  have ha1 := hts (.fieldLink RX3 19 "HeadMarks" "book" "LHeadMarks$Book;") (by decide +kernel)
  have ha2 := hts (.fieldLink RX3 66 "HeadMarks$Book" "rules" "[I") (by decide +kernel)
  subst hsz
  have hD := hD0.self (sz := s.heap.size)
  generalize hAe : va_A (wHM G a S) s.heap.size = A at hD ⊢
  have hA : ∀ q : Nat, s.heap.size ≤ q → A q := fun q h => by rw [← hAe]; exact Or.inr h
  have hS : va_S A s.heap s.heap [] := va_S.rf
  have hl := lv_entry [.ref (a 0 0)] (n := 1) (Nat.le_of_ble_eq_true rfl)
  rw [lg_entry_eq]
  generalize (lg_sl [.ref (a 0 0)] ++ List.replicate (1 - (lg_sl [.ref (a 0 0)]).length) Slot.unset).toArray = ls at hl ⊢
  have hl : lv_has ls 1 [(0, .ref (a 0 0))] := hl
  rw [p_X3_layNow] at hrun
  refine lv_aload_n hx hb dX3_layNow_0 rfl (lv_at hl 0 rfl) ?_
  refine va_get (D := G.1) (ci := 3) (v := .ref ((a 5) 0)) (C := RX3) (T := TX3) (N := 6) hx hb hts iwX3 hown hK hP 0 rfl rfl 4 (by decide) ha0 (fun _ h9 => h9) rfl dX3_layNow_1 ?_
  refine lv_aload_n hx hb dX3_layNow_4 rfl (lv_at hl 0 rfl) ?_
  refine va_get (D := G.1) (ci := 3) (v := .ref ((a 2) 0)) (C := RX3) (T := TX3) (N := 6) hx hb hts iwX3 hown hK hP 0 rfl rfl 1 (by decide) ha1 (fun _ h9 => h9) rfl dX3_layNow_5 ?_
  refine lv_aload_n hx hb dX3_layNow_8 rfl (lv_at hl 0 rfl) ?_
  refine va_get (D := G.1) (ci := 3) (v := .ref ((a 2) 0)) (C := RX3) (T := TX3) (N := 6) hx hb hts iwX3 hown hK hP 0 rfl rfl 1 (by decide) ha1 (fun _ h9 => h9) rfl dX3_layNow_9 ?_
  refine va_get (D := G.1) (ci := 0) (v := .ref ((a 2) 3)) (C := RX0) (T := TX0) (N := 4) hx hb hts iwX0 hown hK hP 4 rfl rfl 2 (by decide) ha2 (fun _ h9 => h9) rfl dX3_layNow_12 ?_
  refine lv_iconst (v := nI 0) hx hb dX3_layNow_15 (by decide) ?_
  obtain ⟨v_1, e_2, hrun⟩ := bd hrun
  refine y_ald hx hb hK hP 7 0 rfl rfl e_2 dX3_layNow_16 ?_
  refine lv_iconst (v := -1) hx hb dX3_layNow_17 (by decide) ?_
  obtain ⟨N_4, e_3, hrun⟩ := bd hrun
  obtain ⟨S_5, e_6, hrun⟩ := bd hrun
  replace e_6 := si e_6
  have hF := va_free (wc := wLay G (a 5) (S 5) ++ wBook G (a 2) (S 2)) hD hS hA [16, 17, 18, 19, 20, 21, 22, 23, 24, 25, 26, 27, 4, 5, 6, 7] rfl
  refine y_rwv (va_runV (As := [.ref ((a 2) 0), .int v_1, .int (-1)]) (rest := []) ⟨hx, hb, hml, hown, hts⟩ (c_X1_lay l G (a 5) (a 2) (S 5) (S 2) v_1 (-1) _ N_4 e_3) (cwV 3 hts gX3_layNow_X1_lay rfl rfl rfl (by decide +kernel) ⟨Nat.le_of_ble_eq_true rfl, Nat.le_of_ble_eq_true rfl⟩) ⟨PreW.blind, va_recv hK hP (ci := 1) (q0 := 16) rfl rfl, y_preW hC (hP.sub (ws' := wLay G (a 5) (S 5) ++ wBook G (a 2) (S 2)) [16, 17, 18, 19, 20, 21, 22, 23, 24, 25, 26, 27, 4, 5, 6, 7] rfl) (hD.sub (ws' := wLay G (a 5) (S 5) ++ wBook G (a 2) (S 2)) [16, 17, 18, 19, 20, 21, 22, 23, 24, 25, 26, 27, 4, 5, 6, 7] (by decide) rfl)⟩ rfl rfl hl.1 rfl (lv_room (Nat.le_of_ble_eq_true rfl)) dX3_layNow_18 ⟨Nat.zero_le _, Nat.zero_le _⟩) hS hF (fun H locs hP1 hD1 hk1 hS => ?_)
  replace hP := jn_hm_S5_S2_mS5 hP hD hk1 hF hP1 hD1
  replace hD := hP.2
  replace hP := hP.1
  rw [e_6] at hP hD
  clear hP1 hD1 hk1 hF
  have hr2 := si hrun
  exact W.vret hx hb hr (fun t ht hW => ⟨⟨(), rfl, trivial, by rw [ht, ← hr2]; exact hP, by rw [← hr2]; exact hD⟩, hS.F ht⟩) hS.2.2 dX3_layNow_21
def p_X3_read   (S : (Nat → Ob)) : Option (Int32 × (Nat → Ob)) := ((p_X2_faultPlace (S 1)).bind fun v_1 => (if v_1 = (-6) then ((p_X0_takeText (S 1) (S 2)).bind fun N_5 => (some (va_up S 2 N_5)).bind fun S_6 => ((some (va_up S_6 1 (puO (S_6 1) 1 (nI 0)))).bind fun S_8 => ((p_X3_layNow S_8).bind fun N_11 => (some (((N_11 2) 3 0), N_11))))) else (some ((-7), S))))
abbrev rmX3_read : Room := { frames := 5, cells := 0, slots := 0, locals := 114 }
set_option maxHeartbeats 4000000 in
set_option maxRecDepth 100000 in
theorem c_X3_read (l : Launch) (G : GT) (a : Nat → Nat → Nat) (S : Nat → Ob) (sz : Nat) (r0 : Int32) (S0 : (Nat → Ob)) (hrun : p_X3_read S = some (r0, S0)) : Met l yX3_read wsX3_read rmX3_read (PreW G [.ref (a 0 0)] (wHM G a S) sz) (QI G r0 (wHM G a S0) (va_A (wHM G a S) sz)) 0 0 (va_A (wHM G a S) sz) := by
  refine Met.ofW (cc := cX3_read) (maxL := 1) (ret := (some .int)) (by decide) rfl ?_
  intro p e s m args below meth c s₁ Bd hml hv
  obtain ⟨rfl, hsz, hP, hC, hD0⟩ := hv
  have hx := Bd.exec
  have hb := Bd.bytes
  have hr := Bd.returns
  have hts := atoms_spec (ws := wsX3_read) Bd.pre
  have hown : s.vm.findClass RX3 = some m.cls := findClass_of_methodNamed Bd.named
  have hlocks := Bd.notSynchronized
  have hK := hC.1
  have iwX0 : ∀ w ∈ wsX00, w ∈ wsX3_read := by decide +kernel
  have iwX2 : ∀ w ∈ wsX20, w ∈ wsX3_read := by decide +kernel
  have iwX3 : ∀ w ∈ wsX30, w ∈ wsX3_read := by decide +kernel
  have ha0 := hts (.fieldLink RX3 12 "HeadMarks" "pad" "LHeadMarks$Pad;") (by decide +kernel)
  have ha1 := hts (.fieldLink RX3 19 "HeadMarks" "book" "LHeadMarks$Book;") (by decide +kernel)
  have ha2 := hts (.fieldLink RX3 41 "HeadMarks$Pad" "size" "I") (by decide +kernel)
  have ha3 := hts (.fieldLink RX3 59 "HeadMarks$Book" "lines" "I") (by decide +kernel)
  subst hsz
  have hD := hD0.self (sz := s.heap.size)
  generalize hAe : va_A (wHM G a S) s.heap.size = A at hD ⊢
  have hA : ∀ q : Nat, s.heap.size ≤ q → A q := fun q h => by rw [← hAe]; exact Or.inr h
  have hS : va_S A s.heap s.heap [] := va_S.rf
  have hl := lv_entry [.ref (a 0 0)] (n := 1) (Nat.le_of_ble_eq_true rfl)
  rw [lg_entry_eq]
  generalize (lg_sl [.ref (a 0 0)] ++ List.replicate (1 - (lg_sl [.ref (a 0 0)]).length) Slot.unset).toArray = ls at hl ⊢
  have hl : lv_has ls 1 [(0, .ref (a 0 0))] := hl
  rw [p_X3_read] at hrun
  refine lv_aload_n hx hb dX3_read_0 rfl (lv_at hl 0 rfl) ?_
  refine va_get (D := G.1) (ci := 3) (v := .ref ((a 1) 0)) (C := RX3) (T := TX3) (N := 6) hx hb hts iwX3 hown hK hP 0 rfl rfl 0 (by decide) ha0 (fun _ h9 => h9) rfl dX3_read_1 ?_
  obtain ⟨v_1, e_2, hrun⟩ := bd hrun
  refine y_ro (va_runV (As := []) (rest := []) ⟨hx, hb, hml, hown, hts⟩ (c_X2_faultPlace l G (a 1) (S 1)  v_1 e_2) (cwV 0 hts gX3_read_X2_faultPlace rfl rfl rfl (by decide +kernel) ⟨Nat.le_of_ble_eq_true rfl, Nat.le_of_ble_eq_true rfl⟩) ⟨PreR.blind, va_recv hK hP (ci := 2) (q0 := 2) rfl rfl, y_preR hC (hP.sub (ws' := wPad G (a 1) (S 1)) [2, 3] rfl)⟩ rfl rfl hl.1 rfl (lv_room (Nat.le_of_ble_eq_true rfl)) dX3_read_4 ⟨Nat.zero_le _, Nat.zero_le _⟩) ?_
  refine lv_bipush (v := -6) hx hb dX3_read_7 (by decide) ?_
  refine lv_icmp_eq (tgt := 15) hx hb dX3_read_9 (by decide) (fun c_3 => ?_) (fun c_3 => ?_)
  · replace hrun := it_pos c_3 hrun
    refine lv_aload_n hx hb dX3_read_15 rfl (lv_at hl 0 rfl) ?_
    refine va_get (D := G.1) (ci := 3) (v := .ref ((a 2) 0)) (C := RX3) (T := TX3) (N := 6) hx hb hts iwX3 hown hK hP 0 rfl rfl 1 (by decide) ha1 (fun _ h9 => h9) rfl dX3_read_16 ?_
    refine lv_aload_n hx hb dX3_read_19 rfl (lv_at hl 0 rfl) ?_
    refine va_get (D := G.1) (ci := 3) (v := .ref ((a 1) 0)) (C := RX3) (T := TX3) (N := 6) hx hb hts iwX3 hown hK hP 0 rfl rfl 0 (by decide) ha0 (fun _ h9 => h9) rfl dX3_read_20 ?_
    obtain ⟨N_5, e_4, hrun⟩ := bd hrun
    obtain ⟨S_6, e_7, hrun⟩ := bd hrun
    replace e_7 := si e_7
    have hF := va_free (wc := wBook G (a 2) (S 2) ++ wPad G (a 1) (S 1)) hD hS hA [4, 5, 6, 7, 2, 3] rfl
    refine y_rwv (va_runV (As := [.ref ((a 1) 0)]) (rest := []) ⟨hx, hb, hml, hown, hts⟩ (c_X0_takeText l G (a 2) (a 1) (S 2) (S 1)  _ N_5 e_4) (cwV 1 hts gX3_read_X0_takeText rfl rfl rfl (by decide +kernel) ⟨Nat.le_of_ble_eq_true rfl, Nat.le_of_ble_eq_true rfl⟩) ⟨PreW.blind, va_recv hK hP (ci := 0) (q0 := 4) rfl rfl, y_preW hC (hP.sub (ws' := wBook G (a 2) (S 2) ++ wPad G (a 1) (S 1)) [4, 5, 6, 7, 2, 3] rfl) (hD.sub (ws' := wBook G (a 2) (S 2) ++ wPad G (a 1) (S 1)) [4, 5, 6, 7, 2, 3] (by decide) rfl)⟩ rfl rfl hl.1 rfl (lv_room (Nat.le_of_ble_eq_true rfl)) dX3_read_23 ⟨Nat.zero_le _, Nat.zero_le _⟩) hS hF (fun H locs hP1 hD1 hk1 hS => ?_)
    replace hP := jn_hm_S2_S1_mS2 hP hD hk1 hF hP1 hD1
    replace hD := hP.2
    replace hP := hP.1
    rw [e_7] at hP hD
    clear hP1 hD1 hk1 hF
    refine lv_aload_n hx hb dX3_read_26 rfl (lv_at hl 0 rfl) ?_
    refine va_get (D := G.1) (ci := 3) (v := .ref ((a 1) 0)) (C := RX3) (T := TX3) (N := 6) hx hb hts iwX3 hown hK hP 0 rfl rfl 0 (by decide) ha0 (fun _ h9 => h9) rfl dX3_read_27 ?_
    refine lv_iconst (v := nI 0) hx hb dX3_read_30 (by decide) ?_
    obtain ⟨S_8, e_9, hrun⟩ := bd hrun
    replace e_9 := si e_9
    refine va_put (D := G.1) (ci := 2) (v := .int (nI 0)) (ty := .int) (C := RX2) (T := TX2) (N := 2) hx hb hts iwX2 tyX2 tyX2_ok nmX2 hown hK hP hD hS 2 rfl rfl 1 (by decide) ha2 (fun _ h9 => h9) rfl (by decide +kernel) rfl rfl (Nat.le_of_ble_eq_true rfl) dX3_read_31 (fun H locs hP hD hS => ?_)
    replace hP : va_P G.1 vwCl (wHM G a S_8) H := by rw [← e_9]; exact hP
    replace hD : va_D A (wHM G a S_8) := by rw [← e_9]; exact hD
    refine lv_aload_n hx hb dX3_read_34 rfl (lv_at hl 0 rfl) ?_
    obtain ⟨N_11, e_10, hrun⟩ := bd hrun
    have hF := y_all hD hS hA
    refine y_rwv (va_runV (As := []) (rest := []) ⟨hx, hb, hml, hown, hts⟩ (c_X3_layNow l G a S_8  _ N_11 e_10) (cwV 0 hts gX3_read_X3_layNow rfl rfl rfl (by decide +kernel) ⟨Nat.le_of_ble_eq_true rfl, Nat.le_of_ble_eq_true rfl⟩) ⟨PreW.blind, va_recv hK hP (ci := 3) (q0 := 0) rfl rfl, y_preW hC hP hD⟩ rfl rfl hl.1 rfl (lv_room (Nat.le_of_ble_eq_true rfl)) dX3_read_35 ⟨Nat.zero_le _, Nat.zero_le _⟩) hS hF (fun H locs hP1 hD1 hk1 hS => ?_)
    replace hP : va_P G.1 vwCl (wHM G a N_11) H := hP1
    replace hD : va_D A (wHM G a N_11) := hD1.weaken (fun _ q _ h => hF q.1 h)
    clear hP1 hD1 hk1 hF
    refine lv_aload_n hx hb dX3_read_38 rfl (lv_at hl 0 rfl) ?_
    refine va_get (D := G.1) (ci := 3) (v := .ref ((a 2) 0)) (C := RX3) (T := TX3) (N := 6) hx hb hts iwX3 hown hK hP 0 rfl rfl 1 (by decide) ha1 (fun _ h9 => h9) rfl dX3_read_39 ?_
    refine va_get (D := G.1) (ci := 0) (v := .int ((N_11 2) 3 0)) (C := RX0) (T := TX0) (N := 4) hx hb hts iwX0 hown hK hP 4 rfl rfl 3 (by decide) ha3 (fun _ h9 => h9) rfl dX3_read_42 ?_
    obtain ⟨hr1, hr2⟩ := si2 hrun
    exact W.iret (v := ((N_11 2) 3 0)) hx hb hr (fun t ht hW => ⟨⟨((N_11 2) 3 0), (), rfl, hr1, by rw [ht, ← hr2]; exact hP, by rw [← hr2]; exact hD⟩, hS.F ht⟩) hS.2.2 dX3_read_45
  · replace hrun := it_neg c_3 hrun
    refine lv_bipush (v := -7) hx hb dX3_read_12 (by decide) ?_
    obtain ⟨hr1, hr2⟩ := si2 hrun
    exact W.iret (v := (-7)) hx hb hr (fun t ht hW => ⟨⟨(-7), (), rfl, hr1, by rw [ht, ← hr2]; exact hP, by rw [← hr2]; exact hD⟩, hS.F ht⟩) hS.2.2 dX3_read_14
def p_X3_rule  (u1 : Int32) (u2 : Int32) (S : (Nat → Ob)) : Option (Int32 × (Nat → Ob)) := (if u1 < nI 0 then (some ((-2), S)) else (if (nI 9) ≤ u1 then (some ((-2), S)) else ((p_X0_mayRule (S 2) u1 u2).bind fun v_3 => (if v_3 = nI 0 then (some ((-2), S)) else ((ldI ((S 2) 2) 9 u1).bind fun v_7 => ((stO (S 2) 2 9 u1 u2).bind fun N_9 => (some (va_up S 2 N_9)).bind fun S_11 => ((p_X3_layNow S_11).bind fun N_14 => (some (v_7, N_14)))))))))
abbrev rmX3_rule : Room := { frames := 5, cells := 0, slots := 0, locals := 114 }
set_option maxHeartbeats 4000000 in
set_option maxRecDepth 100000 in
theorem c_X3_rule (l : Launch) (G : GT) (t : Nat → Nat) (a : Nat → Nat → Nat) (S : Nat → Ob) (u1 u2 : Int32) (sz : Nat) (r0 : Int32) (S0 : (Nat → Ob)) (hrun : p_X3_rule u1 u2 S = some (r0, S0)) : Met l yX3_rule wsX3_rule rmX3_rule (PreU G t [.ref (a 0 0), .int u1, .int u2] (wHM G a S) sz) (QI G r0 (wHM G a S0) (va_A (wHM G a S) sz)) 0 0 (va_A (wHM G a S) sz) := by
  refine Met.ofW (cc := cX3_rule) (maxL := 4) (ret := (some .int)) (by decide) rfl ?_
  intro p e s m args below meth c s₁ Bd hml hv
  obtain ⟨rfl, hsz, hP, hC, hD0, hT1, hT2⟩ := hv
  have hx := Bd.exec
  have hb := Bd.bytes
  have hr := Bd.returns
  have hts := atoms_spec (ws := wsX3_rule) Bd.pre
  have hown : s.vm.findClass RX3 = some m.cls := findClass_of_methodNamed Bd.named
  have hlocks := Bd.notSynchronized
  have hK := hC.1
  have iwX0 : ∀ w ∈ wsX00, w ∈ wsX3_rule := by decide +kernel
  have iwX3 : ∀ w ∈ wsX30, w ∈ wsX3_rule := by decide +kernel
  have ha0 := hts (.fieldLink RX3 19 "HeadMarks" "book" "LHeadMarks$Book;") (by decide +kernel)
  have ha1 := hts (.fieldLink RX3 66 "HeadMarks$Book" "rules" "[I") (by decide +kernel)
  subst hsz
  have hD := hD0.self (sz := s.heap.size)
  generalize hAe : va_A (wHM G a S) s.heap.size = A at hD hT1 hT2 ⊢
  have hA : ∀ q : Nat, s.heap.size ≤ q → A q := fun q h => by rw [← hAe]; exact Or.inr h
  have hS : va_S A s.heap s.heap [] := va_S.rf
  have hl := lv_entry [.ref (a 0 0), .int u1, .int u2] (n := 4) (Nat.le_of_ble_eq_true rfl)
  rw [lg_entry_eq]
  generalize (lg_sl [.ref (a 0 0), .int u1, .int u2] ++ List.replicate (4 - (lg_sl [.ref (a 0 0), .int u1, .int u2]).length) Slot.unset).toArray = ls at hl ⊢
  have hl : lv_has ls 4 [(0, .ref (a 0 0)), (1, .int u1), (2, .int u2)] := hl
  rw [p_X3_rule] at hrun
  refine lv_iload_n hx hb dX3_rule_0 rfl (lv_at hl 1 rfl) ?_
  refine lv_if_lt (tgt := 22) hx hb dX3_rule_1 (by decide) (fun c_1 => ?_) (fun c_1 => ?_)
  · replace hrun := it_pos c_1 hrun
    refine lv_bipush (v := -2) hx hb dX3_rule_22 (by decide) ?_
    obtain ⟨hr1, hr2⟩ := si2 hrun
    exact W.iret (v := (-2)) hx hb hr (fun t ht hW => ⟨⟨(-2), (), rfl, hr1, by rw [ht, ← hr2]; exact hP, by rw [← hr2]; exact hD⟩, hS.F ht⟩) hS.2.2 dX3_rule_24
  · replace hrun := it_neg c_1 hrun
    refine lv_iload_n hx hb dX3_rule_4 rfl (lv_at hl 1 rfl) ?_
    refine lv_bipush (v := nI 9) hx hb dX3_rule_5 (by decide) ?_
    refine lv_icmp_ge (tgt := 22) hx hb dX3_rule_7 (by decide) (fun c_2 => ?_) (fun c_2 => ?_)
    · replace hrun := it_pos c_2 hrun
      refine lv_bipush (v := -2) hx hb dX3_rule_22 (by decide) ?_
      obtain ⟨hr1, hr2⟩ := si2 hrun
      exact W.iret (v := (-2)) hx hb hr (fun t ht hW => ⟨⟨(-2), (), rfl, hr1, by rw [ht, ← hr2]; exact hP, by rw [← hr2]; exact hD⟩, hS.F ht⟩) hS.2.2 dX3_rule_24
    · replace hrun := it_neg c_2 hrun
      refine lv_aload_n hx hb dX3_rule_10 rfl (lv_at hl 0 rfl) ?_
      refine va_get (D := G.1) (ci := 3) (v := .ref ((a 2) 0)) (C := RX3) (T := TX3) (N := 6) hx hb hts iwX3 hown hK hP 0 rfl rfl 1 (by decide) ha0 (fun _ h9 => h9) rfl dX3_rule_11 ?_
      refine lv_iload_n hx hb dX3_rule_14 rfl (lv_at hl 1 rfl) ?_
      refine lv_iload_n hx hb dX3_rule_15 rfl (lv_at hl 2 rfl) ?_
      obtain ⟨v_3, e_4, hrun⟩ := bd hrun
      refine y_roz (va_runV (As := [.int u1, .int u2]) (rest := []) ⟨hx, hb, hml, hown, hts⟩ (c_X0_mayRule l G t (a 2) (S 2) u1 u2 v_3 e_4) (cwV 2 hts gX3_rule_X0_mayRule rfl rfl rfl (by decide +kernel) ⟨Nat.le_of_ble_eq_true rfl, Nat.le_of_ble_eq_true rfl⟩) ⟨PreT.blind, va_recv hK hP (ci := 0) (q0 := 4) rfl rfl, y_preT hC (hP.sub (ws' := wBook G (a 2) (S 2)) [4, 5, 6, 7] rfl) hT1 hT2 hS⟩ rfl rfl hl.1 rfl (lv_room (Nat.le_of_ble_eq_true rfl)) dX3_rule_16 ⟨Nat.zero_le _, Nat.zero_le _⟩) (fun z_5 => ?_)
      refine lv_if_ne (tgt := 25) hx hb dX3_rule_19 (by decide) (fun c_6 => ?_) (fun c_6 => ?_)
      · replace hrun := it_neg c_6 hrun
        refine lv_aload_n hx hb dX3_rule_25 rfl (lv_at hl 0 rfl) ?_
        refine va_get (D := G.1) (ci := 3) (v := .ref ((a 2) 0)) (C := RX3) (T := TX3) (N := 6) hx hb hts iwX3 hown hK hP 0 rfl rfl 1 (by decide) ha0 (fun _ h9 => h9) rfl dX3_rule_26 ?_
        refine va_get (D := G.1) (ci := 0) (v := .ref ((a 2) 3)) (C := RX0) (T := TX0) (N := 4) hx hb hts iwX0 hown hK hP 4 rfl rfl 2 (by decide) ha1 (fun _ h9 => h9) rfl dX3_rule_29 ?_
        refine lv_iload_n hx hb dX3_rule_32 rfl (lv_at hl 1 rfl) ?_
        obtain ⟨v_7, e_8, hrun⟩ := bd hrun
        refine y_ald hx hb hK hP 7 0 rfl rfl e_8 dX3_rule_33 ?_
        refine lv_istore_n (lv' := [(3, .int v_7), (0, .ref (a 0 0)), (1, .int u1), (2, .int u2)]) hx hb dX3_rule_34 rfl hl (by decide) rfl (fun ls hl => ?_)
        refine lv_aload_n hx hb dX3_rule_35 rfl (lv_at hl 1 rfl) ?_
        refine va_get (D := G.1) (ci := 3) (v := .ref ((a 2) 0)) (C := RX3) (T := TX3) (N := 6) hx hb hts iwX3 hown hK hP 0 rfl rfl 1 (by decide) ha0 (fun _ h9 => h9) rfl dX3_rule_36 ?_
        refine va_get (D := G.1) (ci := 0) (v := .ref ((a 2) 3)) (C := RX0) (T := TX0) (N := 4) hx hb hts iwX0 hown hK hP 4 rfl rfl 2 (by decide) ha1 (fun _ h9 => h9) rfl dX3_rule_39 ?_
        refine lv_iload_n hx hb dX3_rule_42 rfl (lv_at hl 2 rfl) ?_
        refine lv_iload_n hx hb dX3_rule_43 rfl (lv_at hl 3 rfl) ?_
        obtain ⟨N_9, e_10, hrun⟩ := bd hrun
        replace e_10 := stO_spec e_10
        obtain ⟨S_11, e_12, hrun⟩ := bd hrun
        replace e_12 := si e_12
        refine va_iast hx hb hK hP hD hS 7 0 rfl rfl e_10.1 dX3_rule_44 (fun H locs hP hD hS => ?_)
        replace hP : va_P G.1 vwCl (wHM G a S_11) H := by rw [← e_12, ← e_10.2]; exact hP
        replace hD : va_D A (wHM G a S_11) := by rw [← e_12, ← e_10.2]; exact hD
        refine lv_aload_n hx hb dX3_rule_45 rfl (lv_at hl 1 rfl) ?_
        obtain ⟨N_14, e_13, hrun⟩ := bd hrun
        have hF := y_all hD hS hA
        refine y_rwv (va_runV (As := []) (rest := []) ⟨hx, hb, hml, hown, hts⟩ (c_X3_layNow l G a S_11  _ N_14 e_13) (cwV 0 hts gX3_rule_X3_layNow rfl rfl rfl (by decide +kernel) ⟨Nat.le_of_ble_eq_true rfl, Nat.le_of_ble_eq_true rfl⟩) ⟨PreW.blind, va_recv hK hP (ci := 3) (q0 := 0) rfl rfl, y_preW hC hP hD⟩ rfl rfl hl.1 rfl (lv_room (Nat.le_of_ble_eq_true rfl)) dX3_rule_46 ⟨Nat.zero_le _, Nat.zero_le _⟩) hS hF (fun H locs hP1 hD1 hk1 hS => ?_)
        replace hP : va_P G.1 vwCl (wHM G a N_14) H := hP1
        replace hD : va_D A (wHM G a N_14) := hD1.weaken (fun _ q _ h => hF q.1 h)
        clear hP1 hD1 hk1 hF
        refine lv_iload_n hx hb dX3_rule_49 rfl (lv_at hl 0 rfl) ?_
        obtain ⟨hr1, hr2⟩ := si2 hrun
        exact W.iret (v := v_7) hx hb hr (fun t ht hW => ⟨⟨v_7, (), rfl, hr1, by rw [ht, ← hr2]; exact hP, by rw [← hr2]; exact hD⟩, hS.F ht⟩) hS.2.2 dX3_rule_50
      · replace hrun := it_pos c_6 hrun
        refine lv_bipush (v := -2) hx hb dX3_rule_22 (by decide) ?_
        obtain ⟨hr1, hr2⟩ := si2 hrun
        exact W.iret (v := (-2)) hx hb hr (fun t ht hW => ⟨⟨(-2), (), rfl, hr1, by rw [ht, ← hr2]; exact hP, by rw [← hr2]; exact hD⟩, hS.F ht⟩) hS.2.2 dX3_rule_24
