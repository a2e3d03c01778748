def p_X4_in  (u0 : Int32) (u1 : Int32) (u2 : Int32)  : Option (Int32) := (if u0 < u1 then (some (nI 0)) else (if u2 < u0 then (some (nI 0)) else (some (nI 1))))
abbrev rmX4_in : Room := { frames := 0, cells := 0, slots := 0, locals := 0 }
set_option maxHeartbeats 4000000 in
set_option maxRecDepth 100000 in
theorem c_X4_in (l : Launch) (G : GT) (u0 u1 u2 : Int32) (r0 : Int32) (hrun : p_X4_in u0 u1 u2 = some r0) : Met l yX4_in wsX4_in rmX4_in (PreR G [.int u0, .int u1, .int u2] ([])) (Rz r0) 0 0 (fun _ => False) := by
  refine Met.ofW (cc := cX4_in) (maxL := 3) (ret := (some .boolean)) (by decide) rfl ?_
  intro p e s m args below meth c s₁ Bd hml hv
  obtain ⟨rfl, hP, hC⟩ := hv
  have hx := Bd.exec
  have hb := Bd.bytes
  have hr := Bd.returns
  have hts := atoms_spec (ws := wsX4_in) Bd.pre
  have hown : s.vm.findClass RX4 = some m.cls := findClass_of_methodNamed Bd.named
  have hlocks := Bd.notSynchronized
  have hK := hC.1
  have hl := lv_entry [.int u0, .int u1, .int u2] (n := 3) (Nat.le_of_ble_eq_true rfl)
  rw [lg_entry_eq]
  generalize (lg_sl [.int u0, .int u1, .int u2] ++ List.replicate (3 - (lg_sl [.int u0, .int u1, .int u2]).length) Slot.unset).toArray = ls at hl ⊢
  have hl : lv_has ls 3 [(0, .int u0), (1, .int u1), (2, .int u2)] := hl
  rw [p_X4_in] at hrun
  refine lv_iload_n hx hb dX4_in_0 rfl (lv_at hl 0 rfl) ?_
  refine lv_iload_n hx hb dX4_in_1 rfl (lv_at hl 1 rfl) ?_
  refine lv_icmp_lt (tgt := 14) hx hb dX4_in_2 (by decide) (fun c_1 => ?_) (fun c_1 => ?_)
  · replace hrun := it_pos c_1 hrun
    refine lv_iconst (v := nI 0) hx hb dX4_in_14 (by decide) ?_
    exact W.zret (v := (nI 0)) hx hb hr (by rfl) (fun t ht hW => ⟨(nI 0), rfl, ⟨si hrun, by rfl⟩, ht⟩) (fun _ h => absurd h List.not_mem_nil) dX4_in_15
  · replace hrun := it_neg c_1 hrun
    refine lv_iload_n hx hb dX4_in_5 rfl (lv_at hl 0 rfl) ?_
    refine lv_iload_n hx hb dX4_in_6 rfl (lv_at hl 2 rfl) ?_
    refine lv_icmp_gt (tgt := 14) hx hb dX4_in_7 (by decide) (fun c_2 => ?_) (fun c_2 => ?_)
    · replace hrun := it_pos c_2 hrun
      refine lv_iconst (v := nI 0) hx hb dX4_in_14 (by decide) ?_
      exact W.zret (v := (nI 0)) hx hb hr (by rfl) (fun t ht hW => ⟨(nI 0), rfl, ⟨si hrun, by rfl⟩, ht⟩) (fun _ h => absurd h List.not_mem_nil) dX4_in_15
    · replace hrun := it_neg c_2 hrun
      refine lv_iconst (v := nI 1) hx hb dX4_in_10 (by decide) ?_
      refine lv_goto (tgt := 15) hx hb dX4_in_11 (by decide) ?_
      exact W.zret (v := (nI 1)) hx hb hr (by rfl) (fun t ht hW => ⟨(nI 1), rfl, ⟨si hrun, by rfl⟩, ht⟩) (fun _ h => absurd h List.not_mem_nil) dX4_in_15
def p_X4_isChapter  (u0 : Int32)  : Option (Int32) := ((p_X4_in u0 (nI 65) (nI 72)).bind fun v_1 => (some v_1))
abbrev rmX4_isChapter : Room := { frames := 1, cells := 0, slots := 0, locals := 22 }
set_option maxHeartbeats 4000000 in
set_option maxRecDepth 100000 in
theorem c_X4_isChapter (l : Launch) (G : GT) (u0 : Int32) (r0 : Int32) (hrun : p_X4_isChapter u0 = some r0) : Met l yX4_isChapter wsX4_isChapter rmX4_isChapter (PreR G [.int u0] ([])) (Rz r0) 0 0 (fun _ => False) := by
  refine Met.ofW (cc := cX4_isChapter) (maxL := 1) (ret := (some .boolean)) (by decide) rfl ?_
  intro p e s m args below meth c s₁ Bd hml hv
  obtain ⟨rfl, hP, hC⟩ := hv
  have hx := Bd.exec
  have hb := Bd.bytes
  have hr := Bd.returns
  have hts := atoms_spec (ws := wsX4_isChapter) Bd.pre
  have hown : s.vm.findClass RX4 = some m.cls := findClass_of_methodNamed Bd.named
  have hlocks := Bd.notSynchronized
  have hK := hC.1
  have hl := lv_entry [.int u0] (n := 1) (Nat.le_of_ble_eq_true rfl)
  rw [lg_entry_eq]
  generalize (lg_sl [.int u0] ++ List.replicate (1 - (lg_sl [.int u0]).length) Slot.unset).toArray = ls at hl ⊢
  have hl : lv_has ls 1 [(0, .int u0)] := hl
  rw [p_X4_isChapter] at hrun
  refine lv_iload_n hx hb dX4_isChapter_0 rfl (lv_at hl 0 rfl) ?_
  refine lv_bipush (v := nI 65) hx hb dX4_isChapter_1 (by decide) ?_
  refine lv_bipush (v := nI 72) hx hb dX4_isChapter_3 (by decide) ?_
  obtain ⟨v_1, e_2, hrun⟩ := bd hrun
  refine y_roz (va_runS (As := [.int u0, .int (nI 65), .int (nI 72)]) (rest := []) ⟨hx, hb, hml, hown, hts⟩ (c_X4_in l G   u0 (nI 65) (nI 72) v_1 e_2) (cwS 3 hts gX4_isChapter_X4_in rfl rfl rfl (by decide +kernel) ⟨Nat.le_of_ble_eq_true rfl, Nat.le_of_ble_eq_true rfl⟩) ⟨PreR.blind, y_preR hC (fun _ _ h => by cases h)⟩ rfl rfl hl.1 rfl (lv_room (Nat.le_of_ble_eq_true rfl)) dX4_isChapter_5 ⟨Nat.zero_le _, Nat.zero_le _⟩) (fun z_3 => ?_)
  exact W.zret (v := v_1) hx hb hr z_3 (fun t ht hW => ⟨v_1, rfl, ⟨si hrun, z_3⟩, ht⟩) (fun _ h => absurd h List.not_mem_nil) dX4_isChapter_8
def p_X4_isSection  (u0 : Int32)  : Option (Int32) := ((p_X4_in u0 (nI 97) (nI 104)).bind fun v_1 => (some v_1))
abbrev rmX4_isSection : Room := { frames := 1, cells := 0, slots := 0, locals := 22 }
set_option maxHeartbeats 4000000 in
set_option maxRecDepth 100000 in
theorem c_X4_isSection (l : Launch) (G : GT) (u0 : Int32) (r0 : Int32) (hrun : p_X4_isSection u0 = some r0) : Met l yX4_isSection wsX4_isSection rmX4_isSection (PreR G [.int u0] ([])) (Rz r0) 0 0 (fun _ => False) := by
  refine Met.ofW (cc := cX4_isSection) (maxL := 1) (ret := (some .boolean)) (by decide) rfl ?_
  intro p e s m args below meth c s₁ Bd hml hv
  obtain ⟨rfl, hP, hC⟩ := hv
  have hx := Bd.exec
  have hb := Bd.bytes
  have hr := Bd.returns
  have hts := atoms_spec (ws := wsX4_isSection) Bd.pre
  have hown : s.vm.findClass RX4 = some m.cls := findClass_of_methodNamed Bd.named
  have hlocks := Bd.notSynchronized
  have hK := hC.1
  have hl := lv_entry [.int u0] (n := 1) (Nat.le_of_ble_eq_true rfl)
  rw [lg_entry_eq]
  generalize (lg_sl [.int u0] ++ List.replicate (1 - (lg_sl [.int u0]).length) Slot.unset).toArray = ls at hl ⊢
  have hl : lv_has ls 1 [(0, .int u0)] := hl
  rw [p_X4_isSection] at hrun
  refine lv_iload_n hx hb dX4_isSection_0 rfl (lv_at hl 0 rfl) ?_
  refine lv_bipush (v := nI 97) hx hb dX4_isSection_1 (by decide) ?_
  refine lv_bipush (v := nI 104) hx hb dX4_isSection_3 (by decide) ?_
  obtain ⟨v_1, e_2, hrun⟩ := bd hrun
  refine y_roz (va_runS (As := [.int u0, .int (nI 97), .int (nI 104)]) (rest := []) ⟨hx, hb, hml, hown, hts⟩ (c_X4_in l G   u0 (nI 97) (nI 104) v_1 e_2) (cwS 3 hts gX4_isSection_X4_in rfl rfl rfl (by decide +kernel) ⟨Nat.le_of_ble_eq_true rfl, Nat.le_of_ble_eq_true rfl⟩) ⟨PreR.blind, y_preR hC (fun _ _ h => by cases h)⟩ rfl rfl hl.1 rfl (lv_room (Nat.le_of_ble_eq_true rfl)) dX4_isSection_5 ⟨Nat.zero_le _, Nat.zero_le _⟩) (fun z_3 => ?_)
  exact W.zret (v := v_1) hx hb hr z_3 (fun t ht hW => ⟨v_1, rfl, ⟨si hrun, z_3⟩, ht⟩) (fun _ h => absurd h List.not_mem_nil) dX4_isSection_8
def p_X4_least  (u0 : Int32)  : Option (Int32) := (if u0 = nI 0 then (some (nI 2)) else (some (nI 0)))
abbrev rmX4_least : Room := { frames := 0, cells := 0, slots := 0, locals := 0 }
set_option maxHeartbeats 4000000 in
set_option maxRecDepth 100000 in
theorem c_X4_least (l : Launch) (G : GT) (u0 : Int32) (r0 : Int32) (hrun : p_X4_least u0 = some r0) : Met l yX4_least wsX4_least rmX4_least (PreR G [.int u0] ([])) (Ri r0) 0 0 (fun _ => False) := by
  refine Met.ofW (cc := cX4_least) (maxL := 1) (ret := (some .int)) (by decide) rfl ?_
  intro p e s m args below meth c s₁ Bd hml hv
  obtain ⟨rfl, hP, hC⟩ := hv
  have hx := Bd.exec
  have hb := Bd.bytes
  have hr := Bd.returns
  have hts := atoms_spec (ws := wsX4_least) Bd.pre
  have hown : s.vm.findClass RX4 = some m.cls := findClass_of_methodNamed Bd.named
  have hlocks := Bd.notSynchronized
  have hK := hC.1
  have hl := lv_entry [.int u0] (n := 1) (Nat.le_of_ble_eq_true rfl)
  rw [lg_entry_eq]
  generalize (lg_sl [.int u0] ++ List.replicate (1 - (lg_sl [.int u0]).length) Slot.unset).toArray = ls at hl ⊢
  have hl : lv_has ls 1 [(0, .int u0)] := hl
  rw [p_X4_least] at hrun
  refine lv_iload_n hx hb dX4_least_0 rfl (lv_at hl 0 rfl) ?_
  refine lv_if_ne (tgt := 8) hx hb dX4_least_1 (by decide) (fun c_1 => ?_) (fun c_1 => ?_)
  · replace hrun := it_neg c_1 hrun
    refine lv_iconst (v := nI 0) hx hb dX4_least_8 (by decide) ?_
    exact W.iret (v := (nI 0)) hx hb hr (fun t ht hW => ⟨(nI 0), rfl, si hrun, ht⟩) (fun _ h => absurd h List.not_mem_nil) dX4_least_9
  · replace hrun := it_pos c_1 hrun
    refine lv_iconst (v := nI 2) hx hb dX4_least_4 (by decide) ?_
    refine lv_goto (tgt := 9) hx hb dX4_least_5 (by decide) ?_
    exact W.iret (v := (nI 2)) hx hb hr (fun t ht hW => ⟨(nI 2), rfl, si hrun, ht⟩) (fun _ h => absurd h List.not_mem_nil) dX4_least_9
def p_X4_most  (u0 : Int32)  : Option (Int32) := (if u0 = nI 0 then (some (nI 9)) else (if u0 = nI 1 then (some (nI 2)) else (if u0 = nI 2 then (some (nI 2)) else (if u0 = nI 3 then (some (nI 1)) else (if u0 = nI 4 then (some (nI 1)) else (if u0 = nI 5 then (some (nI 1)) else (if u0 = nI 6 then (some (nI 1)) else (if u0 = nI 7 then (some (nI 2)) else (if u0 = nI 8 then (some (nI 2)) else (some (nI 1)))))))))))
abbrev rmX4_most : Room := { frames := 0, cells := 0, slots := 0, locals := 0 }
set_option maxHeartbeats 4000000 in
set_option maxRecDepth 100000 in
theorem c_X4_most (l : Launch) (G : GT) (u0 : Int32) (r0 : Int32) (hrun : p_X4_most u0 = some r0) : Met l yX4_most wsX4_most rmX4_most (PreR G [.int u0] ([])) (Ri r0) 0 0 (fun _ => False) := by
  refine Met.ofW (cc := cX4_most) (maxL := 1) (ret := (some .int)) (by decide) rfl ?_
  intro p e s m args below meth c s₁ Bd hml hv
  obtain ⟨rfl, hP, hC⟩ := hv
  have hx := Bd.exec
  have hb := Bd.bytes
  have hr := Bd.returns
  have hts := atoms_spec (ws := wsX4_most) Bd.pre
  have hown : s.vm.findClass RX4 = some m.cls := findClass_of_methodNamed Bd.named
  have hlocks := Bd.notSynchronized
  have hK := hC.1
  have hl := lv_entry [.int u0] (n := 1) (Nat.le_of_ble_eq_true rfl)
  rw [lg_entry_eq]
  generalize (lg_sl [.int u0] ++ List.replicate (1 - (lg_sl [.int u0]).length) Slot.unset).toArray = ls at hl ⊢
  have hl : lv_has ls 1 [(0, .int u0)] := hl
  rw [p_X4_most] at hrun
  refine lv_iload_n hx hb dX4_most_0 rfl (lv_at hl 0 rfl) ?_
  by_cases c_1 : u0 = nI 0
  · replace hrun := it_pos c_1 hrun
    refine lv_tableIn (tgt := 52) hx hb dX4_most_1 (by rw [c_1]; decide) (by rw [c_1]; decide) (off := 51) (by rw [c_1]; rfl) (by decide) ?_
    refine lv_bipush (v := nI 9) hx hb dX4_most_52 (by decide) ?_
    exact W.iret (v := (nI 9)) hx hb hr (fun t ht hW => ⟨(nI 9), rfl, si hrun, ht⟩) (fun _ h => absurd h List.not_mem_nil) dX4_most_54
  · replace hrun := it_neg c_1 hrun
    by_cases c_2 : u0 = nI 1
    · replace hrun := it_pos c_2 hrun
      refine lv_tableIn (tgt := 55) hx hb dX4_most_1 (by rw [c_2]; decide) (by rw [c_2]; decide) (off := 54) (by rw [c_2]; rfl) (by decide) ?_
      refine lv_iconst (v := nI 2) hx hb dX4_most_55 (by decide) ?_
      exact W.iret (v := (nI 2)) hx hb hr (fun t ht hW => ⟨(nI 2), rfl, si hrun, ht⟩) (fun _ h => absurd h List.not_mem_nil) dX4_most_56
    · replace hrun := it_neg c_2 hrun
      by_cases c_3 : u0 = nI 2
      · replace hrun := it_pos c_3 hrun
        refine lv_tableIn (tgt := 55) hx hb dX4_most_1 (by rw [c_3]; decide) (by rw [c_3]; decide) (off := 54) (by rw [c_3]; rfl) (by decide) ?_
        refine lv_iconst (v := nI 2) hx hb dX4_most_55 (by decide) ?_
        exact W.iret (v := (nI 2)) hx hb hr (fun t ht hW => ⟨(nI 2), rfl, si hrun, ht⟩) (fun _ h => absurd h List.not_mem_nil) dX4_most_56
      · replace hrun := it_neg c_3 hrun
        by_cases c_4 : u0 = nI 3
        · replace hrun := it_pos c_4 hrun
          refine lv_tableIn (tgt := 57) hx hb dX4_most_1 (by rw [c_4]; decide) (by rw [c_4]; decide) (off := 56) (by rw [c_4]; rfl) (by decide) ?_
          refine lv_iconst (v := nI 1) hx hb dX4_most_57 (by decide) ?_
          exact W.iret (v := (nI 1)) hx hb hr (fun t ht hW => ⟨(nI 1), rfl, si hrun, ht⟩) (fun _ h => absurd h List.not_mem_nil) dX4_most_58
        · replace hrun := it_neg c_4 hrun
          by_cases c_5 : u0 = nI 4
          · replace hrun := it_pos c_5 hrun
            refine lv_tableIn (tgt := 57) hx hb dX4_most_1 (by rw [c_5]; decide) (by rw [c_5]; decide) (off := 56) (by rw [c_5]; rfl) (by decide) ?_
            refine lv_iconst (v := nI 1) hx hb dX4_most_57 (by decide) ?_
            exact W.iret (v := (nI 1)) hx hb hr (fun t ht hW => ⟨(nI 1), rfl, si hrun, ht⟩) (fun _ h => absurd h List.not_mem_nil) dX4_most_58
          · replace hrun := it_neg c_5 hrun
            by_cases c_6 : u0 = nI 5
            · replace hrun := it_pos c_6 hrun
              refine lv_tableIn (tgt := 57) hx hb dX4_most_1 (by rw [c_6]; decide) (by rw [c_6]; decide) (off := 56) (by rw [c_6]; rfl) (by decide) ?_
              refine lv_iconst (v := nI 1) hx hb dX4_most_57 (by decide) ?_
              exact W.iret (v := (nI 1)) hx hb hr (fun t ht hW => ⟨(nI 1), rfl, si hrun, ht⟩) (fun _ h => absurd h List.not_mem_nil) dX4_most_58
            · replace hrun := it_neg c_6 hrun
              by_cases c_7 : u0 = nI 6
              · replace hrun := it_pos c_7 hrun
                refine lv_tableIn (tgt := 57) hx hb dX4_most_1 (by rw [c_7]; decide) (by rw [c_7]; decide) (off := 56) (by rw [c_7]; rfl) (by decide) ?_
                refine lv_iconst (v := nI 1) hx hb dX4_most_57 (by decide) ?_
                exact W.iret (v := (nI 1)) hx hb hr (fun t ht hW => ⟨(nI 1), rfl, si hrun, ht⟩) (fun _ h => absurd h List.not_mem_nil) dX4_most_58
              · replace hrun := it_neg c_7 hrun
                by_cases c_8 : u0 = nI 7
                · replace hrun := it_pos c_8 hrun
                  refine lv_tableIn (tgt := 55) hx hb dX4_most_1 (by rw [c_8]; decide) (by rw [c_8]; decide) (off := 54) (by rw [c_8]; rfl) (by decide) ?_
                  refine lv_iconst (v := nI 2) hx hb dX4_most_55 (by decide) ?_
                  exact W.iret (v := (nI 2)) hx hb hr (fun t ht hW => ⟨(nI 2), rfl, si hrun, ht⟩) (fun _ h => absurd h List.not_mem_nil) dX4_most_56
                · replace hrun := it_neg c_8 hrun
                  by_cases c_9 : u0 = nI 8
                  · replace hrun := it_pos c_9 hrun
                    refine lv_tableIn (tgt := 55) hx hb dX4_most_1 (by rw [c_9]; decide) (by rw [c_9]; decide) (off := 54) (by rw [c_9]; rfl) (by decide) ?_
                    refine lv_iconst (v := nI 2) hx hb dX4_most_55 (by decide) ?_
                    exact W.iret (v := (nI 2)) hx hb hr (fun t ht hW => ⟨(nI 2), rfl, si hrun, ht⟩) (fun _ h => absurd h List.not_mem_nil) dX4_most_56
                  · replace hrun := it_neg c_9 hrun
                    refine lv_tableOut (tgt := 57) hx hb dX4_most_1 (tb_out (n := 9) (by decide) (fun k hk => by rcases (show k = 0 ∨ k = 1 ∨ k = 2 ∨ k = 3 ∨ k = 4 ∨ k = 5 ∨ k = 6 ∨ k = 7 ∨ k = 8 by omega) with rfl | rfl | rfl | rfl | rfl | rfl | rfl | rfl | rfl <;> first | exact c_1 | exact c_2 | exact c_3 | exact c_4 | exact c_5 | exact c_6 | exact c_7 | exact c_8 | exact c_9) (by decide)) (by decide) ?_
                    refine lv_iconst (v := nI 1) hx hb dX4_most_57 (by decide) ?_
                    exact W.iret (v := (nI 1)) hx hb hr (fun t ht hW => ⟨(nI 1), rfl, si hrun, ht⟩) (fun _ h => absurd h List.not_mem_nil) dX4_most_58
def p_X4_many (M : Ob)   : Option (Int32) := ((ldI (M 0) 130 (nI 120)).bind fun v_1 => (some v_1))
abbrev rmX4_many : Room := { frames := 0, cells := 0, slots := 0, locals := 0 }
set_option maxHeartbeats 4000000 in
set_option maxRecDepth 100000 in
theorem c_X4_many (l : Launch) (G : GT) (am : Nat → Nat) (M : Ob) (r0 : Int32) (hrun : p_X4_many M = some r0) : Met l yX4_many wsX4_many rmX4_many (PreR G [.ref (am 0)] (wMod G am M)) (Ri r0) 0 0 (fun _ => False) := by
  refine Met.ofW (cc := cX4_many) (maxL := 1) (ret := (some .int)) (by decide) rfl ?_
  intro p e s m args below meth c s₁ Bd hml hv
  obtain ⟨rfl, hP, hC⟩ := hv
  have hx := Bd.exec
  have hb := Bd.bytes
  have hr := Bd.returns
  have hts := atoms_spec (ws := wsX4_many) Bd.pre
  have hown : s.vm.findClass RX4 = some m.cls := findClass_of_methodNamed Bd.named
  have hlocks := Bd.notSynchronized
  have hK := hC.1
  have iwX4 : ∀ w ∈ wsX40, w ∈ wsX4_many := by decide +kernel
  have ha0 := hts (.fieldLink RX4 7 "HeadMarksModel" "state" "[I") (by decide +kernel)
  have hl := lv_entry [.ref (am 0)] (n := 1) (Nat.le_of_ble_eq_true rfl)
  rw [lg_entry_eq]
  generalize (lg_sl [.ref (am 0)] ++ List.replicate (1 - (lg_sl [.ref (am 0)]).length) Slot.unset).toArray = ls at hl ⊢
  have hl : lv_has ls 1 [(0, .ref (am 0))] := hl
  rw [p_X4_many] at hrun
  refine lv_aload_n hx hb dX4_many_0 rfl (lv_at hl 0 rfl) ?_
  refine va_get (D := G.1) (ci := 4) (v := .ref (am 1)) (C := RX4) (T := TX4) (N := 12) hx hb hts iwX4 hown hK hP 0 rfl rfl 0 (by decide) ha0 (fun _ h9 => h9) rfl dX4_many_1 ?_
  refine lv_bipush (v := nI 120) hx hb dX4_many_4 (by decide) ?_
  obtain ⟨v_1, e_2, hrun⟩ := bd hrun
  refine y_ald hx hb hK hP 1 0 rfl rfl e_2 dX4_many_6 ?_
  exact W.iret (v := v_1) hx hb hr (fun t ht hW => ⟨v_1, rfl, si hrun, ht⟩) (fun _ h => absurd h List.not_mem_nil) dX4_many_7
def p_X4_isLine (M : Ob) (u1 : Int32)  : Option (Int32) := ((p_X4_many M).bind fun v_1 => ((p_X4_in u1 (nI 0) (v_1 - (nI 1))).bind fun v_3 => (some v_3)))
abbrev rmX4_isLine : Room := { frames := 1, cells := 0, slots := 0, locals := 22 }
set_option maxHeartbeats 4000000 in
set_option maxRecDepth 100000 in
theorem c_X4_isLine (l : Launch) (G : GT) (am : Nat → Nat) (M : Ob) (u1 : Int32) (r0 : Int32) (hrun : p_X4_isLine M u1 = some r0) : Met l yX4_isLine wsX4_isLine rmX4_isLine (PreR G [.ref (am 0), .int u1] (wMod G am M)) (Rz r0) 0 0 (fun _ => False) := by
  refine Met.ofW (cc := cX4_isLine) (maxL := 2) (ret := (some .boolean)) (by decide) rfl ?_
  intro p e s m args below meth c s₁ Bd hml hv
  obtain ⟨rfl, hP, hC⟩ := hv
  have hx := Bd.exec
  have hb := Bd.bytes
  have hr := Bd.returns
  have hts := atoms_spec (ws := wsX4_isLine) Bd.pre
  have hown : s.vm.findClass RX4 = some m.cls := findClass_of_methodNamed Bd.named
  have hlocks := Bd.notSynchronized
  have hK := hC.1
  have hl := lv_entry [.ref (am 0), .int u1] (n := 2) (Nat.le_of_ble_eq_true rfl)
  rw [lg_entry_eq]
  generalize (lg_sl [.ref (am 0), .int u1] ++ List.replicate (2 - (lg_sl [.ref (am 0), .int u1]).length) Slot.unset).toArray = ls at hl ⊢
  have hl : lv_has ls 2 [(0, .ref (am 0)), (1, .int u1)] := hl
  rw [p_X4_isLine] at hrun
  refine lv_iload_n hx hb dX4_isLine_0 rfl (lv_at hl 1 rfl) ?_
  refine lv_iconst (v := nI 0) hx hb dX4_isLine_1 (by decide) ?_
  refine lv_aload_n hx hb dX4_isLine_2 rfl (lv_at hl 0 rfl) ?_
  obtain ⟨v_1, e_2, hrun⟩ := bd hrun
  refine y_ro (va_runV (As := []) (rest := [.int (nI 0), .int u1]) ⟨hx, hb, hml, hown, hts⟩ (c_X4_many l G am M  v_1 e_2) (cwV 0 hts gX4_isLine_X4_many rfl rfl rfl (by decide +kernel) ⟨Nat.le_of_ble_eq_true rfl, Nat.le_of_ble_eq_true rfl⟩) ⟨PreR.blind, va_recv hK hP (ci := 4) (q0 := 0) rfl rfl, y_preR hC hP⟩ rfl rfl hl.1 rfl (lv_room (Nat.le_of_ble_eq_true rfl)) dX4_isLine_3 ⟨Nat.zero_le _, Nat.zero_le _⟩) ?_
  refine lv_iconst (v := nI 1) hx hb dX4_isLine_6 (by decide) ?_
  refine lv_isub hx hb dX4_isLine_7 ?_
  obtain ⟨v_3, e_4, hrun⟩ := bd hrun
  refine y_roz (va_runS (As := [.int u1, .int (nI 0), .int (v_1 - (nI 1))]) (rest := []) ⟨hx, hb, hml, hown, hts⟩ (c_X4_in l G   u1 (nI 0) (v_1 - (nI 1)) v_3 e_4) (cwS 3 hts gX4_isLine_X4_in rfl rfl rfl (by decide +kernel) ⟨Nat.le_of_ble_eq_true rfl, Nat.le_of_ble_eq_true rfl⟩) ⟨PreR.blind, y_preR hC (fun _ _ h => by cases h)⟩ rfl rfl hl.1 rfl (lv_room (Nat.le_of_ble_eq_true rfl)) dX4_isLine_8 ⟨Nat.zero_le _, Nat.zero_le _⟩) (fun z_5 => ?_)
  exact W.zret (v := v_3) hx hb hr z_5 (fun t ht hW => ⟨v_3, rfl, ⟨si hrun, z_5⟩, ht⟩) (fun _ h => absurd h List.not_mem_nil) dX4_isLine_11
def p_X4_canStand_69 (M : Ob)   : Option (Int32) := (some (nI 1))
def p_X4_canStand (M : Ob) (u1 : Int32)  : Option (Int32) := ((ldI (M 3) 60 u1).bind fun v_1 => (if v_1 = (nI 47) then (if u1 ≤ nI 0 then (some (nI 0)) else ((ldI (M 3) 60 (u1 - (nI 1))).bind fun v_20 => (if v_20 = (nI 47) then (some (nI 0)) else (some (nI 1))))) else ((ldI (M 3) 60 u1).bind fun v_4 => (if v_4 = (nI 46) then p_X4_canStand_69 M else ((ldI (M 3) 60 u1).bind fun v_7 => ((p_X4_isChapter v_7).bind fun v_9 => (if v_9 = nI 0 then ((ldI (M 3) 60 u1).bind fun v_13 => ((p_X4_isSection v_13).bind fun v_15 => (if v_15 = nI 0 then (some (nI 0)) else p_X4_canStand_69 M))) else p_X4_canStand_69 M)))))))
abbrev rmX4_canStand : Room := { frames := 2, cells := 0, slots := 0, locals := 42 }
set_option maxHeartbeats 4000000 in
set_option maxRecDepth 100000 in
theorem c_X4_canStand (l : Launch) (G : GT) (am : Nat → Nat) (M : Ob) (u1 : Int32) (r0 : Int32) (hrun : p_X4_canStand M u1 = some r0) : Met l yX4_canStand wsX4_canStand rmX4_canStand (PreR G [.ref (am 0), .int u1] (wMod G am M)) (Rz r0) 0 0 (fun _ => False) := by
  refine Met.ofW (cc := cX4_canStand) (maxL := 2) (ret := (some .boolean)) (by decide) rfl ?_
  intro p e s m args below meth c s₁ Bd hml hv
  obtain ⟨rfl, hP, hC⟩ := hv
  have hx := Bd.exec
  have hb := Bd.bytes
  have hr := Bd.returns
  have hts := atoms_spec (ws := wsX4_canStand) Bd.pre
  have hown : s.vm.findClass RX4 = some m.cls := findClass_of_methodNamed Bd.named
  have hlocks := Bd.notSynchronized
  have hK := hC.1
  have iwX4 : ∀ w ∈ wsX40, w ∈ wsX4_canStand := by decide +kernel
  have ha0 := hts (.fieldLink RX4 20 "HeadMarksModel" "pad" "[I") (by decide +kernel)
  have kJ_69 : ∀ (ls : Array Slot), lv_has ls 2 [] → p_X4_canStand_69 M = some r0 → W p l e (headSpec wsX4_canStand rmX4_canStand).room s m ([.ref (am 0), .int u1] : List Value).toArray below meth c s.heap [] 0 0 (MQ below (Rz r0) ([.ref (am 0), .int u1] : List Value).toArray s 0 0 (fun _ => False)) (F0 m 69 ls []) := by
    intro  ls hl hrun
    rw [p_X4_canStand_69] at hrun
    refine lv_iconst (v := nI 1) hx hb dX4_canStand_69 (by decide) ?_
    refine lv_goto (tgt := 74) hx hb dX4_canStand_70 (by decide) ?_
    exact W.zret (v := (nI 1)) hx hb hr (by rfl) (fun t ht hW => ⟨(nI 1), rfl, ⟨si hrun, by rfl⟩, ht⟩) (fun _ h => absurd h List.not_mem_nil) dX4_canStand_74
  have hl := lv_entry [.ref (am 0), .int u1] (n := 2) (Nat.le_of_ble_eq_true rfl)
  rw [lg_entry_eq]
  generalize (lg_sl [.ref (am 0), .int u1] ++ List.replicate (2 - (lg_sl [.ref (am 0), .int u1]).length) Slot.unset).toArray = ls at hl ⊢
  have hl : lv_has ls 2 [(0, .ref (am 0)), (1, .int u1)] := hl
  rw [p_X4_canStand] at hrun
  refine lv_aload_n hx hb dX4_canStand_0 rfl (lv_at hl 0 rfl) ?_
  refine va_get (D := G.1) (ci := 4) (v := .ref (am 4)) (C := RX4) (T := TX4) (N := 12) hx hb hts iwX4 hown hK hP 0 rfl rfl 3 (by decide) ha0 (fun _ h9 => h9) rfl dX4_canStand_1 ?_
  refine lv_iload_n hx hb dX4_canStand_4 rfl (lv_at hl 1 rfl) ?_
  obtain ⟨v_1, e_2, hrun⟩ := bd hrun
  refine y_ald hx hb hK hP 4 0 rfl rfl e_2 dX4_canStand_5 ?_
  refine lv_bipush (v := nI 47) hx hb dX4_canStand_6 (by decide) ?_
  refine lv_icmp_ne (tgt := 34) hx hb dX4_canStand_8 (by decide) (fun c_3 => ?_) (fun c_3 => ?_)
  · replace hrun := it_neg c_3 hrun
    refine lv_aload_n hx hb dX4_canStand_34 rfl (lv_at hl 0 rfl) ?_
    refine va_get (D := G.1) (ci := 4) (v := .ref (am 4)) (C := RX4) (T := TX4) (N := 12) hx hb hts iwX4 hown hK hP 0 rfl rfl 3 (by decide) ha0 (fun _ h9 => h9) rfl dX4_canStand_35 ?_
    refine lv_iload_n hx hb dX4_canStand_38 rfl (lv_at hl 1 rfl) ?_
    obtain ⟨v_4, e_5, hrun⟩ := bd hrun
    refine y_ald hx hb hK hP 4 0 rfl rfl e_5 dX4_canStand_39 ?_
    refine lv_bipush (v := nI 46) hx hb dX4_canStand_40 (by decide) ?_
    refine lv_icmp_eq (tgt := 69) hx hb dX4_canStand_42 (by decide) (fun c_6 => ?_) (fun c_6 => ?_)
    · replace hrun := it_pos c_6 hrun
      exact kJ_69   ls (lv_sub hl [] rfl) hrun
    · replace hrun := it_neg c_6 hrun
      refine lv_aload_n hx hb dX4_canStand_45 rfl (lv_at hl 0 rfl) ?_
      refine va_get (D := G.1) (ci := 4) (v := .ref (am 4)) (C := RX4) (T := TX4) (N := 12) hx hb hts iwX4 hown hK hP 0 rfl rfl 3 (by decide) ha0 (fun _ h9 => h9) rfl dX4_canStand_46 ?_
      refine lv_iload_n hx hb dX4_canStand_49 rfl (lv_at hl 1 rfl) ?_
      obtain ⟨v_7, e_8, hrun⟩ := bd hrun
      refine y_ald hx hb hK hP 4 0 rfl rfl e_8 dX4_canStand_50 ?_
      obtain ⟨v_9, e_10, hrun⟩ := bd hrun
      refine y_roz (va_runS (As := [.int v_7]) (rest := []) ⟨hx, hb, hml, hown, hts⟩ (c_X4_isChapter l G   v_7 v_9 e_10) (cwS 1 hts gX4_canStand_X4_isChapter rfl rfl rfl (by decide +kernel) ⟨Nat.le_of_ble_eq_true rfl, Nat.le_of_ble_eq_true rfl⟩) ⟨PreR.blind, y_preR hC (fun _ _ h => by cases h)⟩ rfl rfl hl.1 rfl (lv_room (Nat.le_of_ble_eq_true rfl)) dX4_canStand_51 ⟨Nat.zero_le _, Nat.zero_le _⟩) (fun z_11 => ?_)
      refine lv_if_ne (tgt := 69) hx hb dX4_canStand_54 (by decide) (fun c_12 => ?_) (fun c_12 => ?_)
      · replace hrun := it_neg c_12 hrun
        exact kJ_69   ls (lv_sub hl [] rfl) hrun
      · replace hrun := it_pos c_12 hrun
        refine lv_aload_n hx hb dX4_canStand_57 rfl (lv_at hl 0 rfl) ?_
        refine va_get (D := G.1) (ci := 4) (v := .ref (am 4)) (C := RX4) (T := TX4) (N := 12) hx hb hts iwX4 hown hK hP 0 rfl rfl 3 (by decide) ha0 (fun _ h9 => h9) rfl dX4_canStand_58 ?_
        refine lv_iload_n hx hb dX4_canStand_61 rfl (lv_at hl 1 rfl) ?_
        obtain ⟨v_13, e_14, hrun⟩ := bd hrun
        refine y_ald hx hb hK hP 4 0 rfl rfl e_14 dX4_canStand_62 ?_
        obtain ⟨v_15, e_16, hrun⟩ := bd hrun
        refine y_roz (va_runS (As := [.int v_13]) (rest := []) ⟨hx, hb, hml, hown, hts⟩ (c_X4_isSection l G   v_13 v_15 e_16) (cwS 1 hts gX4_canStand_X4_isSection rfl rfl rfl (by decide +kernel) ⟨Nat.le_of_ble_eq_true rfl, Nat.le_of_ble_eq_true rfl⟩) ⟨PreR.blind, y_preR hC (fun _ _ h => by cases h)⟩ rfl rfl hl.1 rfl (lv_room (Nat.le_of_ble_eq_true rfl)) dX4_canStand_63 ⟨Nat.zero_le _, Nat.zero_le _⟩) (fun z_17 => ?_)
        refine lv_if_eq (tgt := 73) hx hb dX4_canStand_66 (by decide) (fun c_18 => ?_) (fun c_18 => ?_)
        · replace hrun := it_pos c_18 hrun
          refine lv_iconst (v := nI 0) hx hb dX4_canStand_73 (by decide) ?_
          exact W.zret (v := (nI 0)) hx hb hr (by rfl) (fun t ht hW => ⟨(nI 0), rfl, ⟨si hrun, by rfl⟩, ht⟩) (fun _ h => absurd h List.not_mem_nil) dX4_canStand_74
        · replace hrun := it_neg c_18 hrun
          exact kJ_69   ls (lv_sub hl [] rfl) hrun
  · replace hrun := it_pos c_3 hrun
    refine lv_iload_n hx hb dX4_canStand_11 rfl (lv_at hl 1 rfl) ?_
    refine lv_if_le (tgt := 32) hx hb dX4_canStand_12 (by decide) (fun c_19 => ?_) (fun c_19 => ?_)
    · replace hrun := it_pos c_19 hrun
      refine lv_iconst (v := nI 0) hx hb dX4_canStand_32 (by decide) ?_
      exact W.zret (v := (nI 0)) hx hb hr (by rfl) (fun t ht hW => ⟨(nI 0), rfl, ⟨si hrun, by rfl⟩, ht⟩) (fun _ h => absurd h List.not_mem_nil) dX4_canStand_33
    · replace hrun := it_neg c_19 hrun
      refine lv_aload_n hx hb dX4_canStand_15 rfl (lv_at hl 0 rfl) ?_
      refine va_get (D := G.1) (ci := 4) (v := .ref (am 4)) (C := RX4) (T := TX4) (N := 12) hx hb hts iwX4 hown hK hP 0 rfl rfl 3 (by decide) ha0 (fun _ h9 => h9) rfl dX4_canStand_16 ?_
      refine lv_iload_n hx hb dX4_canStand_19 rfl (lv_at hl 1 rfl) ?_
      refine lv_iconst (v := nI 1) hx hb dX4_canStand_20 (by decide) ?_
      refine lv_isub hx hb dX4_canStand_21 ?_
      obtain ⟨v_20, e_21, hrun⟩ := bd hrun
      refine y_ald hx hb hK hP 4 0 rfl rfl e_21 dX4_canStand_22 ?_
      refine lv_bipush (v := nI 47) hx hb dX4_canStand_23 (by decide) ?_
      refine lv_icmp_eq (tgt := 32) hx hb dX4_canStand_25 (by decide) (fun c_22 => ?_) (fun c_22 => ?_)
      · replace hrun := it_pos c_22 hrun
        refine lv_iconst (v := nI 0) hx hb dX4_canStand_32 (by decide) ?_
        exact W.zret (v := (nI 0)) hx hb hr (by rfl) (fun t ht hW => ⟨(nI 0), rfl, ⟨si hrun, by rfl⟩, ht⟩) (fun _ h => absurd h List.not_mem_nil) dX4_canStand_33
      · replace hrun := it_neg c_22 hrun
        refine lv_iconst (v := nI 1) hx hb dX4_canStand_28 (by decide) ?_
        refine lv_goto (tgt := 33) hx hb dX4_canStand_29 (by decide) ?_
        exact W.zret (v := (nI 1)) hx hb hr (by rfl) (fun t ht hW => ⟨(nI 1), rfl, ⟨si hrun, by rfl⟩, ht⟩) (fun _ h => absurd h List.not_mem_nil) dX4_canStand_33
def p_X4_fault_2 (M : Ob) : Nat → Int32 → Option (Int32)
  | 0, _ => none
  | n + 1, x1 => (if (M 4 0) ≤ x1 then (if (M 4 0) ≤ nI 0 then (some (-6)) else ((ldI (M 3) 60 ((M 4 0) - (nI 1))).bind fun v_3 => (if v_3 = (nI 47) then (some (M 4 0)) else (some (-6))))) else ((p_X4_canStand M x1).bind fun v_6 => (if v_6 = nI 0 then (some x1) else p_X4_fault_2 M n (x1 + nI 1))))
def p_X4_fault (M : Ob)   : Option (Int32) := p_X4_fault_2 M 200 (nI 0)
abbrev rmX4_fault : Room := { frames := 3, cells := 0, slots := 0, locals := 63 }
set_option maxHeartbeats 4000000 in
set_option maxRecDepth 100000 in
theorem c_X4_fault (l : Launch) (G : GT) (am : Nat → Nat) (M : Ob) (r0 : Int32) (hrun : p_X4_fault M = some r0) : Met l yX4_fault wsX4_fault rmX4_fault (PreR G [.ref (am 0)] (wMod G am M)) (Ri r0) 0 0 (fun _ => False) := by
  refine Met.ofW (cc := cX4_fault) (maxL := 2) (ret := (some .int)) (by decide) rfl ?_
  intro p e s m args below meth c s₁ Bd hml hv
  obtain ⟨rfl, hP, hC⟩ := hv
  have hx := Bd.exec
  have hb := Bd.bytes
  have hr := Bd.returns
  have hts := atoms_spec (ws := wsX4_fault) Bd.pre
  have hown : s.vm.findClass RX4 = some m.cls := findClass_of_methodNamed Bd.named
  have hlocks := Bd.notSynchronized
  have hK := hC.1
  have iwX4 : ∀ w ∈ wsX40, w ∈ wsX4_fault := by decide +kernel
  have ha0 := hts (.fieldLink RX4 49 "HeadMarksModel" "said" "I") (by decide +kernel)
  have ha1 := hts (.fieldLink RX4 20 "HeadMarksModel" "pad" "[I") (by decide +kernel)
  have kH_2 : ∀ (n : Nat) (x1 : Int32) , ∀ (ls : Array Slot), lv_has ls 2 [(0, .ref (am 0)), (1, .int x1)] → p_X4_fault_2 M n x1 = some r0 → W p l e (headSpec wsX4_fault rmX4_fault).room s m ([.ref (am 0)] : List Value).toArray below meth c s.heap [] 0 0 (MQ below (Ri r0) ([.ref (am 0)] : List Value).toArray s 0 0 (fun _ => False)) (F0 m 2 ls []) := by
    intro n
    induction n with
    | zero => intro x1 ls hl hrun; exact absurd (hrun : (none : Option (Int32)) = some r0) (fun h => by cases h)
    | succ n ih =>
      intro x1 ls hl hrun
      rw [p_X4_fault_2] at hrun
      refine lv_iload_n hx hb dX4_fault_2 rfl (lv_at hl 1 rfl) ?_
      refine lv_aload_n hx hb dX4_fault_3 rfl (lv_at hl 0 rfl) ?_
      refine va_get (D := G.1) (ci := 4) (v := .int (M 4 0)) (C := RX4) (T := TX4) (N := 12) hx hb hts iwX4 hown hK hP 0 rfl rfl 4 (by decide) ha0 (fun _ h9 => h9) rfl dX4_fault_4 ?_
      refine lv_icmp_ge (tgt := 26) hx hb dX4_fault_7 (by decide) (fun c_1 => ?_) (fun c_1 => ?_)
      · replace hrun := it_pos c_1 hrun
        refine lv_aload_n hx hb dX4_fault_26 rfl (lv_at hl 0 rfl) ?_
        refine va_get (D := G.1) (ci := 4) (v := .int (M 4 0)) (C := RX4) (T := TX4) (N := 12) hx hb hts iwX4 hown hK hP 0 rfl rfl 4 (by decide) ha0 (fun _ h9 => h9) rfl dX4_fault_27 ?_
        refine lv_if_le (tgt := 56) hx hb dX4_fault_30 (by decide) (fun c_2 => ?_) (fun c_2 => ?_)
        · replace hrun := it_pos c_2 hrun
          refine lv_bipush (v := -6) hx hb dX4_fault_56 (by decide) ?_
          exact W.iret (v := (-6)) hx hb hr (fun t ht hW => ⟨(-6), rfl, si hrun, ht⟩) (fun _ h => absurd h List.not_mem_nil) dX4_fault_58
        · replace hrun := it_neg c_2 hrun
          refine lv_aload_n hx hb dX4_fault_33 rfl (lv_at hl 0 rfl) ?_
          refine va_get (D := G.1) (ci := 4) (v := .ref (am 4)) (C := RX4) (T := TX4) (N := 12) hx hb hts iwX4 hown hK hP 0 rfl rfl 3 (by decide) ha1 (fun _ h9 => h9) rfl dX4_fault_34 ?_
          refine lv_aload_n hx hb dX4_fault_37 rfl (lv_at hl 0 rfl) ?_
          refine va_get (D := G.1) (ci := 4) (v := .int (M 4 0)) (C := RX4) (T := TX4) (N := 12) hx hb hts iwX4 hown hK hP 0 rfl rfl 4 (by decide) ha0 (fun _ h9 => h9) rfl dX4_fault_38 ?_
          refine lv_iconst (v := nI 1) hx hb dX4_fault_41 (by decide) ?_
          refine lv_isub hx hb dX4_fault_42 ?_
          obtain ⟨v_3, e_4, hrun⟩ := bd hrun
          refine y_ald hx hb hK hP 4 0 rfl rfl e_4 dX4_fault_43 ?_
          refine lv_bipush (v := nI 47) hx hb dX4_fault_44 (by decide) ?_
          refine lv_icmp_ne (tgt := 56) hx hb dX4_fault_46 (by decide) (fun c_5 => ?_) (fun c_5 => ?_)
          · replace hrun := it_neg c_5 hrun
            refine lv_bipush (v := -6) hx hb dX4_fault_56 (by decide) ?_
            exact W.iret (v := (-6)) hx hb hr (fun t ht hW => ⟨(-6), rfl, si hrun, ht⟩) (fun _ h => absurd h List.not_mem_nil) dX4_fault_58
          · replace hrun := it_pos c_5 hrun
            refine lv_aload_n hx hb dX4_fault_49 rfl (lv_at hl 0 rfl) ?_
            refine va_get (D := G.1) (ci := 4) (v := .int (M 4 0)) (C := RX4) (T := TX4) (N := 12) hx hb hts iwX4 hown hK hP 0 rfl rfl 4 (by decide) ha0 (fun _ h9 => h9) rfl dX4_fault_50 ?_
            refine lv_goto (tgt := 58) hx hb dX4_fault_53 (by decide) ?_
            exact W.iret (v := (M 4 0)) hx hb hr (fun t ht hW => ⟨(M 4 0), rfl, si hrun, ht⟩) (fun _ h => absurd h List.not_mem_nil) dX4_fault_58
      · replace hrun := it_neg c_1 hrun
        refine lv_aload_n hx hb dX4_fault_10 rfl (lv_at hl 0 rfl) ?_
        refine lv_iload_n hx hb dX4_fault_11 rfl (lv_at hl 1 rfl) ?_
        obtain ⟨v_6, e_7, hrun⟩ := bd hrun
        refine y_roz (va_runV (As := [.int x1]) (rest := []) ⟨hx, hb, hml, hown, hts⟩ (c_X4_canStand l G am M x1 v_6 e_7) (cwV 1 hts gX4_fault_X4_canStand rfl rfl rfl (by decide +kernel) ⟨Nat.le_of_ble_eq_true rfl, Nat.le_of_ble_eq_true rfl⟩) ⟨PreR.blind, va_recv hK hP (ci := 4) (q0 := 0) rfl rfl, y_preR hC hP⟩ rfl rfl hl.1 rfl (lv_room (Nat.le_of_ble_eq_true rfl)) dX4_fault_12 ⟨Nat.zero_le _, Nat.zero_le _⟩) (fun z_8 => ?_)
        refine lv_if_ne (tgt := 20) hx hb dX4_fault_15 (by decide) (fun c_9 => ?_) (fun c_9 => ?_)
        · replace hrun := it_neg c_9 hrun
          refine lv_iinc (v := (x1 + nI 1)) (lv' := [(1, .int (x1 + nI 1)), (0, .ref (am 0))]) hx hb dX4_fault_20 hl (k := 1) rfl rfl (by decide) rfl (fun ls hl => ?_)
          refine lv_goto (tgt := 2) hx hb dX4_fault_23 (by decide) ?_
          exact ih (x1 + nI 1)  ls (lv_sub hl [1, 0] rfl) hrun
        · replace hrun := it_pos c_9 hrun
          refine lv_iload_n hx hb dX4_fault_18 rfl (lv_at hl 1 rfl) ?_
          exact W.iret (v := x1) hx hb hr (fun t ht hW => ⟨x1, rfl, si hrun, ht⟩) (fun _ h => absurd h List.not_mem_nil) dX4_fault_19
  have hl := lv_entry [.ref (am 0)] (n := 2) (Nat.le_of_ble_eq_true rfl)
  rw [lg_entry_eq]
  generalize (lg_sl [.ref (am 0)] ++ List.replicate (2 - (lg_sl [.ref (am 0)]).length) Slot.unset).toArray = ls at hl ⊢
  have hl : lv_has ls 2 [(0, .ref (am 0))] := hl
  rw [p_X4_fault] at hrun
  refine lv_iconst (v := nI 0) hx hb dX4_fault_0 (by decide) ?_
  refine lv_istore_n (lv' := [(1, .int (nI 0)), (0, .ref (am 0))]) hx hb dX4_fault_1 rfl hl (by decide) rfl (fun ls hl => ?_)
  exact kH_2 200 (nI 0)  ls (lv_sub hl [1, 0] rfl) hrun
def p_X4_breaks_4 (M : Ob) : Nat → Int32 → Int32 → Option (Int32)
  | 0, _, _ => none
  | n + 1, x1, x2 => ((p_X4_many M).bind fun v_1 => (if v_1 ≤ x2 then (some x1) else ((ldI (M 0) 130 ((nI 60) + x2)).bind fun v_4 => p_X4_breaks_4 M n (x1 + v_4) (x2 + nI 1))))
def p_X4_breaks (M : Ob)   : Option (Int32) := p_X4_breaks_4 M 200 (nI 0) (nI 0)
abbrev rmX4_breaks : Room := { frames := 1, cells := 0, slots := 0, locals := 20 }
set_option maxHeartbeats 4000000 in
set_option maxRecDepth 100000 in
theorem c_X4_breaks (l : Launch) (G : GT) (am : Nat → Nat) (M : Ob) (r0 : Int32) (hrun : p_X4_breaks M = some r0) : Met l yX4_breaks wsX4_breaks rmX4_breaks (PreR G [.ref (am 0)] (wMod G am M)) (Ri r0) 0 0 (fun _ => False) := by
  refine Met.ofW (cc := cX4_breaks) (maxL := 3) (ret := (some .int)) (by decide) rfl ?_
  intro p e s m args below meth c s₁ Bd hml hv
  obtain ⟨rfl, hP, hC⟩ := hv
  have hx := Bd.exec
  have hb := Bd.bytes
  have hr := Bd.returns
  have hts := atoms_spec (ws := wsX4_breaks) Bd.pre
  have hown : s.vm.findClass RX4 = some m.cls := findClass_of_methodNamed Bd.named
  have hlocks := Bd.notSynchronized
  have hK := hC.1
  have iwX4 : ∀ w ∈ wsX40, w ∈ wsX4_breaks := by decide +kernel
  have ha0 := hts (.fieldLink RX4 7 "HeadMarksModel" "state" "[I") (by decide +kernel)
  have kH_4 : ∀ (n : Nat) (x1 x2 : Int32) , ∀ (ls : Array Slot), lv_has ls 3 [(0, .ref (am 0)), (1, .int x1), (2, .int x2)] → p_X4_breaks_4 M n x1 x2 = some r0 → W p l e (headSpec wsX4_breaks rmX4_breaks).room s m ([.ref (am 0)] : List Value).toArray below meth c s.heap [] 0 0 (MQ below (Ri r0) ([.ref (am 0)] : List Value).toArray s 0 0 (fun _ => False)) (F0 m 4 ls []) := by
    intro n
    induction n with
    | zero => intro x1 x2 ls hl hrun; exact absurd (hrun : (none : Option (Int32)) = some r0) (fun h => by cases h)
    | succ n ih =>
      intro x1 x2 ls hl hrun
      rw [p_X4_breaks_4] at hrun
      refine lv_iload_n hx hb dX4_breaks_4 rfl (lv_at hl 2 rfl) ?_
      refine lv_aload_n hx hb dX4_breaks_5 rfl (lv_at hl 0 rfl) ?_
      obtain ⟨v_1, e_2, hrun⟩ := bd hrun
      refine y_ro (va_runV (As := []) (rest := [.int x2]) ⟨hx, hb, hml, hown, hts⟩ (c_X4_many l G am M  v_1 e_2) (cwV 0 hts gX4_breaks_X4_many rfl rfl rfl (by decide +kernel) ⟨Nat.le_of_ble_eq_true rfl, Nat.le_of_ble_eq_true rfl⟩) ⟨PreR.blind, va_recv hK hP (ci := 4) (q0 := 0) rfl rfl, y_preR hC hP⟩ rfl rfl hl.1 rfl (lv_room (Nat.le_of_ble_eq_true rfl)) dX4_breaks_6 ⟨Nat.zero_le _, Nat.zero_le _⟩) ?_
      refine lv_icmp_ge (tgt := 30) hx hb dX4_breaks_9 (by decide) (fun c_3 => ?_) (fun c_3 => ?_)
      · replace hrun := it_pos c_3 hrun
        refine lv_iload_n hx hb dX4_breaks_30 rfl (lv_at hl 1 rfl) ?_
        exact W.iret (v := x1) hx hb hr (fun t ht hW => ⟨x1, rfl, si hrun, ht⟩) (fun _ h => absurd h List.not_mem_nil) dX4_breaks_31
      · replace hrun := it_neg c_3 hrun
        refine lv_iload_n hx hb dX4_breaks_12 rfl (lv_at hl 1 rfl) ?_
        refine lv_aload_n hx hb dX4_breaks_13 rfl (lv_at hl 0 rfl) ?_
        refine va_get (D := G.1) (ci := 4) (v := .ref (am 1)) (C := RX4) (T := TX4) (N := 12) hx hb hts iwX4 hown hK hP 0 rfl rfl 0 (by decide) ha0 (fun _ h9 => h9) rfl dX4_breaks_14 ?_
        refine lv_bipush (v := nI 60) hx hb dX4_breaks_17 (by decide) ?_
        refine lv_iload_n hx hb dX4_breaks_19 rfl (lv_at hl 2 rfl) ?_
        refine lv_iadd hx hb dX4_breaks_20 ?_
        obtain ⟨v_4, e_5, hrun⟩ := bd hrun
        refine y_ald hx hb hK hP 1 0 rfl rfl e_5 dX4_breaks_21 ?_
        refine lv_iadd hx hb dX4_breaks_22 ?_
        refine lv_istore_n (lv' := [(1, .int (x1 + v_4)), (0, .ref (am 0)), (2, .int x2)]) hx hb dX4_breaks_23 rfl hl (by decide) rfl (fun ls hl => ?_)
        refine lv_iinc (v := (x2 + nI 1)) (lv' := [(2, .int (x2 + nI 1)), (1, .int (x1 + v_4)), (0, .ref (am 0))]) hx hb dX4_breaks_24 hl (k := 2) rfl rfl (by decide) rfl (fun ls hl => ?_)
        refine lv_goto (tgt := 4) hx hb dX4_breaks_27 (by decide) ?_
        exact ih (x1 + v_4) (x2 + nI 1)  ls (lv_sub hl [2, 1, 0] rfl) hrun
  have hl := lv_entry [.ref (am 0)] (n := 3) (Nat.le_of_ble_eq_true rfl)
  rw [lg_entry_eq]
  generalize (lg_sl [.ref (am 0)] ++ List.replicate (3 - (lg_sl [.ref (am 0)]).length) Slot.unset).toArray = ls at hl ⊢
  have hl : lv_has ls 3 [(0, .ref (am 0))] := hl
  rw [p_X4_breaks] at hrun
  refine lv_iconst (v := nI 0) hx hb dX4_breaks_0 (by decide) ?_
  refine lv_istore_n (lv' := [(1, .int (nI 0)), (0, .ref (am 0))]) hx hb dX4_breaks_1 rfl hl (by decide) rfl (fun ls hl => ?_)
  refine lv_iconst (v := nI 0) hx hb dX4_breaks_2 (by decide) ?_
  refine lv_istore_n (lv' := [(2, .int (nI 0)), (1, .int (nI 0)), (0, .ref (am 0))]) hx hb dX4_breaks_3 rfl hl (by decide) rfl (fun ls hl => ?_)
  exact kH_4 200 (nI 0) (nI 0)  ls (lv_sub hl [2, 1, 0] rfl) hrun
def p_X4_isNew_54 (M : Ob) (x2 : Int32) (x3 : Int32)  : Option (Int32) := (if x3 = nI 0 then (some (nI 0)) else ((ldI (M 0) 130 (nI 121)).bind fun v_17 => ((ldI (M 0) 130 (nI 123)).bind fun v_19 => (if v_19 ≤ ((v_17 - x2) - (nI 1)) then (some (nI 0)) else (some (nI 1))))))
def p_X4_isNew (M : Ob) (u1 : Int32) (u2 : Int32)  : Option (Int32) := ((ldI (M 0) 130 ((nI 0) + u1)).bind fun v_1 => ((ldI (M 0) 130 (nI 121)).bind fun v_3 => (if u2 = v_3 then (some (nI 1)) else ((ldI (M 0) 130 ((nI 60) + u1)).bind fun v_6 => (if v_6 = (nI 1) then (some (nI 1)) else ((p_X4_isChapter v_1).bind fun v_9 => (if v_9 = nI 0 then p_X4_isNew_54 M u2 v_1 else ((ldI (M 0) 130 (nI 122)).bind fun v_13 => (if v_13 ≤ nI 0 then p_X4_isNew_54 M u2 v_1 else (some (nI 1)))))))))))
abbrev rmX4_isNew : Room := { frames := 2, cells := 0, slots := 0, locals := 42 }
set_option maxHeartbeats 4000000 in
set_option maxRecDepth 100000 in
theorem c_X4_isNew (l : Launch) (G : GT) (am : Nat → Nat) (M : Ob) (u1 u2 : Int32) (r0 : Int32) (hrun : p_X4_isNew M u1 u2 = some r0) : Met l yX4_isNew wsX4_isNew rmX4_isNew (PreR G [.ref (am 0), .int u1, .int u2] (wMod G am M)) (Rz r0) 0 0 (fun _ => False) := by
  refine Met.ofW (cc := cX4_isNew) (maxL := 4) (ret := (some .boolean)) (by decide) rfl ?_
  intro p e s m args below meth c s₁ Bd hml hv
  obtain ⟨rfl, hP, hC⟩ := hv
  have hx := Bd.exec
  have hb := Bd.bytes
  have hr := Bd.returns
  have hts := atoms_spec (ws := wsX4_isNew) Bd.pre
  have hown : s.vm.findClass RX4 = some m.cls := findClass_of_methodNamed Bd.named
  have hlocks := Bd.notSynchronized
  have hK := hC.1
  have iwX4 : ∀ w ∈ wsX40, w ∈ wsX4_isNew := by decide +kernel
  have ha0 := hts (.fieldLink RX4 7 "HeadMarksModel" "state" "[I") (by decide +kernel)
  have kJ_54 : ∀ (x2 x3 : Int32) , ∀ (ls : Array Slot), lv_has ls 4 [(0, .ref (am 0)), (2, .int x2), (3, .int x3)] → p_X4_isNew_54 M x2 x3 = some r0 → W p l e (headSpec wsX4_isNew rmX4_isNew).room s m ([.ref (am 0), .int u1, .int u2] : List Value).toArray below meth c s.heap [] 0 0 (MQ below (Rz r0) ([.ref (am 0), .int u1, .int u2] : List Value).toArray s 0 0 (fun _ => False)) (F0 m 54 ls []) := by
    intro x2 x3 ls hl hrun
    rw [p_X4_isNew_54] at hrun
    refine lv_iload_n hx hb dX4_isNew_54 rfl (lv_at hl 2 rfl) ?_
    refine lv_if_eq (tgt := 83) hx hb dX4_isNew_55 (by decide) (fun c_16 => ?_) (fun c_16 => ?_)
    · replace hrun := it_pos c_16 hrun
      refine lv_iconst (v := nI 0) hx hb dX4_isNew_83 (by decide) ?_
      exact W.zret (v := (nI 0)) hx hb hr (by rfl) (fun t ht hW => ⟨(nI 0), rfl, ⟨si hrun, by rfl⟩, ht⟩) (fun _ h => absurd h List.not_mem_nil) dX4_isNew_84
    · replace hrun := it_neg c_16 hrun
      refine lv_aload_n hx hb dX4_isNew_58 rfl (lv_at hl 0 rfl) ?_
      refine va_get (D := G.1) (ci := 4) (v := .ref (am 1)) (C := RX4) (T := TX4) (N := 12) hx hb hts iwX4 hown hK hP 0 rfl rfl 0 (by decide) ha0 (fun _ h9 => h9) rfl dX4_isNew_59 ?_
      refine lv_bipush (v := nI 121) hx hb dX4_isNew_62 (by decide) ?_
      obtain ⟨v_17, e_18, hrun⟩ := bd hrun
      refine y_ald hx hb hK hP 1 0 rfl rfl e_18 dX4_isNew_64 ?_
      refine lv_iload_n hx hb dX4_isNew_65 rfl (lv_at hl 1 rfl) ?_
      refine lv_isub hx hb dX4_isNew_66 ?_
      refine lv_iconst (v := nI 1) hx hb dX4_isNew_67 (by decide) ?_
      refine lv_isub hx hb dX4_isNew_68 ?_
      refine lv_aload_n hx hb dX4_isNew_69 rfl (lv_at hl 0 rfl) ?_
      refine va_get (D := G.1) (ci := 4) (v := .ref (am 1)) (C := RX4) (T := TX4) (N := 12) hx hb hts iwX4 hown hK hP 0 rfl rfl 0 (by decide) ha0 (fun _ h9 => h9) rfl dX4_isNew_70 ?_
      refine lv_bipush (v := nI 123) hx hb dX4_isNew_73 (by decide) ?_
      obtain ⟨v_19, e_20, hrun⟩ := bd hrun
      refine y_ald hx hb hK hP 1 0 rfl rfl e_20 dX4_isNew_75 ?_
      refine lv_icmp_ge (tgt := 83) hx hb dX4_isNew_76 (by decide) (fun c_21 => ?_) (fun c_21 => ?_)
      · replace hrun := it_pos c_21 hrun
        refine lv_iconst (v := nI 0) hx hb dX4_isNew_83 (by decide) ?_
        exact W.zret (v := (nI 0)) hx hb hr (by rfl) (fun t ht hW => ⟨(nI 0), rfl, ⟨si hrun, by rfl⟩, ht⟩) (fun _ h => absurd h List.not_mem_nil) dX4_isNew_84
      · replace hrun := it_neg c_21 hrun
        refine lv_iconst (v := nI 1) hx hb dX4_isNew_79 (by decide) ?_
        refine lv_goto (tgt := 84) hx hb dX4_isNew_80 (by decide) ?_
        exact W.zret (v := (nI 1)) hx hb hr (by rfl) (fun t ht hW => ⟨(nI 1), rfl, ⟨si hrun, by rfl⟩, ht⟩) (fun _ h => absurd h List.not_mem_nil) dX4_isNew_84
  have hl := lv_entry [.ref (am 0), .int u1, .int u2] (n := 4) (Nat.le_of_ble_eq_true rfl)
  rw [lg_entry_eq]
  generalize (lg_sl [.ref (am 0), .int u1, .int u2] ++ List.replicate (4 - (lg_sl [.ref (am 0), .int u1, .int u2]).length) Slot.unset).toArray = ls at hl ⊢
  have hl : lv_has ls 4 [(0, .ref (am 0)), (1, .int u1), (2, .int u2)] := hl
  rw [p_X4_isNew] at hrun
  refine lv_aload_n hx hb dX4_isNew_0 rfl (lv_at hl 0 rfl) ?_
  refine va_get (D := G.1) (ci := 4) (v := .ref (am 1)) (C := RX4) (T := TX4) (N := 12) hx hb hts iwX4 hown hK hP 0 rfl rfl 0 (by decide) ha0 (fun _ h9 => h9) rfl dX4_isNew_1 ?_
  refine lv_iconst (v := nI 0) hx hb dX4_isNew_4 (by decide) ?_
  refine lv_iload_n hx hb dX4_isNew_5 rfl (lv_at hl 1 rfl) ?_
  refine lv_iadd hx hb dX4_isNew_6 ?_
  obtain ⟨v_1, e_2, hrun⟩ := bd hrun
  refine y_ald hx hb hK hP 1 0 rfl rfl e_2 dX4_isNew_7 ?_
  refine lv_istore_n (lv' := [(3, .int v_1), (0, .ref (am 0)), (1, .int u1), (2, .int u2)]) hx hb dX4_isNew_8 rfl hl (by decide) rfl (fun ls hl => ?_)
  refine lv_iload_n hx hb dX4_isNew_9 rfl (lv_at hl 3 rfl) ?_
  refine lv_aload_n hx hb dX4_isNew_10 rfl (lv_at hl 1 rfl) ?_
  refine va_get (D := G.1) (ci := 4) (v := .ref (am 1)) (C := RX4) (T := TX4) (N := 12) hx hb hts iwX4 hown hK hP 0 rfl rfl 0 (by decide) ha0 (fun _ h9 => h9) rfl dX4_isNew_11 ?_
  refine lv_bipush (v := nI 121) hx hb dX4_isNew_14 (by decide) ?_
  obtain ⟨v_3, e_4, hrun⟩ := bd hrun
  refine y_ald hx hb hK hP 1 0 rfl rfl e_4 dX4_isNew_16 ?_
  refine lv_icmp_eq (tgt := 33) hx hb dX4_isNew_17 (by decide) (fun c_5 => ?_) (fun c_5 => ?_)
  · replace hrun := it_pos c_5 hrun
    refine lv_iconst (v := nI 1) hx hb dX4_isNew_33 (by decide) ?_
    exact W.zret (v := (nI 1)) hx hb hr (by rfl) (fun t ht hW => ⟨(nI 1), rfl, ⟨si hrun, by rfl⟩, ht⟩) (fun _ h => absurd h List.not_mem_nil) dX4_isNew_34
  · replace hrun := it_neg c_5 hrun
    refine lv_aload_n hx hb dX4_isNew_20 rfl (lv_at hl 1 rfl) ?_
    refine va_get (D := G.1) (ci := 4) (v := .ref (am 1)) (C := RX4) (T := TX4) (N := 12) hx hb hts iwX4 hown hK hP 0 rfl rfl 0 (by decide) ha0 (fun _ h9 => h9) rfl dX4_isNew_21 ?_
    refine lv_bipush (v := nI 60) hx hb dX4_isNew_24 (by decide) ?_
    refine lv_iload_n hx hb dX4_isNew_26 rfl (lv_at hl 2 rfl) ?_
    refine lv_iadd hx hb dX4_isNew_27 ?_
    obtain ⟨v_6, e_7, hrun⟩ := bd hrun
    refine y_ald hx hb hK hP 1 0 rfl rfl e_7 dX4_isNew_28 ?_
    refine lv_iconst (v := nI 1) hx hb dX4_isNew_29 (by decide) ?_
    refine lv_icmp_ne (tgt := 35) hx hb dX4_isNew_30 (by decide) (fun c_8 => ?_) (fun c_8 => ?_)
    · replace hrun := it_neg c_8 hrun
      refine lv_iload_n hx hb dX4_isNew_35 rfl (lv_at hl 0 rfl) ?_
      obtain ⟨v_9, e_10, hrun⟩ := bd hrun
      refine y_roz (va_runS (As := [.int v_1]) (rest := []) ⟨hx, hb, hml, hown, hts⟩ (c_X4_isChapter l G   v_1 v_9 e_10) (cwS 1 hts gX4_isNew_X4_isChapter rfl rfl rfl (by decide +kernel) ⟨Nat.le_of_ble_eq_true rfl, Nat.le_of_ble_eq_true rfl⟩) ⟨PreR.blind, y_preR hC (fun _ _ h => by cases h)⟩ rfl rfl hl.1 rfl (lv_room (Nat.le_of_ble_eq_true rfl)) dX4_isNew_36 ⟨Nat.zero_le _, Nat.zero_le _⟩) (fun z_11 => ?_)
      refine lv_if_eq (tgt := 54) hx hb dX4_isNew_39 (by decide) (fun c_12 => ?_) (fun c_12 => ?_)
      · replace hrun := it_pos c_12 hrun
        exact kJ_54 u2 v_1  ls (lv_sub hl [1, 3, 0] rfl) hrun
      · replace hrun := it_neg c_12 hrun
        refine lv_aload_n hx hb dX4_isNew_42 rfl (lv_at hl 1 rfl) ?_
        refine va_get (D := G.1) (ci := 4) (v := .ref (am 1)) (C := RX4) (T := TX4) (N := 12) hx hb hts iwX4 hown hK hP 0 rfl rfl 0 (by decide) ha0 (fun _ h9 => h9) rfl dX4_isNew_43 ?_
        refine lv_bipush (v := nI 122) hx hb dX4_isNew_46 (by decide) ?_
        obtain ⟨v_13, e_14, hrun⟩ := bd hrun
        refine y_ald hx hb hK hP 1 0 rfl rfl e_14 dX4_isNew_48 ?_
        refine lv_if_le (tgt := 54) hx hb dX4_isNew_49 (by decide) (fun c_15 => ?_) (fun c_15 => ?_)
        · replace hrun := it_pos c_15 hrun
          exact kJ_54 u2 v_1  ls (lv_sub hl [1, 3, 0] rfl) hrun
        · replace hrun := it_neg c_15 hrun
          refine lv_iconst (v := nI 1) hx hb dX4_isNew_52 (by decide) ?_
          exact W.zret (v := (nI 1)) hx hb hr (by rfl) (fun t ht hW => ⟨(nI 1), rfl, ⟨si hrun, by rfl⟩, ht⟩) (fun _ h => absurd h List.not_mem_nil) dX4_isNew_53
    · replace hrun := it_pos c_8 hrun
      refine lv_iconst (v := nI 1) hx hb dX4_isNew_33 (by decide) ?_
      exact W.zret (v := (nI 1)) hx hb hr (by rfl) (fun t ht hW => ⟨(nI 1), rfl, ⟨si hrun, by rfl⟩, ht⟩) (fun _ h => absurd h List.not_mem_nil) dX4_isNew_34
def p_X4_isPage (M : Ob) (u1 : Int32)  : Option (Int32) := ((p_X4_in u1 (nI 1) (M 10 0)).bind fun v_1 => (some v_1))
abbrev rmX4_isPage : Room := { frames := 1, cells := 0, slots := 0, locals := 22 }
set_option maxHeartbeats 4000000 in
set_option maxRecDepth 100000 in
theorem c_X4_isPage (l : Launch) (G : GT) (am : Nat → Nat) (M : Ob) (u1 : Int32) (r0 : Int32) (hrun : p_X4_isPage M u1 = some r0) : Met l yX4_isPage wsX4_isPage rmX4_isPage (PreR G [.ref (am 0), .int u1] (wMod G am M)) (Rz r0) 0 0 (fun _ => False) := by
  refine Met.ofW (cc := cX4_isPage) (maxL := 2) (ret := (some .boolean)) (by decide) rfl ?_
  intro p e s m args below meth c s₁ Bd hml hv
  obtain ⟨rfl, hP, hC⟩ := hv
  have hx := Bd.exec
  have hb := Bd.bytes
  have hr := Bd.returns
  have hts := atoms_spec (ws := wsX4_isPage) Bd.pre
  have hown : s.vm.findClass RX4 = some m.cls := findClass_of_methodNamed Bd.named
  have hlocks := Bd.notSynchronized
  have hK := hC.1
  have iwX4 : ∀ w ∈ wsX40, w ∈ wsX4_isPage := by decide +kernel
  have ha0 := hts (.fieldLink RX4 76 "HeadMarksModel" "pages" "I") (by decide +kernel)
  have hl := lv_entry [.ref (am 0), .int u1] (n := 2) (Nat.le_of_ble_eq_true rfl)
  rw [lg_entry_eq]
  generalize (lg_sl [.ref (am 0), .int u1] ++ List.replicate (2 - (lg_sl [.ref (am 0), .int u1]).length) Slot.unset).toArray = ls at hl ⊢
  have hl : lv_has ls 2 [(0, .ref (am 0)), (1, .int u1)] := hl
  rw [p_X4_isPage] at hrun
  refine lv_iload_n hx hb dX4_isPage_0 rfl (lv_at hl 1 rfl) ?_
  refine lv_iconst (v := nI 1) hx hb dX4_isPage_1 (by decide) ?_
  refine lv_aload_n hx hb dX4_isPage_2 rfl (lv_at hl 0 rfl) ?_
  refine va_get (D := G.1) (ci := 4) (v := .int (M 10 0)) (C := RX4) (T := TX4) (N := 12) hx hb hts iwX4 hown hK hP 0 rfl rfl 10 (by decide) ha0 (fun _ h9 => h9) rfl dX4_isPage_3 ?_
  obtain ⟨v_1, e_2, hrun⟩ := bd hrun
  refine y_roz (va_runS (As := [.int u1, .int (nI 1), .int (M 10 0)]) (rest := []) ⟨hx, hb, hml, hown, hts⟩ (c_X4_in l G   u1 (nI 1) (M 10 0) v_1 e_2) (cwS 3 hts gX4_isPage_X4_in rfl rfl rfl (by decide +kernel) ⟨Nat.le_of_ble_eq_true rfl, Nat.le_of_ble_eq_true rfl⟩) ⟨PreR.blind, y_preR hC (fun _ _ h => by cases h)⟩ rfl rfl hl.1 rfl (lv_room (Nat.le_of_ble_eq_true rfl)) dX4_isPage_6 ⟨Nat.zero_le _, Nat.zero_le _⟩) (fun z_3 => ?_)
  exact W.zret (v := v_1) hx hb hr z_3 (fun t ht hW => ⟨v_1, rfl, ⟨si hrun, z_3⟩, ht⟩) (fun _ h => absurd h List.not_mem_nil) dX4_isPage_9
def p_X4_breakMark (M : Ob) (u1 : Int32) (u2 : Int32)  : Option (Int32) := (if nI 0 ≤ u1 then ((ldI (M 7) 120 (((nI 2) * u1) + u2)).bind fun v_2 => (some v_2)) else (some (-6)))
abbrev rmX4_breakMark : Room := { frames := 0, cells := 0, slots := 0, locals := 0 }
set_option maxHeartbeats 4000000 in
set_option maxRecDepth 100000 in
theorem c_X4_breakMark (l : Launch) (G : GT) (am : Nat → Nat) (M : Ob) (u1 u2 : Int32) (r0 : Int32) (hrun : p_X4_breakMark M u1 u2 = some r0) : Met l yX4_breakMark wsX4_breakMark rmX4_breakMark (PreR G [.ref (am 0), .int u1, .int u2] (wMod G am M)) (Ri r0) 0 0 (fun _ => False) := by
  refine Met.ofW (cc := cX4_breakMark) (maxL := 3) (ret := (some .int)) (by decide) rfl ?_
  intro p e s m args below meth c s₁ Bd hml hv
  obtain ⟨rfl, hP, hC⟩ := hv
  have hx := Bd.exec
  have hb := Bd.bytes
  have hr := Bd.returns
  have hts := atoms_spec (ws := wsX4_breakMark) Bd.pre
  have hown : s.vm.findClass RX4 = some m.cls := findClass_of_methodNamed Bd.named
  have hlocks := Bd.notSynchronized
  have hK := hC.1
  have iwX4 : ∀ w ∈ wsX40, w ∈ wsX4_breakMark := by decide +kernel
  have ha0 := hts (.fieldLink RX4 29 "HeadMarksModel" "force" "[I") (by decide +kernel)
  have hl := lv_entry [.ref (am 0), .int u1, .int u2] (n := 3) (Nat.le_of_ble_eq_true rfl)
  rw [lg_entry_eq]
  generalize (lg_sl [.ref (am 0), .int u1, .int u2] ++ List.replicate (3 - (lg_sl [.ref (am 0), .int u1, .int u2]).length) Slot.unset).toArray = ls at hl ⊢
  have hl : lv_has ls 3 [(0, .ref (am 0)), (1, .int u1), (2, .int u2)] := hl
  rw [p_X4_breakMark] at hrun
  refine lv_iload_n hx hb dX4_breakMark_0 rfl (lv_at hl 1 rfl) ?_
  refine lv_if_ge (tgt := 9) hx hb dX4_breakMark_1 (by decide) (fun c_1 => ?_) (fun c_1 => ?_)
  · replace hrun := it_pos c_1 hrun
    refine lv_aload_n hx hb dX4_breakMark_9 rfl (lv_at hl 0 rfl) ?_
    refine va_get (D := G.1) (ci := 4) (v := .ref (am 7)) (C := RX4) (T := TX4) (N := 12) hx hb hts iwX4 hown hK hP 0 rfl rfl 7 (by decide) ha0 (fun _ h9 => h9) rfl dX4_breakMark_10 ?_
    refine lv_iconst (v := nI 2) hx hb dX4_breakMark_13 (by decide) ?_
    refine lv_iload_n hx hb dX4_breakMark_14 rfl (lv_at hl 1 rfl) ?_
    refine lv_imul hx hb dX4_breakMark_15 ?_
    refine lv_iload_n hx hb dX4_breakMark_16 rfl (lv_at hl 2 rfl) ?_
    refine lv_iadd hx hb dX4_breakMark_17 ?_
    obtain ⟨v_2, e_3, hrun⟩ := bd hrun
    refine y_ald hx hb hK hP 7 0 rfl rfl e_3 dX4_breakMark_18 ?_
    exact W.iret (v := v_2) hx hb hr (fun t ht hW => ⟨v_2, rfl, si hrun, ht⟩) (fun _ h => absurd h List.not_mem_nil) dX4_breakMark_19
  · replace hrun := it_neg c_1 hrun
    refine lv_bipush (v := -6) hx hb dX4_breakMark_4 (by decide) ?_
    refine lv_goto (tgt := 19) hx hb dX4_breakMark_6 (by decide) ?_
    exact W.iret (v := (-6)) hx hb hr (fun t ht hW => ⟨(-6), rfl, si hrun, ht⟩) (fun _ h => absurd h List.not_mem_nil) dX4_breakMark_19
def p_X4_lineAhead_27 (M : Ob) (K : Int32 → Int32 → Int32 → Option (Int32)) (x1 : Int32) (x3 : Int32) (y0 : Int32)  : Option (Int32) := K x1 y0 (x3 + nI 1)
def p_X4_lineAhead_4 (M : Ob) : Nat → Int32 → Int32 → Int32 → Option (Int32)
  | 0, _, _, _ => none
  | n + 1, x1, x2, x3 => ((p_X4_many M).bind fun v_1 => (if v_1 ≤ x3 then (some x2) else ((ldI (M 5) 60 x3).bind fun v_4 => (if x1 ≤ v_4 then p_X4_lineAhead_27 M (p_X4_lineAhead_4 M n) x1 x3 x2 else p_X4_lineAhead_27 M (p_X4_lineAhead_4 M n) x1 x3 x3))))
def p_X4_lineAhead (M : Ob) (u1 : Int32)  : Option (Int32) := p_X4_lineAhead_4 M 200 u1 (-1) (nI 0)
abbrev rmX4_lineAhead : Room := { frames := 1, cells := 0, slots := 0, locals := 20 }
set_option maxHeartbeats 4000000 in
set_option maxRecDepth 100000 in
theorem c_X4_lineAhead (l : Launch) (G : GT) (am : Nat → Nat) (M : Ob) (u1 : Int32) (r0 : Int32) (hrun : p_X4_lineAhead M u1 = some r0) : Met l yX4_lineAhead wsX4_lineAhead rmX4_lineAhead (PreR G [.ref (am 0), .int u1] (wMod G am M)) (Ri r0) 0 0 (fun _ => False) := by
  refine Met.ofW (cc := cX4_lineAhead) (maxL := 4) (ret := (some .int)) (by decide) rfl ?_
  intro p e s m args below meth c s₁ Bd hml hv
  obtain ⟨rfl, hP, hC⟩ := hv
  have hx := Bd.exec
  have hb := Bd.bytes
  have hr := Bd.returns
  have hts := atoms_spec (ws := wsX4_lineAhead) Bd.pre
  have hown : s.vm.findClass RX4 = some m.cls := findClass_of_methodNamed Bd.named
  have hlocks := Bd.notSynchronized
  have hK := hC.1
  have iwX4 : ∀ w ∈ wsX40, w ∈ wsX4_lineAhead := by decide +kernel
  have ha0 := hts (.fieldLink RX4 23 "HeadMarksModel" "pageOf" "[I") (by decide +kernel)
  have kH_4 : ∀ (n : Nat) (x1 x2 x3 : Int32) , ∀ (ls : Array Slot), lv_has ls 4 [(0, .ref (am 0)), (1, .int x1), (2, .int x2), (3, .int x3)] → p_X4_lineAhead_4 M n x1 x2 x3 = some r0 → W p l e (headSpec wsX4_lineAhead rmX4_lineAhead).room s m ([.ref (am 0), .int u1] : List Value).toArray below meth c s.heap [] 0 0 (MQ below (Ri r0) ([.ref (am 0), .int u1] : List Value).toArray s 0 0 (fun _ => False)) (F0 m 4 ls []) := by
    intro n
    induction n with
    | zero => intro x1 x2 x3 ls hl hrun; exact absurd (hrun : (none : Option (Int32)) = some r0) (fun h => by cases h)
    | succ n ih =>
      have kJ_27 : ∀ (x1 x3 y0 : Int32) , ∀ (ls : Array Slot), lv_has ls 4 [(0, .ref (am 0)), (1, .int x1), (3, .int x3)] → p_X4_lineAhead_27 M (p_X4_lineAhead_4 M n) x1 x3 y0 = some r0 → W p l e (headSpec wsX4_lineAhead rmX4_lineAhead).room s m ([.ref (am 0), .int u1] : List Value).toArray below meth c s.heap [] 0 0 (MQ below (Ri r0) ([.ref (am 0), .int u1] : List Value).toArray s 0 0 (fun _ => False)) (F0 m 27 ls [.int y0]) := by
        intro x1 x3 y0 ls hl hrun
        rw [p_X4_lineAhead_27] at hrun
        refine lv_istore_n (lv' := [(2, .int y0), (0, .ref (am 0)), (1, .int x1), (3, .int x3)]) hx hb dX4_lineAhead_27 rfl hl (by decide) rfl (fun ls hl => ?_)
        refine lv_iinc (v := (x3 + nI 1)) (lv' := [(3, .int (x3 + nI 1)), (2, .int y0), (0, .ref (am 0)), (1, .int x1)]) hx hb dX4_lineAhead_28 hl (k := 3) rfl rfl (by decide) rfl (fun ls hl => ?_)
        refine lv_goto (tgt := 4) hx hb dX4_lineAhead_31 (by decide) ?_
        exact ih x1 y0 (x3 + nI 1)  ls (lv_sub hl [2, 3, 1, 0] rfl) hrun
      intro x1 x2 x3 ls hl hrun
      rw [p_X4_lineAhead_4] at hrun
      refine lv_iload_n hx hb dX4_lineAhead_4 rfl (lv_at hl 3 rfl) ?_
      refine lv_aload_n hx hb dX4_lineAhead_5 rfl (lv_at hl 0 rfl) ?_
      obtain ⟨v_1, e_2, hrun⟩ := bd hrun
      refine y_ro (va_runV (As := []) (rest := [.int x3]) ⟨hx, hb, hml, hown, hts⟩ (c_X4_many l G am M  v_1 e_2) (cwV 0 hts gX4_lineAhead_X4_many rfl rfl rfl (by decide +kernel) ⟨Nat.le_of_ble_eq_true rfl, Nat.le_of_ble_eq_true rfl⟩) ⟨PreR.blind, va_recv hK hP (ci := 4) (q0 := 0) rfl rfl, y_preR hC hP⟩ rfl rfl hl.1 rfl (lv_room (Nat.le_of_ble_eq_true rfl)) dX4_lineAhead_6 ⟨Nat.zero_le _, Nat.zero_le _⟩) ?_
      refine lv_icmp_ge (tgt := 34) hx hb dX4_lineAhead_9 (by decide) (fun c_3 => ?_) (fun c_3 => ?_)
      · replace hrun := it_pos c_3 hrun
        refine lv_iload_n hx hb dX4_lineAhead_34 rfl (lv_at hl 2 rfl) ?_
        exact W.iret (v := x2) hx hb hr (fun t ht hW => ⟨x2, rfl, si hrun, ht⟩) (fun _ h => absurd h List.not_mem_nil) dX4_lineAhead_35
      · replace hrun := it_neg c_3 hrun
        refine lv_aload_n hx hb dX4_lineAhead_12 rfl (lv_at hl 0 rfl) ?_
        refine va_get (D := G.1) (ci := 4) (v := .ref (am 5)) (C := RX4) (T := TX4) (N := 12) hx hb hts iwX4 hown hK hP 0 rfl rfl 5 (by decide) ha0 (fun _ h9 => h9) rfl dX4_lineAhead_13 ?_
        refine lv_iload_n hx hb dX4_lineAhead_16 rfl (lv_at hl 3 rfl) ?_
        obtain ⟨v_4, e_5, hrun⟩ := bd hrun
        refine y_ald hx hb hK hP 5 0 rfl rfl e_5 dX4_lineAhead_17 ?_
        refine lv_iload_n hx hb dX4_lineAhead_18 rfl (lv_at hl 1 rfl) ?_
        refine lv_icmp_ge (tgt := 26) hx hb dX4_lineAhead_19 (by decide) (fun c_6 => ?_) (fun c_6 => ?_)
        · replace hrun := it_pos c_6 hrun
          refine lv_iload_n hx hb dX4_lineAhead_26 rfl (lv_at hl 2 rfl) ?_
          exact kJ_27 x1 x3 x2  ls (lv_sub hl [0, 1, 3] rfl) hrun
        · replace hrun := it_neg c_6 hrun
          refine lv_iload_n hx hb dX4_lineAhead_22 rfl (lv_at hl 3 rfl) ?_
          refine lv_goto (tgt := 27) hx hb dX4_lineAhead_23 (by decide) ?_
          exact kJ_27 x1 x3 x3  ls (lv_sub hl [0, 1, 3] rfl) hrun
  have hl := lv_entry [.ref (am 0), .int u1] (n := 4) (Nat.le_of_ble_eq_true rfl)
  rw [lg_entry_eq]
  generalize (lg_sl [.ref (am 0), .int u1] ++ List.replicate (4 - (lg_sl [.ref (am 0), .int u1]).length) Slot.unset).toArray = ls at hl ⊢
  have hl : lv_has ls 4 [(0, .ref (am 0)), (1, .int u1)] := hl
  rw [p_X4_lineAhead] at hrun
  refine lv_iconst (v := -1) hx hb dX4_lineAhead_0 (by decide) ?_
  refine lv_istore_n (lv' := [(2, .int (-1)), (0, .ref (am 0)), (1, .int u1)]) hx hb dX4_lineAhead_1 rfl hl (by decide) rfl (fun ls hl => ?_)
  refine lv_iconst (v := nI 0) hx hb dX4_lineAhead_2 (by decide) ?_
  refine lv_istore_n (lv' := [(3, .int (nI 0)), (2, .int (-1)), (0, .ref (am 0)), (1, .int u1)]) hx hb dX4_lineAhead_3 rfl hl (by decide) rfl (fun ls hl => ?_)
  exact kH_4 200 u1 (-1) (nI 0)  ls (lv_sub hl [2, 3, 1, 0] rfl) hrun
