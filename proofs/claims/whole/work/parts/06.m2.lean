def p_X4_firstMark_55 (M : Ob) (K : Int32 → Int32 → Int32 → Option (Int32)) (x1 : Int32) (x2 : Int32) (x3 : Int32)  : Option (Int32) := K x1 x2 (x3 + nI 1)
def p_X4_firstMark_2 (M : Ob) : Nat → Int32 → Int32 → Int32 → Option (Int32)
  | 0, _, _, _ => none
  | n + 1, x1, x2, x3 => ((ldI (M 9) 130 x1).bind fun v_1 => (if v_1 ≤ x3 then (some (-6)) else ((ldI (M 8) 130 x1).bind fun v_4 => ((ldI (M 0) 130 (((nI 0) + v_4) + x3)).bind fun v_6 => (if x2 = nI 0 then ((p_X4_isChapter v_6).bind fun v_13 => (if v_13 = nI 0 then p_X4_firstMark_55 M (p_X4_firstMark_2 M n) x1 x2 x3 else (some v_6))) else ((p_X4_isSection v_6).bind fun v_9 => (if v_9 = nI 0 then p_X4_firstMark_55 M (p_X4_firstMark_2 M n) x1 x2 x3 else (some v_6))))))))
def p_X4_firstMark (M : Ob) (u1 : Int32) (u2 : Int32)  : Option (Int32) := p_X4_firstMark_2 M 200 u1 u2 (nI 0)
abbrev rmX4_firstMark : Room := { frames := 2, cells := 0, slots := 0, locals := 42 }
set_option maxHeartbeats 4000000 in
set_option maxRecDepth 100000 in
theorem c_X4_firstMark (l : Launch) (G : GT) (am : Nat → Nat) (M : Ob) (u1 u2 : Int32) (r0 : Int32) (hrun : p_X4_firstMark M u1 u2 = some r0) : Met l yX4_firstMark wsX4_firstMark rmX4_firstMark (PreR G [.ref (am 0), .int u1, .int u2] (wMod G am M)) (Ri r0) 0 0 (fun _ => False) := by
  refine Met.ofW (cc := cX4_firstMark) (maxL := 5) (ret := (some .int)) (by decide) rfl ?_
  intro p e s m args below meth c s₁ Bd hml hv
  obtain ⟨rfl, hP, hC⟩ := hv
  have hx := Bd.exec
  have hb := Bd.bytes
  have hr := Bd.returns
  have hts := atoms_spec (ws := wsX4_firstMark) Bd.pre
  have hown : s.vm.findClass RX4 = some m.cls := findClass_of_methodNamed Bd.named
  have hlocks := Bd.notSynchronized
  have hK := hC.1
  have iwX4 : ∀ w ∈ wsX40, w ∈ wsX4_firstMark := by decide +kernel
  have ha0 := hts (.fieldLink RX4 35 "HeadMarksModel" "linesOn" "[I") (by decide +kernel)
  have ha1 := hts (.fieldLink RX4 7 "HeadMarksModel" "state" "[I") (by decide +kernel)
  have ha2 := hts (.fieldLink RX4 32 "HeadMarksModel" "firstOn" "[I") (by decide +kernel)
  have kH_2 : ∀ (n : Nat) (x1 x2 x3 : Int32) , ∀ (ls : Array Slot), lv_has ls 5 [(0, .ref (am 0)), (1, .int x1), (2, .int x2), (3, .int x3)] → p_X4_firstMark_2 M n x1 x2 x3 = some r0 → W p l e (headSpec wsX4_firstMark rmX4_firstMark).room s m ([.ref (am 0), .int u1, .int u2] : List Value).toArray below meth c s.heap [] 0 0 (MQ below (Ri r0) ([.ref (am 0), .int u1, .int u2] : List Value).toArray s 0 0 (fun _ => False)) (F0 m 2 ls []) := by
    intro n
    induction n with
    | zero => intro x1 x2 x3 ls hl hrun; exact absurd (hrun : (none : Option (Int32)) = some r0) (fun h => by cases h)
    | succ n ih =>
      have kJ_55 : ∀ (x1 x2 x3 : Int32) , ∀ (ls : Array Slot), lv_has ls 5 [(0, .ref (am 0)), (1, .int x1), (2, .int x2), (3, .int x3)] → p_X4_firstMark_55 M (p_X4_firstMark_2 M n) x1 x2 x3 = some r0 → W p l e (headSpec wsX4_firstMark rmX4_firstMark).room s m ([.ref (am 0), .int u1, .int u2] : List Value).toArray below meth c s.heap [] 0 0 (MQ below (Ri r0) ([.ref (am 0), .int u1, .int u2] : List Value).toArray s 0 0 (fun _ => False)) (F0 m 55 ls []) := by
        intro x1 x2 x3 ls hl hrun
        rw [p_X4_firstMark_55] at hrun
        refine lv_iinc (v := (x3 + nI 1)) (lv' := [(3, .int (x3 + nI 1)), (0, .ref (am 0)), (1, .int x1), (2, .int x2)]) hx hb dX4_firstMark_55 hl (k := 3) rfl rfl (by decide) rfl (fun ls hl => ?_)
        refine lv_goto (tgt := 2) hx hb dX4_firstMark_58 (by decide) ?_
        exact ih x1 x2 (x3 + nI 1)  ls (lv_sub hl [1, 2, 3, 0] rfl) hrun
      intro x1 x2 x3 ls hl hrun
      rw [p_X4_firstMark_2] at hrun
      refine lv_iload_n hx hb dX4_firstMark_2 rfl (lv_at hl 3 rfl) ?_
      refine lv_aload_n hx hb dX4_firstMark_3 rfl (lv_at hl 0 rfl) ?_
      refine va_get (D := G.1) (ci := 4) (v := .ref (am 9)) (C := RX4) (T := TX4) (N := 12) hx hb hts iwX4 hown hK hP 0 rfl rfl 9 (by decide) ha0 (fun _ h9 => h9) rfl dX4_firstMark_4 ?_
      refine lv_iload_n hx hb dX4_firstMark_7 rfl (lv_at hl 1 rfl) ?_
      obtain ⟨v_1, e_2, hrun⟩ := bd hrun
      refine y_ald hx hb hK hP 9 0 rfl rfl e_2 dX4_firstMark_8 ?_
      refine lv_icmp_ge (tgt := 61) hx hb dX4_firstMark_9 (by decide) (fun c_3 => ?_) (fun c_3 => ?_)
      · replace hrun := it_pos c_3 hrun
        refine lv_bipush (v := -6) hx hb dX4_firstMark_61 (by decide) ?_
        exact W.iret (v := (-6)) hx hb hr (fun t ht hW => ⟨(-6), rfl, si hrun, ht⟩) (fun _ h => absurd h List.not_mem_nil) dX4_firstMark_63
      · replace hrun := it_neg c_3 hrun
        refine lv_aload_n hx hb dX4_firstMark_12 rfl (lv_at hl 0 rfl) ?_
        refine va_get (D := G.1) (ci := 4) (v := .ref (am 1)) (C := RX4) (T := TX4) (N := 12) hx hb hts iwX4 hown hK hP 0 rfl rfl 0 (by decide) ha1 (fun _ h9 => h9) rfl dX4_firstMark_13 ?_
        refine lv_iconst (v := nI 0) hx hb dX4_firstMark_16 (by decide) ?_
        refine lv_aload_n hx hb dX4_firstMark_17 rfl (lv_at hl 0 rfl) ?_
        refine va_get (D := G.1) (ci := 4) (v := .ref (am 8)) (C := RX4) (T := TX4) (N := 12) hx hb hts iwX4 hown hK hP 0 rfl rfl 8 (by decide) ha2 (fun _ h9 => h9) rfl dX4_firstMark_18 ?_
        refine lv_iload_n hx hb dX4_firstMark_21 rfl (lv_at hl 1 rfl) ?_
        obtain ⟨v_4, e_5, hrun⟩ := bd hrun
        refine y_ald hx hb hK hP 8 0 rfl rfl e_5 dX4_firstMark_22 ?_
        refine lv_iadd hx hb dX4_firstMark_23 ?_
        refine lv_iload_n hx hb dX4_firstMark_24 rfl (lv_at hl 3 rfl) ?_
        refine lv_iadd hx hb dX4_firstMark_25 ?_
        obtain ⟨v_6, e_7, hrun⟩ := bd hrun
        refine y_ald hx hb hK hP 1 0 rfl rfl e_7 dX4_firstMark_26 ?_
        refine lv_istore (lv' := [(4, .int v_6), (0, .ref (am 0)), (1, .int x1), (2, .int x2), (3, .int x3)]) hx hb dX4_firstMark_27 hl (by decide) rfl (fun ls hl => ?_)
        refine lv_iload_n hx hb dX4_firstMark_29 rfl (lv_at hl 3 rfl) ?_
        refine lv_if_ne (tgt := 44) hx hb dX4_firstMark_30 (by decide) (fun c_8 => ?_) (fun c_8 => ?_)
        · replace hrun := it_neg c_8 hrun
          refine lv_iload hx hb dX4_firstMark_44 (lv_at hl 0 rfl) ?_
          obtain ⟨v_9, e_10, hrun⟩ := bd hrun
          refine y_roz (va_runS (As := [.int v_6]) (rest := []) ⟨hx, hb, hml, hown, hts⟩ (c_X4_isSection l G   v_6 v_9 e_10) (cwS 1 hts gX4_firstMark_X4_isSection rfl rfl rfl (by decide +kernel) ⟨Nat.le_of_ble_eq_true rfl, Nat.le_of_ble_eq_true rfl⟩) ⟨PreR.blind, y_preR hC (fun _ _ h => by cases h)⟩ rfl rfl hl.1 rfl (lv_room (Nat.le_of_ble_eq_true rfl)) dX4_firstMark_46 ⟨Nat.zero_le _, Nat.zero_le _⟩) (fun z_11 => ?_)
          refine lv_if_eq (tgt := 55) hx hb dX4_firstMark_49 (by decide) (fun c_12 => ?_) (fun c_12 => ?_)
          · replace hrun := it_pos c_12 hrun
            exact kJ_55 x1 x2 x3  ls (lv_sub hl [1, 2, 3, 4] rfl) hrun
          · replace hrun := it_neg c_12 hrun
            refine lv_iload hx hb dX4_firstMark_52 (lv_at hl 0 rfl) ?_
            exact W.iret (v := v_6) hx hb hr (fun t ht hW => ⟨v_6, rfl, si hrun, ht⟩) (fun _ h => absurd h List.not_mem_nil) dX4_firstMark_54
        · replace hrun := it_pos c_8 hrun
          refine lv_iload hx hb dX4_firstMark_33 (lv_at hl 0 rfl) ?_
          obtain ⟨v_13, e_14, hrun⟩ := bd hrun
          refine y_roz (va_runS (As := [.int v_6]) (rest := []) ⟨hx, hb, hml, hown, hts⟩ (c_X4_isChapter l G   v_6 v_13 e_14) (cwS 1 hts gX4_firstMark_X4_isChapter rfl rfl rfl (by decide +kernel) ⟨Nat.le_of_ble_eq_true rfl, Nat.le_of_ble_eq_true rfl⟩) ⟨PreR.blind, y_preR hC (fun _ _ h => by cases h)⟩ rfl rfl hl.1 rfl (lv_room (Nat.le_of_ble_eq_true rfl)) dX4_firstMark_35 ⟨Nat.zero_le _, Nat.zero_le _⟩) (fun z_15 => ?_)
          refine lv_if_eq (tgt := 55) hx hb dX4_firstMark_38 (by decide) (fun c_16 => ?_) (fun c_16 => ?_)
          · replace hrun := it_pos c_16 hrun
            exact kJ_55 x1 x2 x3  ls (lv_sub hl [1, 2, 3, 4] rfl) hrun
          · replace hrun := it_neg c_16 hrun
            refine lv_goto (tgt := 52) hx hb dX4_firstMark_41 (by decide) ?_
            refine lv_iload hx hb dX4_firstMark_52 (lv_at hl 0 rfl) ?_
            exact W.iret (v := v_6) hx hb hr (fun t ht hW => ⟨v_6, rfl, si hrun, ht⟩) (fun _ h => absurd h List.not_mem_nil) dX4_firstMark_54
  have hl := lv_entry [.ref (am 0), .int u1, .int u2] (n := 5) (Nat.le_of_ble_eq_true rfl)
  rw [lg_entry_eq]
  generalize (lg_sl [.ref (am 0), .int u1, .int u2] ++ List.replicate (5 - (lg_sl [.ref (am 0), .int u1, .int u2]).length) Slot.unset).toArray = ls at hl ⊢
  have hl : lv_has ls 5 [(0, .ref (am 0)), (1, .int u1), (2, .int u2)] := hl
  rw [p_X4_firstMark] at hrun
  refine lv_iconst (v := nI 0) hx hb dX4_firstMark_0 (by decide) ?_
  refine lv_istore_n (lv' := [(3, .int (nI 0)), (0, .ref (am 0)), (1, .int u1), (2, .int u2)]) hx hb dX4_firstMark_1 rfl hl (by decide) rfl (fun ls hl => ?_)
  exact kH_2 200 u1 u2 (nI 0)  ls (lv_sub hl [1, 2, 3, 0] rfl) hrun
def p_X4_markOf_43 (M : Ob) (x2 : Int32) (x4 : Int32) (y0 : Int32)  : Option (Int32) := (if y0 = (-6) then ((p_X4_breakMark M x4 x2).bind fun v_12 => (some v_12)) else (some y0))
def p_X4_markOf (M : Ob) (u1 : Int32) (u2 : Int32) (u3 : Int32)  : Option (Int32) := ((p_X4_lineAhead M u1).bind fun v_1 => (if u3 = (nI 2) then ((ldI (M 9) 130 u1).bind fun v_7 => ((p_X4_breakMark M (v_1 + v_7) u2).bind fun v_9 => (some v_9))) else (if u3 = (nI 1) then ((p_X4_firstMark M u1 u2).bind fun v_5 => p_X4_markOf_43 M u2 v_1 v_5) else p_X4_markOf_43 M u2 v_1 (-6))))
abbrev rmX4_markOf : Room := { frames := 3, cells := 0, slots := 0, locals := 66 }
set_option maxHeartbeats 4000000 in
set_option maxRecDepth 100000 in
theorem c_X4_markOf (l : Launch) (G : GT) (am : Nat → Nat) (M : Ob) (u1 u2 u3 : Int32) (r0 : Int32) (hrun : p_X4_markOf M u1 u2 u3 = some r0) : Met l yX4_markOf wsX4_markOf rmX4_markOf (PreR G [.ref (am 0), .int u1, .int u2, .int u3] (wMod G am M)) (Ri r0) 0 0 (fun _ => False) := by
  refine Met.ofW (cc := cX4_markOf) (maxL := 6) (ret := (some .int)) (by decide) rfl ?_
  intro p e s m args below meth c s₁ Bd hml hv
  obtain ⟨rfl, hP, hC⟩ := hv
  have hx := Bd.exec
  have hb := Bd.bytes
  have hr := Bd.returns
  have hts := atoms_spec (ws := wsX4_markOf) Bd.pre
  have hown : s.vm.findClass RX4 = some m.cls := findClass_of_methodNamed Bd.named
  have hlocks := Bd.notSynchronized
  have hK := hC.1
  have iwX4 : ∀ w ∈ wsX40, w ∈ wsX4_markOf := by decide +kernel
  have ha0 := hts (.fieldLink RX4 35 "HeadMarksModel" "linesOn" "[I") (by decide +kernel)
  have kJ_43 : ∀ (x2 x4 y0 : Int32) , ∀ (ls : Array Slot), lv_has ls 6 [(0, .ref (am 0)), (2, .int x2), (4, .int x4)] → p_X4_markOf_43 M x2 x4 y0 = some r0 → W p l e (headSpec wsX4_markOf rmX4_markOf).room s m ([.ref (am 0), .int u1, .int u2, .int u3] : List Value).toArray below meth c s.heap [] 0 0 (MQ below (Ri r0) ([.ref (am 0), .int u1, .int u2, .int u3] : List Value).toArray s 0 0 (fun _ => False)) (F0 m 43 ls [.int y0]) := by
    intro x2 x4 y0 ls hl hrun
    rw [p_X4_markOf_43] at hrun
    refine lv_istore (lv' := [(5, .int y0), (0, .ref (am 0)), (2, .int x2), (4, .int x4)]) hx hb dX4_markOf_43 hl (by decide) rfl (fun ls hl => ?_)
    refine lv_iload hx hb dX4_markOf_45 (lv_at hl 0 rfl) ?_
    refine lv_bipush (v := -6) hx hb dX4_markOf_47 (by decide) ?_
    refine lv_icmp_ne (tgt := 62) hx hb dX4_markOf_49 (by decide) (fun c_11 => ?_) (fun c_11 => ?_)
    · replace hrun := it_neg c_11 hrun
      refine lv_iload hx hb dX4_markOf_62 (lv_at hl 0 rfl) ?_
      exact W.iret (v := y0) hx hb hr (fun t ht hW => ⟨y0, rfl, si hrun, ht⟩) (fun _ h => absurd h List.not_mem_nil) dX4_markOf_64
    · replace hrun := it_pos c_11 hrun
      refine lv_aload_n hx hb dX4_markOf_52 rfl (lv_at hl 1 rfl) ?_
      refine lv_iload hx hb dX4_markOf_53 (lv_at hl 3 rfl) ?_
      refine lv_iload_n hx hb dX4_markOf_55 rfl (lv_at hl 2 rfl) ?_
      obtain ⟨v_12, e_13, hrun⟩ := bd hrun
      refine y_ro (va_runV (As := [.int x4, .int x2]) (rest := []) ⟨hx, hb, hml, hown, hts⟩ (c_X4_breakMark l G am M x4 x2 v_12 e_13) (cwV 2 hts gX4_markOf_X4_breakMark rfl rfl rfl (by decide +kernel) ⟨Nat.le_of_ble_eq_true rfl, Nat.le_of_ble_eq_true rfl⟩) ⟨PreR.blind, va_recv hK hP (ci := 4) (q0 := 0) rfl rfl, y_preR hC hP⟩ rfl rfl hl.1 rfl (lv_room (Nat.le_of_ble_eq_true rfl)) dX4_markOf_56 ⟨Nat.zero_le _, Nat.zero_le _⟩) ?_
      refine lv_goto (tgt := 64) hx hb dX4_markOf_59 (by decide) ?_
      exact W.iret (v := v_12) hx hb hr (fun t ht hW => ⟨v_12, rfl, si hrun, ht⟩) (fun _ h => absurd h List.not_mem_nil) dX4_markOf_64
  have hl := lv_entry [.ref (am 0), .int u1, .int u2, .int u3] (n := 6) (Nat.le_of_ble_eq_true rfl)
  rw [lg_entry_eq]
  generalize (lg_sl [.ref (am 0), .int u1, .int u2, .int u3] ++ List.replicate (6 - (lg_sl [.ref (am 0), .int u1, .int u2, .int u3]).length) Slot.unset).toArray = ls at hl ⊢
  have hl : lv_has ls 6 [(0, .ref (am 0)), (1, .int u1), (2, .int u2), (3, .int u3)] := hl
  rw [p_X4_markOf] at hrun
  refine lv_aload_n hx hb dX4_markOf_0 rfl (lv_at hl 0 rfl) ?_
  refine lv_iload_n hx hb dX4_markOf_1 rfl (lv_at hl 1 rfl) ?_
  obtain ⟨v_1, e_2, hrun⟩ := bd hrun
  refine y_ro (va_runV (As := [.int u1]) (rest := []) ⟨hx, hb, hml, hown, hts⟩ (c_X4_lineAhead l G am M u1 v_1 e_2) (cwV 1 hts gX4_markOf_X4_lineAhead rfl rfl rfl (by decide +kernel) ⟨Nat.le_of_ble_eq_true rfl, Nat.le_of_ble_eq_true rfl⟩) ⟨PreR.blind, va_recv hK hP (ci := 4) (q0 := 0) rfl rfl, y_preR hC hP⟩ rfl rfl hl.1 rfl (lv_room (Nat.le_of_ble_eq_true rfl)) dX4_markOf_2 ⟨Nat.zero_le _, Nat.zero_le _⟩) ?_
  refine lv_istore (lv' := [(4, .int v_1), (0, .ref (am 0)), (1, .int u1), (2, .int u2), (3, .int u3)]) hx hb dX4_markOf_5 hl (by decide) rfl (fun ls hl => ?_)
  refine lv_iload_n hx hb dX4_markOf_7 rfl (lv_at hl 4 rfl) ?_
  refine lv_iconst (v := nI 2) hx hb dX4_markOf_8 (by decide) ?_
  refine lv_icmp_ne (tgt := 27) hx hb dX4_markOf_9 (by decide) (fun c_3 => ?_) (fun c_3 => ?_)
  · replace hrun := it_neg c_3 hrun
    refine lv_iload_n hx hb dX4_markOf_27 rfl (lv_at hl 4 rfl) ?_
    refine lv_iconst (v := nI 1) hx hb dX4_markOf_28 (by decide) ?_
    refine lv_icmp_ne (tgt := 41) hx hb dX4_markOf_29 (by decide) (fun c_4 => ?_) (fun c_4 => ?_)
    · replace hrun := it_neg c_4 hrun
      refine lv_bipush (v := -6) hx hb dX4_markOf_41 (by decide) ?_
      exact kJ_43 u2 v_1 (-6)  ls (lv_sub hl [1, 3, 0] rfl) hrun
    · replace hrun := it_pos c_4 hrun
      refine lv_aload_n hx hb dX4_markOf_32 rfl (lv_at hl 1 rfl) ?_
      refine lv_iload_n hx hb dX4_markOf_33 rfl (lv_at hl 2 rfl) ?_
      refine lv_iload_n hx hb dX4_markOf_34 rfl (lv_at hl 3 rfl) ?_
      obtain ⟨v_5, e_6, hrun⟩ := bd hrun
      refine y_ro (va_runV (As := [.int u1, .int u2]) (rest := []) ⟨hx, hb, hml, hown, hts⟩ (c_X4_firstMark l G am M u1 u2 v_5 e_6) (cwV 2 hts gX4_markOf_X4_firstMark rfl rfl rfl (by decide +kernel) ⟨Nat.le_of_ble_eq_true rfl, Nat.le_of_ble_eq_true rfl⟩) ⟨PreR.blind, va_recv hK hP (ci := 4) (q0 := 0) rfl rfl, y_preR hC hP⟩ rfl rfl hl.1 rfl (lv_room (Nat.le_of_ble_eq_true rfl)) dX4_markOf_35 ⟨Nat.zero_le _, Nat.zero_le _⟩) ?_
      refine lv_goto (tgt := 43) hx hb dX4_markOf_38 (by decide) ?_
      exact kJ_43 u2 v_1 v_5  ls (lv_sub hl [1, 3, 0] rfl) hrun
  · replace hrun := it_pos c_3 hrun
    refine lv_aload_n hx hb dX4_markOf_12 rfl (lv_at hl 1 rfl) ?_
    refine lv_iload hx hb dX4_markOf_13 (lv_at hl 0 rfl) ?_
    refine lv_aload_n hx hb dX4_markOf_15 rfl (lv_at hl 1 rfl) ?_
    refine va_get (D := G.1) (ci := 4) (v := .ref (am 9)) (C := RX4) (T := TX4) (N := 12) hx hb hts iwX4 hown hK hP 0 rfl rfl 9 (by decide) ha0 (fun _ h9 => h9) rfl dX4_markOf_16 ?_
    refine lv_iload_n hx hb dX4_markOf_19 rfl (lv_at hl 2 rfl) ?_
    obtain ⟨v_7, e_8, hrun⟩ := bd hrun
    refine y_ald hx hb hK hP 9 0 rfl rfl e_8 dX4_markOf_20 ?_
    refine lv_iadd hx hb dX4_markOf_21 ?_
    refine lv_iload_n hx hb dX4_markOf_22 rfl (lv_at hl 3 rfl) ?_
    obtain ⟨v_9, e_10, hrun⟩ := bd hrun
    refine y_ro (va_runV (As := [.int (v_1 + v_7), .int u2]) (rest := []) ⟨hx, hb, hml, hown, hts⟩ (c_X4_breakMark l G am M (v_1 + v_7) u2 v_9 e_10) (cwV 2 hts gX4_markOf_X4_breakMark rfl rfl rfl (by decide +kernel) ⟨Nat.le_of_ble_eq_true rfl, Nat.le_of_ble_eq_true rfl⟩) ⟨PreR.blind, va_recv hK hP (ci := 4) (q0 := 0) rfl rfl, y_preR hC hP⟩ rfl rfl hl.1 rfl (lv_room (Nat.le_of_ble_eq_true rfl)) dX4_markOf_23 ⟨Nat.zero_le _, Nat.zero_le _⟩) ?_
    exact W.iret (v := v_9) hx hb hr (fun t ht hW => ⟨v_9, rfl, si hrun, ht⟩) (fun _ h => absurd h List.not_mem_nil) dX4_markOf_26
def p_X4_headOf_42 (M : Ob) (x1 : Int32)  : Option (Int32) := ((ldI (M 0) 130 ((nI 126) + (x1 - x1 / (nI 2) * (nI 2)))).bind fun v_15 => ((ldI (M 0) 130 ((nI 128) + (x1 - x1 / (nI 2) * (nI 2)))).bind fun v_17 => ((p_X4_markOf M x1 v_15 v_17).bind fun v_19 => (some v_19))))
def p_X4_headOf (M : Ob) (u1 : Int32)  : Option (Int32) := ((ldI (M 9) 130 u1).bind fun v_1 => (if v_1 = nI 0 then (some (-6)) else ((ldI (M 0) 130 (nI 125)).bind fun v_4 => (if v_4 = (nI 1) then ((ldI (M 8) 130 u1).bind fun v_7 => ((ldI (M 0) 130 ((nI 0) + v_7)).bind fun v_9 => ((p_X4_isChapter v_9).bind fun v_11 => (if v_11 = nI 0 then p_X4_headOf_42 M u1 else (some (-6)))))) else p_X4_headOf_42 M u1))))
abbrev rmX4_headOf : Room := { frames := 4, cells := 0, slots := 0, locals := 91 }
set_option maxHeartbeats 4000000 in
set_option maxRecDepth 100000 in
theorem c_X4_headOf (l : Launch) (G : GT) (am : Nat → Nat) (M : Ob) (u1 : Int32) (r0 : Int32) (hrun : p_X4_headOf M u1 = some r0) : Met l yX4_headOf wsX4_headOf rmX4_headOf (PreR G [.ref (am 0), .int u1] (wMod G am M)) (Ri r0) 0 0 (fun _ => False) := by
  refine Met.ofW (cc := cX4_headOf) (maxL := 3) (ret := (some .int)) (by decide) rfl ?_
  intro p e s m args below meth c s₁ Bd hml hv
  obtain ⟨rfl, hP, hC⟩ := hv
  have hx := Bd.exec
  have hb := Bd.bytes
  have hr := Bd.returns
  have hts := atoms_spec (ws := wsX4_headOf) Bd.pre
  have hown : s.vm.findClass RX4 = some m.cls := findClass_of_methodNamed Bd.named
  have hlocks := Bd.notSynchronized
  have hK := hC.1
  have iwX4 : ∀ w ∈ wsX40, w ∈ wsX4_headOf := by decide +kernel
  have ha0 := hts (.fieldLink RX4 35 "HeadMarksModel" "linesOn" "[I") (by decide +kernel)
  have ha1 := hts (.fieldLink RX4 7 "HeadMarksModel" "state" "[I") (by decide +kernel)
  have ha2 := hts (.fieldLink RX4 32 "HeadMarksModel" "firstOn" "[I") (by decide +kernel)
  have kJ_42 : ∀ (x1 : Int32) , ∀ (ls : Array Slot), lv_has ls 3 [(0, .ref (am 0)), (1, .int x1)] → p_X4_headOf_42 M x1 = some r0 → W p l e (headSpec wsX4_headOf rmX4_headOf).room s m ([.ref (am 0), .int u1] : List Value).toArray below meth c s.heap [] 0 0 (MQ below (Ri r0) ([.ref (am 0), .int u1] : List Value).toArray s 0 0 (fun _ => False)) (F0 m 42 ls []) := by
    intro x1 ls hl hrun
    rw [p_X4_headOf_42] at hrun
    refine lv_iload_n hx hb dX4_headOf_42 rfl (lv_at hl 1 rfl) ?_
    refine lv_iconst (v := nI 2) hx hb dX4_headOf_43 (by decide) ?_
    refine lv_irem hx hb dX4_headOf_44 (by decide) ?_
    refine lv_istore_n (lv' := [(2, .int (x1 - x1 / (nI 2) * (nI 2))), (0, .ref (am 0)), (1, .int x1)]) hx hb dX4_headOf_45 rfl hl (by decide) rfl (fun ls hl => ?_)
    refine lv_aload_n hx hb dX4_headOf_46 rfl (lv_at hl 1 rfl) ?_
    refine lv_iload_n hx hb dX4_headOf_47 rfl (lv_at hl 2 rfl) ?_
    refine lv_aload_n hx hb dX4_headOf_48 rfl (lv_at hl 1 rfl) ?_
    refine va_get (D := G.1) (ci := 4) (v := .ref (am 1)) (C := RX4) (T := TX4) (N := 12) hx hb hts iwX4 hown hK hP 0 rfl rfl 0 (by decide) ha1 (fun _ h9 => h9) rfl dX4_headOf_49 ?_
    refine lv_bipush (v := nI 126) hx hb dX4_headOf_52 (by decide) ?_
    refine lv_iload_n hx hb dX4_headOf_54 rfl (lv_at hl 0 rfl) ?_
    refine lv_iadd hx hb dX4_headOf_55 ?_
    obtain ⟨v_15, e_16, hrun⟩ := bd hrun
    refine y_ald hx hb hK hP 1 0 rfl rfl e_16 dX4_headOf_56 ?_
    refine lv_aload_n hx hb dX4_headOf_57 rfl (lv_at hl 1 rfl) ?_
    refine va_get (D := G.1) (ci := 4) (v := .ref (am 1)) (C := RX4) (T := TX4) (N := 12) hx hb hts iwX4 hown hK hP 0 rfl rfl 0 (by decide) ha1 (fun _ h9 => h9) rfl dX4_headOf_58 ?_
    refine lv_sipush (v := nI 128) hx hb dX4_headOf_61 (by decide) ?_
    refine lv_iload_n hx hb dX4_headOf_64 rfl (lv_at hl 0 rfl) ?_
    refine lv_iadd hx hb dX4_headOf_65 ?_
    obtain ⟨v_17, e_18, hrun⟩ := bd hrun
    refine y_ald hx hb hK hP 1 0 rfl rfl e_18 dX4_headOf_66 ?_
    obtain ⟨v_19, e_20, hrun⟩ := bd hrun
    refine y_ro (va_runV (As := [.int x1, .int v_15, .int v_17]) (rest := []) ⟨hx, hb, hml, hown, hts⟩ (c_X4_markOf l G am M x1 v_15 v_17 v_19 e_20) (cwV 3 hts gX4_headOf_X4_markOf rfl rfl rfl (by decide +kernel) ⟨Nat.le_of_ble_eq_true rfl, Nat.le_of_ble_eq_true rfl⟩) ⟨PreR.blind, va_recv hK hP (ci := 4) (q0 := 0) rfl rfl, y_preR hC hP⟩ rfl rfl hl.1 rfl (lv_room (Nat.le_of_ble_eq_true rfl)) dX4_headOf_67 ⟨Nat.zero_le _, Nat.zero_le _⟩) ?_
    exact W.iret (v := v_19) hx hb hr (fun t ht hW => ⟨v_19, rfl, si hrun, ht⟩) (fun _ h => absurd h List.not_mem_nil) dX4_headOf_70
  have hl := lv_entry [.ref (am 0), .int u1] (n := 3) (Nat.le_of_ble_eq_true rfl)
  rw [lg_entry_eq]
  generalize (lg_sl [.ref (am 0), .int u1] ++ List.replicate (3 - (lg_sl [.ref (am 0), .int u1]).length) Slot.unset).toArray = ls at hl ⊢
  have hl : lv_has ls 3 [(0, .ref (am 0)), (1, .int u1)] := hl
  rw [p_X4_headOf] at hrun
  refine lv_aload_n hx hb dX4_headOf_0 rfl (lv_at hl 0 rfl) ?_
  refine va_get (D := G.1) (ci := 4) (v := .ref (am 9)) (C := RX4) (T := TX4) (N := 12) hx hb hts iwX4 hown hK hP 0 rfl rfl 9 (by decide) ha0 (fun _ h9 => h9) rfl dX4_headOf_1 ?_
  refine lv_iload_n hx hb dX4_headOf_4 rfl (lv_at hl 1 rfl) ?_
  obtain ⟨v_1, e_2, hrun⟩ := bd hrun
  refine y_ald hx hb hK hP 9 0 rfl rfl e_2 dX4_headOf_5 ?_
  refine lv_if_eq (tgt := 39) hx hb dX4_headOf_6 (by decide) (fun c_3 => ?_) (fun c_3 => ?_)
  · replace hrun := it_pos c_3 hrun
    refine lv_bipush (v := -6) hx hb dX4_headOf_39 (by decide) ?_
    exact W.iret (v := (-6)) hx hb hr (fun t ht hW => ⟨(-6), rfl, si hrun, ht⟩) (fun _ h => absurd h List.not_mem_nil) dX4_headOf_41
  · replace hrun := it_neg c_3 hrun
    refine lv_aload_n hx hb dX4_headOf_9 rfl (lv_at hl 0 rfl) ?_
    refine va_get (D := G.1) (ci := 4) (v := .ref (am 1)) (C := RX4) (T := TX4) (N := 12) hx hb hts iwX4 hown hK hP 0 rfl rfl 0 (by decide) ha1 (fun _ h9 => h9) rfl dX4_headOf_10 ?_
    refine lv_bipush (v := nI 125) hx hb dX4_headOf_13 (by decide) ?_
    obtain ⟨v_4, e_5, hrun⟩ := bd hrun
    refine y_ald hx hb hK hP 1 0 rfl rfl e_5 dX4_headOf_15 ?_
    refine lv_iconst (v := nI 1) hx hb dX4_headOf_16 (by decide) ?_
    refine lv_icmp_ne (tgt := 42) hx hb dX4_headOf_17 (by decide) (fun c_6 => ?_) (fun c_6 => ?_)
    · replace hrun := it_neg c_6 hrun
      exact kJ_42 u1  ls (lv_sub hl [0, 1] rfl) hrun
    · replace hrun := it_pos c_6 hrun
      refine lv_aload_n hx hb dX4_headOf_20 rfl (lv_at hl 0 rfl) ?_
      refine va_get (D := G.1) (ci := 4) (v := .ref (am 1)) (C := RX4) (T := TX4) (N := 12) hx hb hts iwX4 hown hK hP 0 rfl rfl 0 (by decide) ha1 (fun _ h9 => h9) rfl dX4_headOf_21 ?_
      refine lv_iconst (v := nI 0) hx hb dX4_headOf_24 (by decide) ?_
      refine lv_aload_n hx hb dX4_headOf_25 rfl (lv_at hl 0 rfl) ?_
      refine va_get (D := G.1) (ci := 4) (v := .ref (am 8)) (C := RX4) (T := TX4) (N := 12) hx hb hts iwX4 hown hK hP 0 rfl rfl 8 (by decide) ha2 (fun _ h9 => h9) rfl dX4_headOf_26 ?_
      refine lv_iload_n hx hb dX4_headOf_29 rfl (lv_at hl 1 rfl) ?_
      obtain ⟨v_7, e_8, hrun⟩ := bd hrun
      refine y_ald hx hb hK hP 8 0 rfl rfl e_8 dX4_headOf_30 ?_
      refine lv_iadd hx hb dX4_headOf_31 ?_
      obtain ⟨v_9, e_10, hrun⟩ := bd hrun
      refine y_ald hx hb hK hP 1 0 rfl rfl e_10 dX4_headOf_32 ?_
      obtain ⟨v_11, e_12, hrun⟩ := bd hrun
      refine y_roz (va_runS (As := [.int v_9]) (rest := []) ⟨hx, hb, hml, hown, hts⟩ (c_X4_isChapter l G   v_9 v_11 e_12) (cwS 1 hts gX4_headOf_X4_isChapter rfl rfl rfl (by decide +kernel) ⟨Nat.le_of_ble_eq_true rfl, Nat.le_of_ble_eq_true rfl⟩) ⟨PreR.blind, y_preR hC (fun _ _ h => by cases h)⟩ rfl rfl hl.1 rfl (lv_room (Nat.le_of_ble_eq_true rfl)) dX4_headOf_33 ⟨Nat.zero_le _, Nat.zero_le _⟩) (fun z_13 => ?_)
      refine lv_if_eq (tgt := 42) hx hb dX4_headOf_36 (by decide) (fun c_14 => ?_) (fun c_14 => ?_)
      · replace hrun := it_pos c_14 hrun
        exact kJ_42 u1  ls (lv_sub hl [0, 1] rfl) hrun
      · replace hrun := it_neg c_14 hrun
        refine lv_bipush (v := -6) hx hb dX4_headOf_39 (by decide) ?_
        exact W.iret (v := (-6)) hx hb hr (fun t ht hW => ⟨(-6), rfl, si hrun, ht⟩) (fun _ h => absurd h List.not_mem_nil) dX4_headOf_41
def p_X4_chapterOf_39 (M : Ob) (K : Int32 → Int32 → Int32 → Option (Int32)) (x1 : Int32) (x3 : Int32) (y0 : Int32)  : Option (Int32) := K x1 y0 (x3 + nI 1)
def p_X4_chapterOf_5 (M : Ob) : Nat → Int32 → Int32 → Int32 → Option (Int32)
  | 0, _, _, _ => none
  | n + 1, x1, x2, x3 => (if x1 < x3 then (some x2) else ((ldI (M 0) 130 ((nI 0) + x3)).bind fun v_2 => ((p_X4_isChapter v_2).bind fun v_4 => (if v_4 = nI 0 then p_X4_chapterOf_39 M (p_X4_chapterOf_5 M n) x1 x3 x2 else (if nI 0 ≤ x2 then p_X4_chapterOf_39 M (p_X4_chapterOf_5 M n) x1 x3 (x2 + (nI 1)) else p_X4_chapterOf_39 M (p_X4_chapterOf_5 M n) x1 x3 (nI 0))))))
def p_X4_chapterOf (M : Ob) (u1 : Int32)  : Option (Int32) := p_X4_chapterOf_5 M 200 u1 (-6) (nI 0)
abbrev rmX4_chapterOf : Room := { frames := 2, cells := 0, slots := 0, locals := 42 }
set_option maxHeartbeats 4000000 in
set_option maxRecDepth 100000 in
theorem c_X4_chapterOf (l : Launch) (G : GT) (am : Nat → Nat) (M : Ob) (u1 : Int32) (r0 : Int32) (hrun : p_X4_chapterOf M u1 = some r0) : Met l yX4_chapterOf wsX4_chapterOf rmX4_chapterOf (PreR G [.ref (am 0), .int u1] (wMod G am M)) (Ri r0) 0 0 (fun _ => False) := by
  refine Met.ofW (cc := cX4_chapterOf) (maxL := 4) (ret := (some .int)) (by decide) rfl ?_
  intro p e s m args below meth c s₁ Bd hml hv
  obtain ⟨rfl, hP, hC⟩ := hv
  have hx := Bd.exec
  have hb := Bd.bytes
  have hr := Bd.returns
  have hts := atoms_spec (ws := wsX4_chapterOf) Bd.pre
  have hown : s.vm.findClass RX4 = some m.cls := findClass_of_methodNamed Bd.named
  have hlocks := Bd.notSynchronized
  have hK := hC.1
  have iwX4 : ∀ w ∈ wsX40, w ∈ wsX4_chapterOf := by decide +kernel
  have ha0 := hts (.fieldLink RX4 7 "HeadMarksModel" "state" "[I") (by decide +kernel)
  have kH_5 : ∀ (n : Nat) (x1 x2 x3 : Int32) , ∀ (ls : Array Slot), lv_has ls 4 [(0, .ref (am 0)), (1, .int x1), (2, .int x2), (3, .int x3)] → p_X4_chapterOf_5 M n x1 x2 x3 = some r0 → W p l e (headSpec wsX4_chapterOf rmX4_chapterOf).room s m ([.ref (am 0), .int u1] : List Value).toArray below meth c s.heap [] 0 0 (MQ below (Ri r0) ([.ref (am 0), .int u1] : List Value).toArray s 0 0 (fun _ => False)) (F0 m 5 ls []) := by
    intro n
    induction n with
    | zero => intro x1 x2 x3 ls hl hrun; exact absurd (hrun : (none : Option (Int32)) = some r0) (fun h => by cases h)
    | succ n ih =>
      have kJ_39 : ∀ (x1 x3 y0 : Int32) , ∀ (ls : Array Slot), lv_has ls 4 [(0, .ref (am 0)), (1, .int x1), (3, .int x3)] → p_X4_chapterOf_39 M (p_X4_chapterOf_5 M n) x1 x3 y0 = some r0 → W p l e (headSpec wsX4_chapterOf rmX4_chapterOf).room s m ([.ref (am 0), .int u1] : List Value).toArray below meth c s.heap [] 0 0 (MQ below (Ri r0) ([.ref (am 0), .int u1] : List Value).toArray s 0 0 (fun _ => False)) (F0 m 39 ls [.int y0]) := by
        intro x1 x3 y0 ls hl hrun
        rw [p_X4_chapterOf_39] at hrun
        refine lv_istore_n (lv' := [(2, .int y0), (0, .ref (am 0)), (1, .int x1), (3, .int x3)]) hx hb dX4_chapterOf_39 rfl hl (by decide) rfl (fun ls hl => ?_)
        refine lv_iinc (v := (x3 + nI 1)) (lv' := [(3, .int (x3 + nI 1)), (2, .int y0), (0, .ref (am 0)), (1, .int x1)]) hx hb dX4_chapterOf_40 hl (k := 3) rfl rfl (by decide) rfl (fun ls hl => ?_)
        refine lv_goto (tgt := 5) hx hb dX4_chapterOf_43 (by decide) ?_
        exact ih x1 y0 (x3 + nI 1)  ls (lv_sub hl [2, 3, 1, 0] rfl) hrun
      intro x1 x2 x3 ls hl hrun
      rw [p_X4_chapterOf_5] at hrun
      refine lv_iload_n hx hb dX4_chapterOf_5 rfl (lv_at hl 3 rfl) ?_
      refine lv_iload_n hx hb dX4_chapterOf_6 rfl (lv_at hl 1 rfl) ?_
      refine lv_icmp_gt (tgt := 46) hx hb dX4_chapterOf_7 (by decide) (fun c_1 => ?_) (fun c_1 => ?_)
      · replace hrun := it_pos c_1 hrun
        refine lv_iload_n hx hb dX4_chapterOf_46 rfl (lv_at hl 2 rfl) ?_
        exact W.iret (v := x2) hx hb hr (fun t ht hW => ⟨x2, rfl, si hrun, ht⟩) (fun _ h => absurd h List.not_mem_nil) dX4_chapterOf_47
      · replace hrun := it_neg c_1 hrun
        refine lv_aload_n hx hb dX4_chapterOf_10 rfl (lv_at hl 0 rfl) ?_
        refine va_get (D := G.1) (ci := 4) (v := .ref (am 1)) (C := RX4) (T := TX4) (N := 12) hx hb hts iwX4 hown hK hP 0 rfl rfl 0 (by decide) ha0 (fun _ h9 => h9) rfl dX4_chapterOf_11 ?_
        refine lv_iconst (v := nI 0) hx hb dX4_chapterOf_14 (by decide) ?_
        refine lv_iload_n hx hb dX4_chapterOf_15 rfl (lv_at hl 3 rfl) ?_
        refine lv_iadd hx hb dX4_chapterOf_16 ?_
        obtain ⟨v_2, e_3, hrun⟩ := bd hrun
        refine y_ald hx hb hK hP 1 0 rfl rfl e_3 dX4_chapterOf_17 ?_
        obtain ⟨v_4, e_5, hrun⟩ := bd hrun
        refine y_roz (va_runS (As := [.int v_2]) (rest := []) ⟨hx, hb, hml, hown, hts⟩ (c_X4_isChapter l G   v_2 v_4 e_5) (cwS 1 hts gX4_chapterOf_X4_isChapter rfl rfl rfl (by decide +kernel) ⟨Nat.le_of_ble_eq_true rfl, Nat.le_of_ble_eq_true rfl⟩) ⟨PreR.blind, y_preR hC (fun _ _ h => by cases h)⟩ rfl rfl hl.1 rfl (lv_room (Nat.le_of_ble_eq_true rfl)) dX4_chapterOf_18 ⟨Nat.zero_le _, Nat.zero_le _⟩) (fun z_6 => ?_)
        refine lv_if_eq (tgt := 38) hx hb dX4_chapterOf_21 (by decide) (fun c_7 => ?_) (fun c_7 => ?_)
        · replace hrun := it_pos c_7 hrun
          refine lv_iload_n hx hb dX4_chapterOf_38 rfl (lv_at hl 2 rfl) ?_
          exact kJ_39 x1 x3 x2  ls (lv_sub hl [0, 1, 3] rfl) hrun
        · replace hrun := it_neg c_7 hrun
          refine lv_iload_n hx hb dX4_chapterOf_24 rfl (lv_at hl 2 rfl) ?_
          refine lv_if_ge (tgt := 32) hx hb dX4_chapterOf_25 (by decide) (fun c_8 => ?_) (fun c_8 => ?_)
          · replace hrun := it_pos c_8 hrun
            refine lv_iload_n hx hb dX4_chapterOf_32 rfl (lv_at hl 2 rfl) ?_
            refine lv_iconst (v := nI 1) hx hb dX4_chapterOf_33 (by decide) ?_
            refine lv_iadd hx hb dX4_chapterOf_34 ?_
            refine lv_goto (tgt := 39) hx hb dX4_chapterOf_35 (by decide) ?_
            exact kJ_39 x1 x3 (x2 + (nI 1))  ls (lv_sub hl [0, 1, 3] rfl) hrun
          · replace hrun := it_neg c_8 hrun
            refine lv_iconst (v := nI 0) hx hb dX4_chapterOf_28 (by decide) ?_
            refine lv_goto (tgt := 39) hx hb dX4_chapterOf_29 (by decide) ?_
            exact kJ_39 x1 x3 (nI 0)  ls (lv_sub hl [0, 1, 3] rfl) hrun
  have hl := lv_entry [.ref (am 0), .int u1] (n := 4) (Nat.le_of_ble_eq_true rfl)
  rw [lg_entry_eq]
  generalize (lg_sl [.ref (am 0), .int u1] ++ List.replicate (4 - (lg_sl [.ref (am 0), .int u1]).length) Slot.unset).toArray = ls at hl ⊢
  have hl : lv_has ls 4 [(0, .ref (am 0)), (1, .int u1)] := hl
  rw [p_X4_chapterOf] at hrun
  refine lv_bipush (v := -6) hx hb dX4_chapterOf_0 (by decide) ?_
  refine lv_istore_n (lv' := [(2, .int (-6)), (0, .ref (am 0)), (1, .int u1)]) hx hb dX4_chapterOf_2 rfl hl (by decide) rfl (fun ls hl => ?_)
  refine lv_iconst (v := nI 0) hx hb dX4_chapterOf_3 (by decide) ?_
  refine lv_istore_n (lv' := [(3, .int (nI 0)), (2, .int (-6)), (0, .ref (am 0)), (1, .int u1)]) hx hb dX4_chapterOf_4 rfl hl (by decide) rfl (fun ls hl => ?_)
  exact kH_5 200 u1 (-6) (nI 0)  ls (lv_sub hl [2, 3, 1, 0] rfl) hrun
def p_X4_isShared_51 (M : Ob) (K : Int32 → Int32 → Int32 → Int32 → Option (Int32)) (x1 : Int32) (x4 : Int32) (x5 : Int32) (y0 : Int32) (y1 : Int32)  : Option (Int32) := K x1 x5 (y1 + y0) (x4 + nI 1)
def p_X4_isShared_50 (M : Ob) (K : Int32 → Int32 → Int32 → Int32 → Option (Int32)) (x1 : Int32) (x4 : Int32) (x5 : Int32) (y0 : Int32)  : Option (Int32) := p_X4_isShared_51 M K x1 x4 x5 (nI 0) y0
def p_X4_isShared_8 (M : Ob) : Nat → Int32 → Int32 → Int32 → Int32 → Option (Int32)
  | 0, _, _, _, _ => none
  | n + 1, x1, x2, x3, x4 => ((ldI (M 9) 130 x1).bind fun v_1 => (if v_1 ≤ x4 then (if x3 ≤ (nI 1) then (some (nI 0)) else (some (nI 1))) else ((ldI (M 8) 130 x1).bind fun v_5 => ((p_X4_chapterOf M (v_5 + x4)).bind fun v_7 => (if v_7 < nI 0 then p_X4_isShared_50 M (p_X4_isShared_8 M n) x1 x4 v_7 x3 else (if v_7 = x2 then p_X4_isShared_50 M (p_X4_isShared_8 M n) x1 x4 v_7 x3 else p_X4_isShared_51 M (p_X4_isShared_8 M n) x1 x4 v_7 (nI 1) x3))))))
def p_X4_isShared (M : Ob) (u1 : Int32)  : Option (Int32) := p_X4_isShared_8 M 200 u1 (-6) (nI 0) (nI 0)
abbrev rmX4_isShared : Room := { frames := 3, cells := 0, slots := 0, locals := 65 }
set_option maxHeartbeats 4000000 in
set_option maxRecDepth 100000 in
theorem c_X4_isShared (l : Launch) (G : GT) (am : Nat → Nat) (M : Ob) (u1 : Int32) (r0 : Int32) (hrun : p_X4_isShared M u1 = some r0) : Met l yX4_isShared wsX4_isShared rmX4_isShared (PreR G [.ref (am 0), .int u1] (wMod G am M)) (Rz r0) 0 0 (fun _ => False) := by
  refine Met.ofW (cc := cX4_isShared) (maxL := 6) (ret := (some .boolean)) (by decide) rfl ?_
  intro p e s m args below meth c s₁ Bd hml hv
  obtain ⟨rfl, hP, hC⟩ := hv
  have hx := Bd.exec
  have hb := Bd.bytes
  have hr := Bd.returns
  have hts := atoms_spec (ws := wsX4_isShared) Bd.pre
  have hown : s.vm.findClass RX4 = some m.cls := findClass_of_methodNamed Bd.named
  have hlocks := Bd.notSynchronized
  have hK := hC.1
  have iwX4 : ∀ w ∈ wsX40, w ∈ wsX4_isShared := by decide +kernel
  have ha0 := hts (.fieldLink RX4 35 "HeadMarksModel" "linesOn" "[I") (by decide +kernel)
  have ha1 := hts (.fieldLink RX4 32 "HeadMarksModel" "firstOn" "[I") (by decide +kernel)
  have kH_8 : ∀ (n : Nat) (x1 x2 x3 x4 : Int32) , ∀ (ls : Array Slot), lv_has ls 6 [(0, .ref (am 0)), (1, .int x1), (2, .int x2), (3, .int x3), (4, .int x4)] → p_X4_isShared_8 M n x1 x2 x3 x4 = some r0 → W p l e (headSpec wsX4_isShared rmX4_isShared).room s m ([.ref (am 0), .int u1] : List Value).toArray below meth c s.heap [] 0 0 (MQ below (Rz r0) ([.ref (am 0), .int u1] : List Value).toArray s 0 0 (fun _ => False)) (F0 m 8 ls []) := by
    intro n
    induction n with
    | zero => intro x1 x2 x3 x4 ls hl hrun; exact absurd (hrun : (none : Option (Int32)) = some r0) (fun h => by cases h)
    | succ n ih =>
      have kJ_51 : ∀ (x1 x4 x5 y0 y1 : Int32) , ∀ (ls : Array Slot), lv_has ls 6 [(0, .ref (am 0)), (1, .int x1), (4, .int x4), (5, .int x5)] → p_X4_isShared_51 M (p_X4_isShared_8 M n) x1 x4 x5 y0 y1 = some r0 → W p l e (headSpec wsX4_isShared rmX4_isShared).room s m ([.ref (am 0), .int u1] : List Value).toArray below meth c s.heap [] 0 0 (MQ below (Rz r0) ([.ref (am 0), .int u1] : List Value).toArray s 0 0 (fun _ => False)) (F0 m 51 ls [.int y0, .int y1]) := by
        intro x1 x4 x5 y0 y1 ls hl hrun
        rw [p_X4_isShared_51] at hrun
        refine lv_iadd hx hb dX4_isShared_51 ?_
        refine lv_istore_n (lv' := [(3, .int (y1 + y0)), (0, .ref (am 0)), (1, .int x1), (4, .int x4), (5, .int x5)]) hx hb dX4_isShared_52 rfl hl (by decide) rfl (fun ls hl => ?_)
        refine lv_iload hx hb dX4_isShared_53 (lv_at hl 4 rfl) ?_
        refine lv_istore_n (lv' := [(2, .int x5), (3, .int (y1 + y0)), (0, .ref (am 0)), (1, .int x1), (4, .int x4), (5, .int x5)]) hx hb dX4_isShared_55 rfl hl (by decide) rfl (fun ls hl => ?_)
        refine lv_iinc (v := (x4 + nI 1)) (lv' := [(4, .int (x4 + nI 1)), (2, .int x5), (3, .int (y1 + y0)), (0, .ref (am 0)), (1, .int x1), (5, .int x5)]) hx hb dX4_isShared_56 hl (k := 4) rfl rfl (by decide) rfl (fun ls hl => ?_)
        refine lv_goto (tgt := 8) hx hb dX4_isShared_59 (by decide) ?_
        exact ih x1 x5 (y1 + y0) (x4 + nI 1)  ls (lv_sub hl [3, 4, 1, 2, 0] rfl) hrun
      have kJ_50 : ∀ (x1 x4 x5 y0 : Int32) , ∀ (ls : Array Slot), lv_has ls 6 [(0, .ref (am 0)), (1, .int x1), (4, .int x4), (5, .int x5)] → p_X4_isShared_50 M (p_X4_isShared_8 M n) x1 x4 x5 y0 = some r0 → W p l e (headSpec wsX4_isShared rmX4_isShared).room s m ([.ref (am 0), .int u1] : List Value).toArray below meth c s.heap [] 0 0 (MQ below (Rz r0) ([.ref (am 0), .int u1] : List Value).toArray s 0 0 (fun _ => False)) (F0 m 50 ls [.int y0]) := by
        intro x1 x4 x5 y0 ls hl hrun
        rw [p_X4_isShared_50] at hrun
        refine lv_iconst (v := nI 0) hx hb dX4_isShared_50 (by decide) ?_
        exact kJ_51 x1 x4 x5 (nI 0) y0  ls (lv_sub hl [0, 1, 2, 3] rfl) hrun
      intro x1 x2 x3 x4 ls hl hrun
      rw [p_X4_isShared_8] at hrun
      refine lv_iload hx hb dX4_isShared_8 (lv_at hl 4 rfl) ?_
      refine lv_aload_n hx hb dX4_isShared_10 rfl (lv_at hl 0 rfl) ?_
      refine va_get (D := G.1) (ci := 4) (v := .ref (am 9)) (C := RX4) (T := TX4) (N := 12) hx hb hts iwX4 hown hK hP 0 rfl rfl 9 (by decide) ha0 (fun _ h9 => h9) rfl dX4_isShared_11 ?_
      refine lv_iload_n hx hb dX4_isShared_14 rfl (lv_at hl 1 rfl) ?_
      obtain ⟨v_1, e_2, hrun⟩ := bd hrun
      refine y_ald hx hb hK hP 9 0 rfl rfl e_2 dX4_isShared_15 ?_
      refine lv_icmp_ge (tgt := 62) hx hb dX4_isShared_16 (by decide) (fun c_3 => ?_) (fun c_3 => ?_)
      · replace hrun := it_pos c_3 hrun
        refine lv_iload_n hx hb dX4_isShared_62 rfl (lv_at hl 3 rfl) ?_
        refine lv_iconst (v := nI 1) hx hb dX4_isShared_63 (by decide) ?_
        refine lv_icmp_le (tgt := 71) hx hb dX4_isShared_64 (by decide) (fun c_4 => ?_) (fun c_4 => ?_)
        · replace hrun := it_pos c_4 hrun
          refine lv_iconst (v := nI 0) hx hb dX4_isShared_71 (by decide) ?_
          exact W.zret (v := (nI 0)) hx hb hr (by rfl) (fun t ht hW => ⟨(nI 0), rfl, ⟨si hrun, by rfl⟩, ht⟩) (fun _ h => absurd h List.not_mem_nil) dX4_isShared_72
        · replace hrun := it_neg c_4 hrun
          refine lv_iconst (v := nI 1) hx hb dX4_isShared_67 (by decide) ?_
          refine lv_goto (tgt := 72) hx hb dX4_isShared_68 (by decide) ?_
          exact W.zret (v := (nI 1)) hx hb hr (by rfl) (fun t ht hW => ⟨(nI 1), rfl, ⟨si hrun, by rfl⟩, ht⟩) (fun _ h => absurd h List.not_mem_nil) dX4_isShared_72
      · replace hrun := it_neg c_3 hrun
        refine lv_aload_n hx hb dX4_isShared_19 rfl (lv_at hl 0 rfl) ?_
        refine lv_aload_n hx hb dX4_isShared_20 rfl (lv_at hl 0 rfl) ?_
        refine va_get (D := G.1) (ci := 4) (v := .ref (am 8)) (C := RX4) (T := TX4) (N := 12) hx hb hts iwX4 hown hK hP 0 rfl rfl 8 (by decide) ha1 (fun _ h9 => h9) rfl dX4_isShared_21 ?_
        refine lv_iload_n hx hb dX4_isShared_24 rfl (lv_at hl 1 rfl) ?_
        obtain ⟨v_5, e_6, hrun⟩ := bd hrun
        refine y_ald hx hb hK hP 8 0 rfl rfl e_6 dX4_isShared_25 ?_
        refine lv_iload hx hb dX4_isShared_26 (lv_at hl 4 rfl) ?_
        refine lv_iadd hx hb dX4_isShared_28 ?_
        obtain ⟨v_7, e_8, hrun⟩ := bd hrun
        refine y_ro (va_runV (As := [.int (v_5 + x4)]) (rest := []) ⟨hx, hb, hml, hown, hts⟩ (c_X4_chapterOf l G am M (v_5 + x4) v_7 e_8) (cwV 1 hts gX4_isShared_X4_chapterOf rfl rfl rfl (by decide +kernel) ⟨Nat.le_of_ble_eq_true rfl, Nat.le_of_ble_eq_true rfl⟩) ⟨PreR.blind, va_recv hK hP (ci := 4) (q0 := 0) rfl rfl, y_preR hC hP⟩ rfl rfl hl.1 rfl (lv_room (Nat.le_of_ble_eq_true rfl)) dX4_isShared_29 ⟨Nat.zero_le _, Nat.zero_le _⟩) ?_
        refine lv_istore (lv' := [(5, .int v_7), (0, .ref (am 0)), (1, .int x1), (2, .int x2), (3, .int x3), (4, .int x4)]) hx hb dX4_isShared_32 hl (by decide) rfl (fun ls hl => ?_)
        refine lv_iload_n hx hb dX4_isShared_34 rfl (lv_at hl 4 rfl) ?_
        refine lv_iload hx hb dX4_isShared_35 (lv_at hl 0 rfl) ?_
        refine lv_if_lt (tgt := 50) hx hb dX4_isShared_37 (by decide) (fun c_9 => ?_) (fun c_9 => ?_)
        · replace hrun := it_pos c_9 hrun
          exact kJ_50 x1 x4 v_7 x3  ls (lv_sub hl [1, 2, 5, 0] rfl) hrun
        · replace hrun := it_neg c_9 hrun
          refine lv_iload hx hb dX4_isShared_40 (lv_at hl 0 rfl) ?_
          refine lv_iload_n hx hb dX4_isShared_42 rfl (lv_at hl 3 rfl) ?_
          refine lv_icmp_eq (tgt := 50) hx hb dX4_isShared_43 (by decide) (fun c_10 => ?_) (fun c_10 => ?_)
          · replace hrun := it_pos c_10 hrun
            exact kJ_50 x1 x4 v_7 x3  ls (lv_sub hl [1, 2, 5, 0] rfl) hrun
          · replace hrun := it_neg c_10 hrun
            refine lv_iconst (v := nI 1) hx hb dX4_isShared_46 (by decide) ?_
            refine lv_goto (tgt := 51) hx hb dX4_isShared_47 (by decide) ?_
            exact kJ_51 x1 x4 v_7 (nI 1) x3  ls (lv_sub hl [1, 2, 5, 0] rfl) hrun
  have hl := lv_entry [.ref (am 0), .int u1] (n := 6) (Nat.le_of_ble_eq_true rfl)
  rw [lg_entry_eq]
  generalize (lg_sl [.ref (am 0), .int u1] ++ List.replicate (6 - (lg_sl [.ref (am 0), .int u1]).length) Slot.unset).toArray = ls at hl ⊢
  have hl : lv_has ls 6 [(0, .ref (am 0)), (1, .int u1)] := hl
  rw [p_X4_isShared] at hrun
  refine lv_bipush (v := -6) hx hb dX4_isShared_0 (by decide) ?_
  refine lv_istore_n (lv' := [(2, .int (-6)), (0, .ref (am 0)), (1, .int u1)]) hx hb dX4_isShared_2 rfl hl (by decide) rfl (fun ls hl => ?_)
  refine lv_iconst (v := nI 0) hx hb dX4_isShared_3 (by decide) ?_
  refine lv_istore_n (lv' := [(3, .int (nI 0)), (2, .int (-6)), (0, .ref (am 0)), (1, .int u1)]) hx hb dX4_isShared_4 rfl hl (by decide) rfl (fun ls hl => ?_)
  refine lv_iconst (v := nI 0) hx hb dX4_isShared_5 (by decide) ?_
  refine lv_istore (lv' := [(4, .int (nI 0)), (3, .int (nI 0)), (2, .int (-6)), (0, .ref (am 0)), (1, .int u1)]) hx hb dX4_isShared_6 hl (by decide) rfl (fun ls hl => ?_)
  exact kH_8 200 u1 (-6) (nI 0) (nI 0)  ls (lv_sub hl [3, 4, 2, 1, 0] rfl) hrun
def p_X4_chapters (M : Ob)   : Option (Int32) := ((p_X4_many M).bind fun v_1 => (if v_1 = nI 0 then (some (nI 0)) else ((p_X4_many M).bind fun v_4 => ((p_X4_chapterOf M (v_4 - (nI 1))).bind fun v_6 => (if nI 0 ≤ v_6 then ((p_X4_many M).bind fun v_9 => ((p_X4_chapterOf M (v_9 - (nI 1))).bind fun v_11 => (some (v_11 + (nI 1))))) else (some (nI 0)))))))
abbrev rmX4_chapters : Room := { frames := 3, cells := 0, slots := 0, locals := 65 }
set_option maxHeartbeats 4000000 in
set_option maxRecDepth 100000 in
theorem c_X4_chapters (l : Launch) (G : GT) (am : Nat → Nat) (M : Ob) (r0 : Int32) (hrun : p_X4_chapters M = some r0) : Met l yX4_chapters wsX4_chapters rmX4_chapters (PreR G [.ref (am 0)] (wMod G am M)) (Ri r0) 0 0 (fun _ => False) := by
  refine Met.ofW (cc := cX4_chapters) (maxL := 1) (ret := (some .int)) (by decide) rfl ?_
  intro p e s m args below meth c s₁ Bd hml hv
  obtain ⟨rfl, hP, hC⟩ := hv
  have hx := Bd.exec
  have hb := Bd.bytes
  have hr := Bd.returns
  have hts := atoms_spec (ws := wsX4_chapters) Bd.pre
  have hown : s.vm.findClass RX4 = some m.cls := findClass_of_methodNamed Bd.named
  have hlocks := Bd.notSynchronized
  have hK := hC.1
  have hl := lv_entry [.ref (am 0)] (n := 1) (Nat.le_of_ble_eq_true rfl)
  rw [lg_entry_eq]
  generalize (lg_sl [.ref (am 0)] ++ List.replicate (1 - (lg_sl [.ref (am 0)]).length) Slot.unset).toArray = ls at hl ⊢
  have hl : lv_has ls 1 [(0, .ref (am 0))] := hl
  rw [p_X4_chapters] at hrun
  refine lv_aload_n hx hb dX4_chapters_0 rfl (lv_at hl 0 rfl) ?_
  obtain ⟨v_1, e_2, hrun⟩ := bd hrun
  refine y_ro (va_runV (As := []) (rest := []) ⟨hx, hb, hml, hown, hts⟩ (c_X4_many l G am M  v_1 e_2) (cwV 0 hts gX4_chapters_X4_many rfl rfl rfl (by decide +kernel) ⟨Nat.le_of_ble_eq_true rfl, Nat.le_of_ble_eq_true rfl⟩) ⟨PreR.blind, va_recv hK hP (ci := 4) (q0 := 0) rfl rfl, y_preR hC hP⟩ rfl rfl hl.1 rfl (lv_room (Nat.le_of_ble_eq_true rfl)) dX4_chapters_1 ⟨Nat.zero_le _, Nat.zero_le _⟩) ?_
  refine lv_if_ne (tgt := 11) hx hb dX4_chapters_4 (by decide) (fun c_3 => ?_) (fun c_3 => ?_)
  · replace hrun := it_neg c_3 hrun
    refine lv_aload_n hx hb dX4_chapters_11 rfl (lv_at hl 0 rfl) ?_
    refine lv_aload_n hx hb dX4_chapters_12 rfl (lv_at hl 0 rfl) ?_
    obtain ⟨v_4, e_5, hrun⟩ := bd hrun
    refine y_ro (va_runV (As := []) (rest := [.ref (am 0)]) ⟨hx, hb, hml, hown, hts⟩ (c_X4_many l G am M  v_4 e_5) (cwV 0 hts gX4_chapters_X4_many rfl rfl rfl (by decide +kernel) ⟨Nat.le_of_ble_eq_true rfl, Nat.le_of_ble_eq_true rfl⟩) ⟨PreR.blind, va_recv hK hP (ci := 4) (q0 := 0) rfl rfl, y_preR hC hP⟩ rfl rfl hl.1 rfl (lv_room (Nat.le_of_ble_eq_true rfl)) dX4_chapters_13 ⟨Nat.zero_le _, Nat.zero_le _⟩) ?_
    refine lv_iconst (v := nI 1) hx hb dX4_chapters_16 (by decide) ?_
    refine lv_isub hx hb dX4_chapters_17 ?_
    obtain ⟨v_6, e_7, hrun⟩ := bd hrun
    refine y_ro (va_runV (As := [.int (v_4 - (nI 1))]) (rest := []) ⟨hx, hb, hml, hown, hts⟩ (c_X4_chapterOf l G am M (v_4 - (nI 1)) v_6 e_7) (cwV 1 hts gX4_chapters_X4_chapterOf rfl rfl rfl (by decide +kernel) ⟨Nat.le_of_ble_eq_true rfl, Nat.le_of_ble_eq_true rfl⟩) ⟨PreR.blind, va_recv hK hP (ci := 4) (q0 := 0) rfl rfl, y_preR hC hP⟩ rfl rfl hl.1 rfl (lv_room (Nat.le_of_ble_eq_true rfl)) dX4_chapters_18 ⟨Nat.zero_le _, Nat.zero_le _⟩) ?_
    refine lv_if_ge (tgt := 28) hx hb dX4_chapters_21 (by decide) (fun c_8 => ?_) (fun c_8 => ?_)
    · replace hrun := it_pos c_8 hrun
      refine lv_aload_n hx hb dX4_chapters_28 rfl (lv_at hl 0 rfl) ?_
      refine lv_aload_n hx hb dX4_chapters_29 rfl (lv_at hl 0 rfl) ?_
      obtain ⟨v_9, e_10, hrun⟩ := bd hrun
      refine y_ro (va_runV (As := []) (rest := [.ref (am 0)]) ⟨hx, hb, hml, hown, hts⟩ (c_X4_many l G am M  v_9 e_10) (cwV 0 hts gX4_chapters_X4_many rfl rfl rfl (by decide +kernel) ⟨Nat.le_of_ble_eq_true rfl, Nat.le_of_ble_eq_true rfl⟩) ⟨PreR.blind, va_recv hK hP (ci := 4) (q0 := 0) rfl rfl, y_preR hC hP⟩ rfl rfl hl.1 rfl (lv_room (Nat.le_of_ble_eq_true rfl)) dX4_chapters_30 ⟨Nat.zero_le _, Nat.zero_le _⟩) ?_
      refine lv_iconst (v := nI 1) hx hb dX4_chapters_33 (by decide) ?_
      refine lv_isub hx hb dX4_chapters_34 ?_
      obtain ⟨v_11, e_12, hrun⟩ := bd hrun
      refine y_ro (va_runV (As := [.int (v_9 - (nI 1))]) (rest := []) ⟨hx, hb, hml, hown, hts⟩ (c_X4_chapterOf l G am M (v_9 - (nI 1)) v_11 e_12) (cwV 1 hts gX4_chapters_X4_chapterOf rfl rfl rfl (by decide +kernel) ⟨Nat.le_of_ble_eq_true rfl, Nat.le_of_ble_eq_true rfl⟩) ⟨PreR.blind, va_recv hK hP (ci := 4) (q0 := 0) rfl rfl, y_preR hC hP⟩ rfl rfl hl.1 rfl (lv_room (Nat.le_of_ble_eq_true rfl)) dX4_chapters_35 ⟨Nat.zero_le _, Nat.zero_le _⟩) ?_
      refine lv_iconst (v := nI 1) hx hb dX4_chapters_38 (by decide) ?_
      refine lv_iadd hx hb dX4_chapters_39 ?_
      exact W.iret (v := (v_11 + (nI 1))) hx hb hr (fun t ht hW => ⟨(v_11 + (nI 1)), rfl, si hrun, ht⟩) (fun _ h => absurd h List.not_mem_nil) dX4_chapters_40
    · replace hrun := it_neg c_8 hrun
      refine lv_iconst (v := nI 0) hx hb dX4_chapters_24 (by decide) ?_
      refine lv_goto (tgt := 40) hx hb dX4_chapters_25 (by decide) ?_
      exact W.iret (v := (nI 0)) hx hb hr (fun t ht hW => ⟨(nI 0), rfl, si hrun, ht⟩) (fun _ h => absurd h List.not_mem_nil) dX4_chapters_40
  · replace hrun := it_pos c_3 hrun
    refine lv_iconst (v := nI 0) hx hb dX4_chapters_7 (by decide) ?_
    refine lv_goto (tgt := 40) hx hb dX4_chapters_8 (by decide) ?_
    exact W.iret (v := (nI 0)) hx hb hr (fun t ht hW => ⟨(nI 0), rfl, si hrun, ht⟩) (fun _ h => absurd h List.not_mem_nil) dX4_chapters_40
def p_X4_titleLine_28 (M : Ob) (K : Int32 → Int32 → Int32 → Option (Int32)) (x1 : Int32) (x3 : Int32) (y0 : Int32)  : Option (Int32) := K x1 y0 (x3 + (-1))
def p_X4_titleLine_10 (M : Ob) : Nat → Int32 → Int32 → Int32 → Option (Int32)
  | 0, _, _, _ => none
  | n + 1, x1, x2, x3 => (if x3 < nI 0 then (some x2) else ((p_X4_chapterOf M x3).bind fun v_4 => (if v_4 = x1 then p_X4_titleLine_28 M (p_X4_titleLine_10 M n) x1 x3 x3 else p_X4_titleLine_28 M (p_X4_titleLine_10 M n) x1 x3 x2)))
def p_X4_titleLine (M : Ob) (u1 : Int32)  : Option (Int32) := ((p_X4_many M).bind fun v_1 => p_X4_titleLine_10 M 200 u1 (-6) (v_1 - (nI 1)))
abbrev rmX4_titleLine : Room := { frames := 3, cells := 0, slots := 0, locals := 65 }
set_option maxHeartbeats 4000000 in
set_option maxRecDepth 100000 in
theorem c_X4_titleLine (l : Launch) (G : GT) (am : Nat → Nat) (M : Ob) (u1 : Int32) (r0 : Int32) (hrun : p_X4_titleLine M u1 = some r0) : Met l yX4_titleLine wsX4_titleLine rmX4_titleLine (PreR G [.ref (am 0), .int u1] (wMod G am M)) (Ri r0) 0 0 (fun _ => False) := by
  refine Met.ofW (cc := cX4_titleLine) (maxL := 4) (ret := (some .int)) (by decide) rfl ?_
  intro p e s m args below meth c s₁ Bd hml hv
  obtain ⟨rfl, hP, hC⟩ := hv
  have hx := Bd.exec
  have hb := Bd.bytes
  have hr := Bd.returns
  have hts := atoms_spec (ws := wsX4_titleLine) Bd.pre
  have hown : s.vm.findClass RX4 = some m.cls := findClass_of_methodNamed Bd.named
  have hlocks := Bd.notSynchronized
  have hK := hC.1
  have kH_10 : ∀ (n : Nat) (x1 x2 x3 : Int32) , ∀ (ls : Array Slot), lv_has ls 4 [(0, .ref (am 0)), (1, .int x1), (2, .int x2), (3, .int x3)] → p_X4_titleLine_10 M n x1 x2 x3 = some r0 → W p l e (headSpec wsX4_titleLine rmX4_titleLine).room s m ([.ref (am 0), .int u1] : List Value).toArray below meth c s.heap [] 0 0 (MQ below (Ri r0) ([.ref (am 0), .int u1] : List Value).toArray s 0 0 (fun _ => False)) (F0 m 10 ls []) := by
    intro n
    induction n with
    | zero => intro x1 x2 x3 ls hl hrun; exact absurd (hrun : (none : Option (Int32)) = some r0) (fun h => by cases h)
    | succ n ih =>
      have kJ_28 : ∀ (x1 x3 y0 : Int32) , ∀ (ls : Array Slot), lv_has ls 4 [(0, .ref (am 0)), (1, .int x1), (3, .int x3)] → p_X4_titleLine_28 M (p_X4_titleLine_10 M n) x1 x3 y0 = some r0 → W p l e (headSpec wsX4_titleLine rmX4_titleLine).room s m ([.ref (am 0), .int u1] : List Value).toArray below meth c s.heap [] 0 0 (MQ below (Ri r0) ([.ref (am 0), .int u1] : List Value).toArray s 0 0 (fun _ => False)) (F0 m 28 ls [.int y0]) := by
        intro x1 x3 y0 ls hl hrun
        rw [p_X4_titleLine_28] at hrun
        refine lv_istore_n (lv' := [(2, .int y0), (0, .ref (am 0)), (1, .int x1), (3, .int x3)]) hx hb dX4_titleLine_28 rfl hl (by decide) rfl (fun ls hl => ?_)
        refine lv_iinc (v := (x3 + (-1))) (lv' := [(3, .int (x3 + (-1))), (2, .int y0), (0, .ref (am 0)), (1, .int x1)]) hx hb dX4_titleLine_29 hl (k := 3) rfl rfl (by decide) rfl (fun ls hl => ?_)
        refine lv_goto (tgt := 10) hx hb dX4_titleLine_32 (by decide) ?_
        exact ih x1 y0 (x3 + (-1))  ls (lv_sub hl [2, 3, 1, 0] rfl) hrun
      intro x1 x2 x3 ls hl hrun
      rw [p_X4_titleLine_10] at hrun
      refine lv_iload_n hx hb dX4_titleLine_10 rfl (lv_at hl 3 rfl) ?_
      refine lv_if_lt (tgt := 35) hx hb dX4_titleLine_11 (by decide) (fun c_3 => ?_) (fun c_3 => ?_)
      · replace hrun := it_pos c_3 hrun
        refine lv_iload_n hx hb dX4_titleLine_35 rfl (lv_at hl 2 rfl) ?_
        exact W.iret (v := x2) hx hb hr (fun t ht hW => ⟨x2, rfl, si hrun, ht⟩) (fun _ h => absurd h List.not_mem_nil) dX4_titleLine_36
      · replace hrun := it_neg c_3 hrun
        refine lv_aload_n hx hb dX4_titleLine_14 rfl (lv_at hl 0 rfl) ?_
        refine lv_iload_n hx hb dX4_titleLine_15 rfl (lv_at hl 3 rfl) ?_
        obtain ⟨v_4, e_5, hrun⟩ := bd hrun
        refine y_ro (va_runV (As := [.int x3]) (rest := []) ⟨hx, hb, hml, hown, hts⟩ (c_X4_chapterOf l G am M x3 v_4 e_5) (cwV 1 hts gX4_titleLine_X4_chapterOf rfl rfl rfl (by decide +kernel) ⟨Nat.le_of_ble_eq_true rfl, Nat.le_of_ble_eq_true rfl⟩) ⟨PreR.blind, va_recv hK hP (ci := 4) (q0 := 0) rfl rfl, y_preR hC hP⟩ rfl rfl hl.1 rfl (lv_room (Nat.le_of_ble_eq_true rfl)) dX4_titleLine_16 ⟨Nat.zero_le _, Nat.zero_le _⟩) ?_
        refine lv_iload_n hx hb dX4_titleLine_19 rfl (lv_at hl 1 rfl) ?_
        refine lv_icmp_ne (tgt := 27) hx hb dX4_titleLine_20 (by decide) (fun c_6 => ?_) (fun c_6 => ?_)
        · replace hrun := it_neg c_6 hrun
          refine lv_iload_n hx hb dX4_titleLine_27 rfl (lv_at hl 2 rfl) ?_
          exact kJ_28 x1 x3 x2  ls (lv_sub hl [0, 1, 3] rfl) hrun
        · replace hrun := it_pos c_6 hrun
          refine lv_iload_n hx hb dX4_titleLine_23 rfl (lv_at hl 3 rfl) ?_
          refine lv_goto (tgt := 28) hx hb dX4_titleLine_24 (by decide) ?_
          exact kJ_28 x1 x3 x3  ls (lv_sub hl [0, 1, 3] rfl) hrun
  have hl := lv_entry [.ref (am 0), .int u1] (n := 4) (Nat.le_of_ble_eq_true rfl)
  rw [lg_entry_eq]
  generalize (lg_sl [.ref (am 0), .int u1] ++ List.replicate (4 - (lg_sl [.ref (am 0), .int u1]).length) Slot.unset).toArray = ls at hl ⊢
  have hl : lv_has ls 4 [(0, .ref (am 0)), (1, .int u1)] := hl
  rw [p_X4_titleLine] at hrun
  refine lv_bipush (v := -6) hx hb dX4_titleLine_0 (by decide) ?_
  refine lv_istore_n (lv' := [(2, .int (-6)), (0, .ref (am 0)), (1, .int u1)]) hx hb dX4_titleLine_2 rfl hl (by decide) rfl (fun ls hl => ?_)
  refine lv_aload_n hx hb dX4_titleLine_3 rfl (lv_at hl 1 rfl) ?_
  obtain ⟨v_1, e_2, hrun⟩ := bd hrun
  refine y_ro (va_runV (As := []) (rest := []) ⟨hx, hb, hml, hown, hts⟩ (c_X4_many l G am M  v_1 e_2) (cwV 0 hts gX4_titleLine_X4_many rfl rfl rfl (by decide +kernel) ⟨Nat.le_of_ble_eq_true rfl, Nat.le_of_ble_eq_true rfl⟩) ⟨PreR.blind, va_recv hK hP (ci := 4) (q0 := 0) rfl rfl, y_preR hC hP⟩ rfl rfl hl.1 rfl (lv_room (Nat.le_of_ble_eq_true rfl)) dX4_titleLine_4 ⟨Nat.zero_le _, Nat.zero_le _⟩) ?_
  refine lv_iconst (v := nI 1) hx hb dX4_titleLine_7 (by decide) ?_
  refine lv_isub hx hb dX4_titleLine_8 ?_
  refine lv_istore_n (lv' := [(3, .int (v_1 - (nI 1))), (2, .int (-6)), (0, .ref (am 0)), (1, .int u1)]) hx hb dX4_titleLine_9 rfl hl (by decide) rfl (fun ls hl => ?_)
  exact kH_10 200 u1 (-6) (v_1 - (nI 1))  ls (lv_sub hl [2, 3, 1, 0] rfl) hrun
