def p_X1_opensPage_63 (L : Ob) (B : Ob)   : Option (Int32) := (some (nI 1))
def p_X1_opensPage_45 (L : Ob) (B : Ob) (x4 : Int32) (x5 : Int32)  : Option (Int32) := (if x4 = (-6) then (some (nI 0)) else ((ldI (B 2) 9 (nI 2)).bind fun v_13 => (if v_13 ≤ x5 then (some (nI 0)) else p_X1_opensPage_63 L B)))
def p_X1_opensPage (L : Ob) (B : Ob) (u2 : Int32) (u3 : Int32)  : Option (Int32) := ((ldI (B 0) 60 u2).bind fun v_1 => ((p_X3_classOf v_1).bind fun v_3 => ((ldI (L 5) 120 (L 10 0)).bind fun v_5 => (if ((u3 - v_5) - (nI 1)) < nI 0 then p_X1_opensPage_63 L B else (if v_3 = nI 0 then ((ldI (B 2) 9 (nI 1)).bind fun v_9 => (if v_9 = nI 0 then p_X1_opensPage_45 L B v_3 ((u3 - v_5) - (nI 1)) else p_X1_opensPage_63 L B)) else p_X1_opensPage_45 L B v_3 ((u3 - v_5) - (nI 1)))))))
abbrev rmX1_opensPage : Room := { frames := 1, cells := 0, slots := 0, locals := 20 }
set_option maxHeartbeats 4000000 in
set_option maxRecDepth 100000 in
theorem c_X1_opensPage (l : Launch) (G : GT) (al ab : Nat → Nat) (L B : Ob) (u2 u3 : Int32) (r0 : Int32) (hrun : p_X1_opensPage L B u2 u3 = some r0) : Met l yX1_opensPage wsX1_opensPage rmX1_opensPage (PreR G [.ref (al 0), .ref (ab 0), .int u2, .int u3] (wLay G al L ++ wBook G ab B)) (Rz r0) 0 0 (fun _ => False) := by
  refine Met.ofW (cc := cX1_opensPage) (maxL := 6) (ret := (some .boolean)) (by decide) rfl ?_
  intro p e s m args below meth c s₁ Bd hml hv
  obtain ⟨rfl, hP, hC⟩ := hv
  have hx := Bd.exec
  have hb := Bd.bytes
  have hr := Bd.returns
  have hts := atoms_spec (ws := wsX1_opensPage) Bd.pre
  have hown : s.vm.findClass RX1 = some m.cls := findClass_of_methodNamed Bd.named
  have hlocks := Bd.notSynchronized
  have hK := hC.1
  have iwX0 : ∀ w ∈ wsX00, w ∈ wsX1_opensPage := by decide +kernel
  have iwX1 : ∀ w ∈ wsX10, w ∈ wsX1_opensPage := by decide +kernel
  have ha0 := hts (.fieldLink RX1 63 "HeadMarks$Book" "signs" "[I") (by decide +kernel)
  have ha1 := hts (.initialized RX3) (by decide +kernel)
  have ha2 := hts (.static yX3_classOf) (by decide +kernel)
  have ha3 := hts (.fieldLink RX1 26 "HeadMarks$Layout" "linesOn" "[I") (by decide +kernel)
  have ha4 := hts (.fieldLink RX1 39 "HeadMarks$Layout" "pages" "I") (by decide +kernel)
  have ha5 := hts (.fieldLink RX1 70 "HeadMarks$Book" "rules" "[I") (by decide +kernel)
  have kJ_63 : ∀ (ls : Array Slot), lv_has ls 6 [] → p_X1_opensPage_63 L B = some r0 → W p l e (headSpec wsX1_opensPage rmX1_opensPage).room s m ([.ref (al 0), .ref (ab 0), .int u2, .int u3] : List Value).toArray below meth c s.heap [] 0 0 (MQ below (Rz r0) ([.ref (al 0), .ref (ab 0), .int u2, .int u3] : List Value).toArray s 0 0 (fun _ => False)) (F0 m 63 ls []) := by
    intro  ls hl hrun
    rw [p_X1_opensPage_63] at hrun
    refine lv_iconst (v := nI 1) hx hb dX1_opensPage_63 (by decide) ?_
    refine lv_goto (tgt := 68) hx hb dX1_opensPage_64 (by decide) ?_
    exact W.zret (v := (nI 1)) hx hb hr (by rfl) (fun t ht hW => ⟨(nI 1), rfl, ⟨si hrun, by rfl⟩, ht⟩) (fun _ h => absurd h List.not_mem_nil) dX1_opensPage_68
  have kJ_45 : ∀ (x4 x5 : Int32) , ∀ (ls : Array Slot), lv_has ls 6 [(1, .ref (ab 0)), (4, .int x4), (5, .int x5)] → p_X1_opensPage_45 L B x4 x5 = some r0 → W p l e (headSpec wsX1_opensPage rmX1_opensPage).room s m ([.ref (al 0), .ref (ab 0), .int u2, .int u3] : List Value).toArray below meth c s.heap [] 0 0 (MQ below (Rz r0) ([.ref (al 0), .ref (ab 0), .int u2, .int u3] : List Value).toArray s 0 0 (fun _ => False)) (F0 m 45 ls []) := by
    intro x4 x5 ls hl hrun
    rw [p_X1_opensPage_45] at hrun
    refine lv_iload hx hb dX1_opensPage_45 (lv_at hl 1 rfl) ?_
    refine lv_bipush (v := -6) hx hb dX1_opensPage_47 (by decide) ?_
    refine lv_icmp_eq (tgt := 67) hx hb dX1_opensPage_49 (by decide) (fun c_12 => ?_) (fun c_12 => ?_)
    · replace hrun := it_pos c_12 hrun
      refine lv_iconst (v := nI 0) hx hb dX1_opensPage_67 (by decide) ?_
      exact W.zret (v := (nI 0)) hx hb hr (by rfl) (fun t ht hW => ⟨(nI 0), rfl, ⟨si hrun, by rfl⟩, ht⟩) (fun _ h => absurd h List.not_mem_nil) dX1_opensPage_68
    · replace hrun := it_neg c_12 hrun
      refine lv_iload hx hb dX1_opensPage_52 (lv_at hl 2 rfl) ?_
      refine lv_aload_n hx hb dX1_opensPage_54 rfl (lv_at hl 0 rfl) ?_
      refine va_get (D := G.1) (ci := 0) (v := .ref (ab 3)) (C := RX0) (T := TX0) (N := 4) hx hb hts iwX0 hown hK hP 12 rfl rfl 2 (by decide) ha5 (fun _ h9 => h9) rfl dX1_opensPage_55 ?_
      refine lv_iconst (v := nI 2) hx hb dX1_opensPage_58 (by decide) ?_
      obtain ⟨v_13, e_14, hrun⟩ := bd hrun
      refine y_ald hx hb hK hP 15 0 rfl rfl e_14 dX1_opensPage_59 ?_
      refine lv_icmp_ge (tgt := 67) hx hb dX1_opensPage_60 (by decide) (fun c_15 => ?_) (fun c_15 => ?_)
      · replace hrun := it_pos c_15 hrun
        refine lv_iconst (v := nI 0) hx hb dX1_opensPage_67 (by decide) ?_
        exact W.zret (v := (nI 0)) hx hb hr (by rfl) (fun t ht hW => ⟨(nI 0), rfl, ⟨si hrun, by rfl⟩, ht⟩) (fun _ h => absurd h List.not_mem_nil) dX1_opensPage_68
      · replace hrun := it_neg c_15 hrun
        exact kJ_63   ls (lv_sub hl [] rfl) hrun
  have hl := lv_entry [.ref (al 0), .ref (ab 0), .int u2, .int u3] (n := 6) (Nat.le_of_ble_eq_true rfl)
  rw [lg_entry_eq]
  generalize (lg_sl [.ref (al 0), .ref (ab 0), .int u2, .int u3] ++ List.replicate (6 - (lg_sl [.ref (al 0), .ref (ab 0), .int u2, .int u3]).length) Slot.unset).toArray = ls at hl ⊢
  have hl : lv_has ls 6 [(0, .ref (al 0)), (1, .ref (ab 0)), (2, .int u2), (3, .int u3)] := hl
  rw [p_X1_opensPage] at hrun
  refine lv_aload_n hx hb dX1_opensPage_0 rfl (lv_at hl 1 rfl) ?_
  refine va_get (D := G.1) (ci := 0) (v := .ref (ab 1)) (C := RX0) (T := TX0) (N := 4) hx hb hts iwX0 hown hK hP 12 rfl rfl 0 (by decide) ha0 (fun _ h9 => h9) rfl dX1_opensPage_1 ?_
  refine lv_iload_n hx hb dX1_opensPage_4 rfl (lv_at hl 2 rfl) ?_
  obtain ⟨v_1, e_2, hrun⟩ := bd hrun
  refine y_ald hx hb hK hP 13 0 rfl rfl e_2 dX1_opensPage_5 ?_
  obtain ⟨v_3, e_4, hrun⟩ := bd hrun
  refine y_ro (va_runSN (As := [.int v_1]) (rest := []) ⟨hx, hb, hml, hown, hts⟩ (c_X3_classOf l G   v_1 v_3 e_4) ⟨va_cnB 1 hts ggX1_opensPage_X3_classOf rfl rfl rfl hC.2.2.1 ha1 (by decide +kernel) ⟨Nat.le_of_ble_eq_true rfl, Nat.le_of_ble_eq_true rfl⟩, ha2, trivial⟩ ⟨PreR.blind, y_preR hC (fun _ _ h => by cases h)⟩ rfl rfl hl.1 rfl (lv_room (Nat.le_of_ble_eq_true rfl)) dX1_opensPage_6 ⟨Nat.zero_le _, Nat.zero_le _⟩) ?_
  refine lv_istore (lv' := [(4, .int v_3), (0, .ref (al 0)), (1, .ref (ab 0)), (2, .int u2), (3, .int u3)]) hx hb dX1_opensPage_9 hl (by decide) rfl (fun ls hl => ?_)
  refine lv_iload_n hx hb dX1_opensPage_11 rfl (lv_at hl 4 rfl) ?_
  refine lv_aload_n hx hb dX1_opensPage_12 rfl (lv_at hl 1 rfl) ?_
  refine va_get (D := G.1) (ci := 1) (v := .ref (al 7)) (C := RX1) (T := TX1) (N := 9) hx hb hts iwX1 hown hK hP 0 rfl rfl 4 (by decide) ha3 (fun _ h9 => h9) rfl dX1_opensPage_13 ?_
  refine lv_aload_n hx hb dX1_opensPage_16 rfl (lv_at hl 1 rfl) ?_
  refine va_get (D := G.1) (ci := 1) (v := .int (L 10 0)) (C := RX1) (T := TX1) (N := 9) hx hb hts iwX1 hown hK hP 0 rfl rfl 8 (by decide) ha4 (fun _ h9 => h9) rfl dX1_opensPage_17 ?_
  obtain ⟨v_5, e_6, hrun⟩ := bd hrun
  refine y_ald hx hb hK hP 7 0 rfl rfl e_6 dX1_opensPage_20 ?_
  refine lv_isub hx hb dX1_opensPage_21 ?_
  refine lv_iconst (v := nI 1) hx hb dX1_opensPage_22 (by decide) ?_
  refine lv_isub hx hb dX1_opensPage_23 ?_
  refine lv_istore (lv' := [(5, .int ((u3 - v_5) - (nI 1))), (4, .int v_3), (0, .ref (al 0)), (1, .ref (ab 0)), (2, .int u2), (3, .int u3)]) hx hb dX1_opensPage_24 hl (by decide) rfl (fun ls hl => ?_)
  refine lv_iload hx hb dX1_opensPage_26 (lv_at hl 0 rfl) ?_
  refine lv_if_lt (tgt := 63) hx hb dX1_opensPage_28 (by decide) (fun c_7 => ?_) (fun c_7 => ?_)
  · replace hrun := it_pos c_7 hrun
    exact kJ_63   ls (lv_sub hl [] rfl) hrun
  · replace hrun := it_neg c_7 hrun
    refine lv_iload hx hb dX1_opensPage_31 (lv_at hl 1 rfl) ?_
    refine lv_if_ne (tgt := 45) hx hb dX1_opensPage_33 (by decide) (fun c_8 => ?_) (fun c_8 => ?_)
    · replace hrun := it_neg c_8 hrun
      exact kJ_45 v_3 ((u3 - v_5) - (nI 1))  ls (lv_sub hl [3, 1, 0] rfl) hrun
    · replace hrun := it_pos c_8 hrun
      refine lv_aload_n hx hb dX1_opensPage_36 rfl (lv_at hl 3 rfl) ?_
      refine va_get (D := G.1) (ci := 0) (v := .ref (ab 3)) (C := RX0) (T := TX0) (N := 4) hx hb hts iwX0 hown hK hP 12 rfl rfl 2 (by decide) ha5 (fun _ h9 => h9) rfl dX1_opensPage_37 ?_
      refine lv_iconst (v := nI 1) hx hb dX1_opensPage_40 (by decide) ?_
      obtain ⟨v_9, e_10, hrun⟩ := bd hrun
      refine y_ald hx hb hK hP 15 0 rfl rfl e_10 dX1_opensPage_41 ?_
      refine lv_if_ne (tgt := 63) hx hb dX1_opensPage_42 (by decide) (fun c_11 => ?_) (fun c_11 => ?_)
      · replace hrun := it_neg c_11 hrun
        exact kJ_63   ls (lv_sub hl [] rfl) hrun
      · replace hrun := it_pos c_11 hrun
        exact kJ_45 v_3 ((u3 - v_5) - (nI 1))  ls (lv_sub hl [3, 1, 0] rfl) hrun
def p_X1_headOf_90 (L : Ob) (B : Ob) (x2 : Int32) (x3 : Int32) (y0 : Int32)  : Option (Int32) := ((p_X1_markOf L x2 x3 y0).bind fun v_30 => (some v_30))
def p_X1_headOf_65 (L : Ob) (B : Ob) (x2 : Int32) (y0 : Int32)  : Option (Int32) := ((p_X1_isLeft x2).bind fun v_22 => (if v_22 = nI 0 then ((ldI (B 2) 9 (nI 8)).bind fun v_26 => p_X1_headOf_90 L B x2 y0 v_26) else ((ldI (B 2) 9 (nI 7)).bind fun v_28 => p_X1_headOf_90 L B x2 y0 v_28)))
def p_X1_headOf_42 (L : Ob) (B : Ob) (x2 : Int32)  : Option (Int32) := ((p_X1_isLeft x2).bind fun v_14 => (if v_14 = nI 0 then ((ldI (B 2) 9 (nI 6)).bind fun v_18 => p_X1_headOf_65 L B x2 v_18) else ((ldI (B 2) 9 (nI 5)).bind fun v_20 => p_X1_headOf_65 L B x2 v_20)))
def p_X1_headOf (L : Ob) (B : Ob) (u2 : Int32)  : Option (Int32) := ((ldI (L 5) 120 u2).bind fun v_1 => (if v_1 = nI 0 then (some (-6)) else ((ldI (B 2) 9 (nI 4)).bind fun v_4 => (if v_4 = (nI 1) then ((ldI (L 4) 120 u2).bind fun v_7 => ((ldI (B 0) 60 v_7).bind fun v_9 => ((p_X3_classOf v_9).bind fun v_11 => (if v_11 = nI 0 then (some (-6)) else p_X1_headOf_42 L B u2)))) else p_X1_headOf_42 L B u2))))
abbrev rmX1_headOf : Room := { frames := 2, cells := 0, slots := 0, locals := 45 }
set_option maxHeartbeats 4000000 in
set_option maxRecDepth 100000 in
theorem c_X1_headOf (l : Launch) (G : GT) (al ab : Nat → Nat) (L B : Ob) (u2 : Int32) (r0 : Int32) (hrun : p_X1_headOf L B u2 = some r0) : Met l yX1_headOf wsX1_headOf rmX1_headOf (PreR G [.ref (al 0), .ref (ab 0), .int u2] (wLay G al L ++ wBook G ab B)) (Ri r0) 0 0 (fun _ => False) := by
  refine Met.ofW (cc := cX1_headOf) (maxL := 5) (ret := (some .int)) (by decide) rfl ?_
  intro p e s m args below meth c s₁ Bd hml hv
  obtain ⟨rfl, hP, hC⟩ := hv
  have hx := Bd.exec
  have hb := Bd.bytes
  have hr := Bd.returns
  have hts := atoms_spec (ws := wsX1_headOf) Bd.pre
  have hown : s.vm.findClass RX1 = some m.cls := findClass_of_methodNamed Bd.named
  have hlocks := Bd.notSynchronized
  have hK := hC.1
  have iwX0 : ∀ w ∈ wsX00, w ∈ wsX1_headOf := by decide +kernel
  have iwX1 : ∀ w ∈ wsX10, w ∈ wsX1_headOf := by decide +kernel
  have ha0 := hts (.fieldLink RX1 26 "HeadMarks$Layout" "linesOn" "[I") (by decide +kernel)
  have ha1 := hts (.fieldLink RX1 70 "HeadMarks$Book" "rules" "[I") (by decide +kernel)
  have ha2 := hts (.fieldLink RX1 63 "HeadMarks$Book" "signs" "[I") (by decide +kernel)
  have ha3 := hts (.fieldLink RX1 23 "HeadMarks$Layout" "linesAhead" "[I") (by decide +kernel)
  have ha4 := hts (.initialized RX3) (by decide +kernel)
  have ha5 := hts (.static yX3_classOf) (by decide +kernel)
  have kJ_90 : ∀ (x2 x3 y0 : Int32) , ∀ (ls : Array Slot), lv_has ls 5 [(0, .ref (al 0)), (2, .int x2), (3, .int x3)] → p_X1_headOf_90 L B x2 x3 y0 = some r0 → W p l e (headSpec wsX1_headOf rmX1_headOf).room s m ([.ref (al 0), .ref (ab 0), .int u2] : List Value).toArray below meth c s.heap [] 0 0 (MQ below (Ri r0) ([.ref (al 0), .ref (ab 0), .int u2] : List Value).toArray s 0 0 (fun _ => False)) (F0 m 90 ls [.int y0]) := by
    intro x2 x3 y0 ls hl hrun
    rw [p_X1_headOf_90] at hrun
    refine lv_istore (lv' := [(4, .int y0), (0, .ref (al 0)), (2, .int x2), (3, .int x3)]) hx hb dX1_headOf_90 hl (by decide) rfl (fun ls hl => ?_)
    refine lv_aload_n hx hb dX1_headOf_92 rfl (lv_at hl 1 rfl) ?_
    refine lv_iload_n hx hb dX1_headOf_93 rfl (lv_at hl 2 rfl) ?_
    refine lv_iload_n hx hb dX1_headOf_94 rfl (lv_at hl 3 rfl) ?_
    refine lv_iload hx hb dX1_headOf_95 (lv_at hl 0 rfl) ?_
    obtain ⟨v_30, e_31, hrun⟩ := bd hrun
    refine y_ro (va_runV (As := [.int x2, .int x3, .int y0]) (rest := []) ⟨hx, hb, hml, hown, hts⟩ (c_X1_markOf l G al L x2 x3 y0 v_30 e_31) (cwV 3 hts gX1_headOf_X1_markOf rfl rfl rfl (by decide +kernel) ⟨Nat.le_of_ble_eq_true rfl, Nat.le_of_ble_eq_true rfl⟩) ⟨PreR.blind, va_recv hK hP (ci := 1) (q0 := 0) rfl rfl, y_preR hC (hP.sub (ws' := wLay G al L) [0, 1, 2, 3, 4, 5, 6, 7, 8, 9, 10, 11] rfl)⟩ rfl rfl hl.1 rfl (lv_room (Nat.le_of_ble_eq_true rfl)) dX1_headOf_97 ⟨Nat.zero_le _, Nat.zero_le _⟩) ?_
    exact W.iret (v := v_30) hx hb hr (fun t ht hW => ⟨v_30, rfl, si hrun, ht⟩) (fun _ h => absurd h List.not_mem_nil) dX1_headOf_100
  have kJ_65 : ∀ (x2 y0 : Int32) , ∀ (ls : Array Slot), lv_has ls 5 [(0, .ref (al 0)), (1, .ref (ab 0)), (2, .int x2)] → p_X1_headOf_65 L B x2 y0 = some r0 → W p l e (headSpec wsX1_headOf rmX1_headOf).room s m ([.ref (al 0), .ref (ab 0), .int u2] : List Value).toArray below meth c s.heap [] 0 0 (MQ below (Ri r0) ([.ref (al 0), .ref (ab 0), .int u2] : List Value).toArray s 0 0 (fun _ => False)) (F0 m 65 ls [.int y0]) := by
    intro x2 y0 ls hl hrun
    rw [p_X1_headOf_65] at hrun
    refine lv_istore_n (lv' := [(3, .int y0), (0, .ref (al 0)), (1, .ref (ab 0)), (2, .int x2)]) hx hb dX1_headOf_65 rfl hl (by decide) rfl (fun ls hl => ?_)
    refine lv_iload_n hx hb dX1_headOf_66 rfl (lv_at hl 3 rfl) ?_
    obtain ⟨v_22, e_23, hrun⟩ := bd hrun
    refine y_roz (va_runS (As := [.int x2]) (rest := []) ⟨hx, hb, hml, hown, hts⟩ (c_X1_isLeft l G   x2 v_22 e_23) (cwS 1 hts gX1_headOf_X1_isLeft rfl rfl rfl (by decide +kernel) ⟨Nat.le_of_ble_eq_true rfl, Nat.le_of_ble_eq_true rfl⟩) ⟨PreR.blind, y_preR hC (fun _ _ h => by cases h)⟩ rfl rfl hl.1 rfl (lv_room (Nat.le_of_ble_eq_true rfl)) dX1_headOf_67 ⟨Nat.zero_le _, Nat.zero_le _⟩) (fun z_24 => ?_)
    refine lv_if_eq (tgt := 83) hx hb dX1_headOf_70 (by decide) (fun c_25 => ?_) (fun c_25 => ?_)
    · replace hrun := it_pos c_25 hrun
      refine lv_aload_n hx hb dX1_headOf_83 rfl (lv_at hl 2 rfl) ?_
      refine va_get (D := G.1) (ci := 0) (v := .ref (ab 3)) (C := RX0) (T := TX0) (N := 4) hx hb hts iwX0 hown hK hP 12 rfl rfl 2 (by decide) ha1 (fun _ h9 => h9) rfl dX1_headOf_84 ?_
      refine lv_bipush (v := nI 8) hx hb dX1_headOf_87 (by decide) ?_
      obtain ⟨v_26, e_27, hrun⟩ := bd hrun
      refine y_ald hx hb hK hP 15 0 rfl rfl e_27 dX1_headOf_89 ?_
      exact kJ_90 x2 y0 v_26  ls (lv_sub hl [1, 3, 0] rfl) hrun
    · replace hrun := it_neg c_25 hrun
      refine lv_aload_n hx hb dX1_headOf_73 rfl (lv_at hl 2 rfl) ?_
      refine va_get (D := G.1) (ci := 0) (v := .ref (ab 3)) (C := RX0) (T := TX0) (N := 4) hx hb hts iwX0 hown hK hP 12 rfl rfl 2 (by decide) ha1 (fun _ h9 => h9) rfl dX1_headOf_74 ?_
      refine lv_bipush (v := nI 7) hx hb dX1_headOf_77 (by decide) ?_
      obtain ⟨v_28, e_29, hrun⟩ := bd hrun
      refine y_ald hx hb hK hP 15 0 rfl rfl e_29 dX1_headOf_79 ?_
      refine lv_goto (tgt := 90) hx hb dX1_headOf_80 (by decide) ?_
      exact kJ_90 x2 y0 v_28  ls (lv_sub hl [1, 3, 0] rfl) hrun
  have kJ_42 : ∀ (x2 : Int32) , ∀ (ls : Array Slot), lv_has ls 5 [(0, .ref (al 0)), (1, .ref (ab 0)), (2, .int x2)] → p_X1_headOf_42 L B x2 = some r0 → W p l e (headSpec wsX1_headOf rmX1_headOf).room s m ([.ref (al 0), .ref (ab 0), .int u2] : List Value).toArray below meth c s.heap [] 0 0 (MQ below (Ri r0) ([.ref (al 0), .ref (ab 0), .int u2] : List Value).toArray s 0 0 (fun _ => False)) (F0 m 42 ls []) := by
    intro x2 ls hl hrun
    rw [p_X1_headOf_42] at hrun
    refine lv_iload_n hx hb dX1_headOf_42 rfl (lv_at hl 2 rfl) ?_
    obtain ⟨v_14, e_15, hrun⟩ := bd hrun
    refine y_roz (va_runS (As := [.int x2]) (rest := []) ⟨hx, hb, hml, hown, hts⟩ (c_X1_isLeft l G   x2 v_14 e_15) (cwS 1 hts gX1_headOf_X1_isLeft rfl rfl rfl (by decide +kernel) ⟨Nat.le_of_ble_eq_true rfl, Nat.le_of_ble_eq_true rfl⟩) ⟨PreR.blind, y_preR hC (fun _ _ h => by cases h)⟩ rfl rfl hl.1 rfl (lv_room (Nat.le_of_ble_eq_true rfl)) dX1_headOf_43 ⟨Nat.zero_le _, Nat.zero_le _⟩) (fun z_16 => ?_)
    refine lv_if_eq (tgt := 58) hx hb dX1_headOf_46 (by decide) (fun c_17 => ?_) (fun c_17 => ?_)
    · replace hrun := it_pos c_17 hrun
      refine lv_aload_n hx hb dX1_headOf_58 rfl (lv_at hl 1 rfl) ?_
      refine va_get (D := G.1) (ci := 0) (v := .ref (ab 3)) (C := RX0) (T := TX0) (N := 4) hx hb hts iwX0 hown hK hP 12 rfl rfl 2 (by decide) ha1 (fun _ h9 => h9) rfl dX1_headOf_59 ?_
      refine lv_bipush (v := nI 6) hx hb dX1_headOf_62 (by decide) ?_
      obtain ⟨v_18, e_19, hrun⟩ := bd hrun
      refine y_ald hx hb hK hP 15 0 rfl rfl e_19 dX1_headOf_64 ?_
      exact kJ_65 x2 v_18  ls (lv_sub hl [0, 1, 2] rfl) hrun
    · replace hrun := it_neg c_17 hrun
      refine lv_aload_n hx hb dX1_headOf_49 rfl (lv_at hl 1 rfl) ?_
      refine va_get (D := G.1) (ci := 0) (v := .ref (ab 3)) (C := RX0) (T := TX0) (N := 4) hx hb hts iwX0 hown hK hP 12 rfl rfl 2 (by decide) ha1 (fun _ h9 => h9) rfl dX1_headOf_50 ?_
      refine lv_iconst (v := nI 5) hx hb dX1_headOf_53 (by decide) ?_
      obtain ⟨v_20, e_21, hrun⟩ := bd hrun
      refine y_ald hx hb hK hP 15 0 rfl rfl e_21 dX1_headOf_54 ?_
      refine lv_goto (tgt := 65) hx hb dX1_headOf_55 (by decide) ?_
      exact kJ_65 x2 v_20  ls (lv_sub hl [0, 1, 2] rfl) hrun
  have hl := lv_entry [.ref (al 0), .ref (ab 0), .int u2] (n := 5) (Nat.le_of_ble_eq_true rfl)
  rw [lg_entry_eq]
  generalize (lg_sl [.ref (al 0), .ref (ab 0), .int u2] ++ List.replicate (5 - (lg_sl [.ref (al 0), .ref (ab 0), .int u2]).length) Slot.unset).toArray = ls at hl ⊢
  have hl : lv_has ls 5 [(0, .ref (al 0)), (1, .ref (ab 0)), (2, .int u2)] := hl
  rw [p_X1_headOf] at hrun
  refine lv_aload_n hx hb dX1_headOf_0 rfl (lv_at hl 0 rfl) ?_
  refine va_get (D := G.1) (ci := 1) (v := .ref (al 7)) (C := RX1) (T := TX1) (N := 9) hx hb hts iwX1 hown hK hP 0 rfl rfl 4 (by decide) ha0 (fun _ h9 => h9) rfl dX1_headOf_1 ?_
  refine lv_iload_n hx hb dX1_headOf_4 rfl (lv_at hl 2 rfl) ?_
  obtain ⟨v_1, e_2, hrun⟩ := bd hrun
  refine y_ald hx hb hK hP 7 0 rfl rfl e_2 dX1_headOf_5 ?_
  refine lv_if_ne (tgt := 12) hx hb dX1_headOf_6 (by decide) (fun c_3 => ?_) (fun c_3 => ?_)
  · replace hrun := it_neg c_3 hrun
    refine lv_aload_n hx hb dX1_headOf_12 rfl (lv_at hl 1 rfl) ?_
    refine va_get (D := G.1) (ci := 0) (v := .ref (ab 3)) (C := RX0) (T := TX0) (N := 4) hx hb hts iwX0 hown hK hP 12 rfl rfl 2 (by decide) ha1 (fun _ h9 => h9) rfl dX1_headOf_13 ?_
    refine lv_iconst (v := nI 4) hx hb dX1_headOf_16 (by decide) ?_
    obtain ⟨v_4, e_5, hrun⟩ := bd hrun
    refine y_ald hx hb hK hP 15 0 rfl rfl e_5 dX1_headOf_17 ?_
    refine lv_iconst (v := nI 1) hx hb dX1_headOf_18 (by decide) ?_
    refine lv_icmp_ne (tgt := 42) hx hb dX1_headOf_19 (by decide) (fun c_6 => ?_) (fun c_6 => ?_)
    · replace hrun := it_neg c_6 hrun
      exact kJ_42 u2  ls (lv_sub hl [0, 1, 2] rfl) hrun
    · replace hrun := it_pos c_6 hrun
      refine lv_aload_n hx hb dX1_headOf_22 rfl (lv_at hl 1 rfl) ?_
      refine va_get (D := G.1) (ci := 0) (v := .ref (ab 1)) (C := RX0) (T := TX0) (N := 4) hx hb hts iwX0 hown hK hP 12 rfl rfl 0 (by decide) ha2 (fun _ h9 => h9) rfl dX1_headOf_23 ?_
      refine lv_aload_n hx hb dX1_headOf_26 rfl (lv_at hl 0 rfl) ?_
      refine va_get (D := G.1) (ci := 1) (v := .ref (al 6)) (C := RX1) (T := TX1) (N := 9) hx hb hts iwX1 hown hK hP 0 rfl rfl 3 (by decide) ha3 (fun _ h9 => h9) rfl dX1_headOf_27 ?_
      refine lv_iload_n hx hb dX1_headOf_30 rfl (lv_at hl 2 rfl) ?_
      obtain ⟨v_7, e_8, hrun⟩ := bd hrun
      refine y_ald hx hb hK hP 6 0 rfl rfl e_8 dX1_headOf_31 ?_
      obtain ⟨v_9, e_10, hrun⟩ := bd hrun
      refine y_ald hx hb hK hP 13 0 rfl rfl e_10 dX1_headOf_32 ?_
      obtain ⟨v_11, e_12, hrun⟩ := bd hrun
      refine y_ro (va_runSN (As := [.int v_9]) (rest := []) ⟨hx, hb, hml, hown, hts⟩ (c_X3_classOf l G   v_9 v_11 e_12) ⟨va_cnB 1 hts ggX1_headOf_X3_classOf rfl rfl rfl hC.2.2.1 ha4 (by decide +kernel) ⟨Nat.le_of_ble_eq_true rfl, Nat.le_of_ble_eq_true rfl⟩, ha5, trivial⟩ ⟨PreR.blind, y_preR hC (fun _ _ h => by cases h)⟩ rfl rfl hl.1 rfl (lv_room (Nat.le_of_ble_eq_true rfl)) dX1_headOf_33 ⟨Nat.zero_le _, Nat.zero_le _⟩) ?_
      refine lv_if_ne (tgt := 42) hx hb dX1_headOf_36 (by decide) (fun c_13 => ?_) (fun c_13 => ?_)
      · replace hrun := it_neg c_13 hrun
        exact kJ_42 u2  ls (lv_sub hl [0, 1, 2] rfl) hrun
      · replace hrun := it_pos c_13 hrun
        refine lv_bipush (v := -6) hx hb dX1_headOf_39 (by decide) ?_
        exact W.iret (v := (-6)) hx hb hr (fun t ht hW => ⟨(-6), rfl, si hrun, ht⟩) (fun _ h => absurd h List.not_mem_nil) dX1_headOf_41
  · replace hrun := it_pos c_3 hrun
    refine lv_bipush (v := -6) hx hb dX1_headOf_9 (by decide) ?_
    exact W.iret (v := (-6)) hx hb hr (fun t ht hW => ⟨(-6), rfl, si hrun, ht⟩) (fun _ h => absurd h List.not_mem_nil) dX1_headOf_11
def p_X1_addPage_42  : Nat → Int32 → Ob → Option (Ob)
  | 0, _, _ => none
  | n + 1, x2, L => (if (nI 2) ≤ x2 then (some L) else (if x2 = nI 0 then ((stO L 6 120 (L 10 0) (-6)).bind fun N_11 => p_X1_addPage_42 n (x2 + nI 1) N_11) else (if x2 = nI 1 then ((stO L 7 120 (L 10 0) (-6)).bind fun N_13 => p_X1_addPage_42 n (x2 + nI 1) N_13) else none)))
def p_X1_addPage  (u1 : Int32) (L : Ob) : Option (Ob) := (if (L 10 0) < (nI 119) then ((some (puO L 10 ((L 10 0) + (nI 1)))).bind fun L_2 => ((stO L_2 4 120 (L_2 10 0) u1).bind fun N_4 => ((stO N_4 5 120 (N_4 10 0) (nI 0)).bind fun N_6 => p_X1_addPage_42 200 (nI 0) N_6))) else (some L))
abbrev rmX1_addPage : Room := { frames := 0, cells := 0, slots := 0, locals := 0 }
set_option maxHeartbeats 4000000 in
set_option maxRecDepth 100000 in
theorem c_X1_addPage (l : Launch) (G : GT) (al : Nat → Nat) (L : Ob) (u1 : Int32) (sz : Nat) (L0 : Ob) (hrun : p_X1_addPage u1 L = some L0) : Met l yX1_addPage wsX1_addPage rmX1_addPage (PreW G [.ref (al 0), .int u1] (wLay G al L) sz) (QV G (wLay G al L0) (va_A (wLay G al L) sz)) 0 0 (va_A (wLay G al L) sz) := by
  refine Met.ofW (cc := cX1_addPage) (maxL := 3) (ret := none) (by decide) rfl ?_
  intro p e s m args below meth c s₁ Bd hml hv
  obtain ⟨rfl, hsz, hP, hC, hD0⟩ := hv
  have hx := Bd.exec
  have hb := Bd.bytes
  have hr := Bd.returns
  have hts := atoms_spec (ws := wsX1_addPage) Bd.pre
  have hown : s.vm.findClass RX1 = some m.cls := findClass_of_methodNamed Bd.named
  have hlocks := Bd.notSynchronized
  have hK := hC.1
  have iwX1 : ∀ w ∈ wsX10, w ∈ wsX1_addPage := by decide +kernel
  have ha0 := hts (.fieldLink RX1 39 "HeadMarks$Layout" "pages" "I") (by decide +kernel)
  have ha1 := hts (.fieldLink RX1 23 "HeadMarks$Layout" "linesAhead" "[I") (by decide +kernel)
  have ha2 := hts (.fieldLink RX1 26 "HeadMarks$Layout" "linesOn" "[I") (by decide +kernel)
  have ha3 := hts (.fieldLink RX1 29 "HeadMarks$Layout" "ownFirst" "[[I") (by decide +kernel)
  subst hsz
  have hD := hD0.self (sz := s.heap.size)
  generalize hAe : va_A (wLay G al L) s.heap.size = A at hD ⊢
  have hA : ∀ q : Nat, s.heap.size ≤ q → A q := fun q h => by rw [← hAe]; exact Or.inr h
  have hS : va_S A s.heap s.heap [] := va_S.rf
  have kH_42 : ∀ (n : Nat) (x2 : Int32) (L : Ob) , ∀ (H : Heap) (locs : List Loc), va_P G.1 vwCl (wLay G al L) H → va_D A (wLay G al L) → va_S A s.heap H locs → ∀ (ls : Array Slot), lv_has ls 3 [(0, .ref (al 0)), (2, .int x2)] → p_X1_addPage_42 n x2 L = some L0 → W p l e (headSpec wsX1_addPage rmX1_addPage).room s m ([.ref (al 0), .int u1] : List Value).toArray below meth c H locs 0 0 (MQ below (QV G (wLay G al L0) A) ([.ref (al 0), .int u1] : List Value).toArray s 0 0 A) (F0 m 42 ls []) := by
    intro n
    induction n with
    | zero => intro x2 L H locs hP hD hS ls hl hrun; exact absurd (hrun : (none : Option (Ob)) = some L0) (fun h => by cases h)
    | succ n ih =>
      intro x2 L H locs hP hD hS ls hl hrun
      rw [p_X1_addPage_42] at hrun
      refine lv_iload_n hx hb dX1_addPage_42 rfl (lv_at hl 1 rfl) ?_
      refine lv_iconst (v := nI 2) hx hb dX1_addPage_43 (by decide) ?_
      refine lv_icmp_ge (tgt := 66) hx hb dX1_addPage_44 (by decide) (fun c_8 => ?_) (fun c_8 => ?_)
      · replace hrun := it_pos c_8 hrun
        have hr2 := si hrun
        exact W.vret hx hb hr (fun t ht hW => ⟨⟨(), rfl, trivial, by rw [ht, ← hr2]; exact hP, by rw [← hr2]; exact hD⟩, hS.F ht⟩) hS.2.2 dX1_addPage_66
      · replace hrun := it_neg c_8 hrun
        refine lv_aload_n hx hb dX1_addPage_47 rfl (lv_at hl 0 rfl) ?_
        refine va_get (D := G.1) (ci := 1) (v := .ref (al 8)) (C := RX1) (T := TX1) (N := 9) hx hb hts iwX1 hown hK hP 0 rfl rfl 5 (by decide) ha3 (fun _ h9 => h9) rfl dX1_addPage_48 ?_
        refine lv_iload_n hx hb dX1_addPage_51 rfl (lv_at hl 1 rfl) ?_
        by_cases c_9 : x2 = nI 0
        · replace hrun := it_pos c_9 hrun
          refine y_aald (v := al 9) hx hb hK hP 8 3 rfl rfl rfl (by rw [c_9]; exact (by decide : ¬ (nI 0 < 0 ∨ 2 ≤ (nI 0).toNatClampNeg))) (by rw [c_9]; rfl) dX1_addPage_52 ?_
          refine lv_aload_n hx hb dX1_addPage_53 rfl (lv_at hl 0 rfl) ?_
          refine va_get (D := G.1) (ci := 1) (v := .int (L 10 0)) (C := RX1) (T := TX1) (N := 9) hx hb hts iwX1 hown hK hP 0 rfl rfl 8 (by decide) ha0 (fun _ h9 => h9) rfl dX1_addPage_54 ?_
          refine lv_bipush (v := -6) hx hb dX1_addPage_57 (by decide) ?_
          obtain ⟨N_11, e_12, hrun⟩ := bd hrun
          replace e_12 := stO_spec e_12
          refine va_iast hx hb hK hP hD hS 9 0 rfl rfl e_12.1 dX1_addPage_59 (fun H locs hP hD hS => ?_)
          replace hP : va_P G.1 vwCl (wLay G al N_11) H := by rw [← e_12.2]; exact hP
          replace hD : va_D A (wLay G al N_11) := by rw [← e_12.2]; exact hD
          refine lv_iinc (v := (x2 + nI 1)) (lv' := [(2, .int (x2 + nI 1)), (0, .ref (al 0))]) hx hb dX1_addPage_60 hl (k := 1) rfl rfl (by decide) rfl (fun ls hl => ?_)
          refine lv_goto (tgt := 42) hx hb dX1_addPage_63 (by decide) ?_
          exact ih (x2 + nI 1) N_11 _ _ hP hD hS ls (lv_sub hl [1, 0] rfl) hrun
        · replace hrun := it_neg c_9 hrun
          by_cases c_10 : x2 = nI 1
          · replace hrun := it_pos c_10 hrun
            refine y_aald (v := al 10) hx hb hK hP 8 3 rfl rfl rfl (by rw [c_10]; exact (by decide : ¬ (nI 1 < 0 ∨ 2 ≤ (nI 1).toNatClampNeg))) (by rw [c_10]; rfl) dX1_addPage_52 ?_
            refine lv_aload_n hx hb dX1_addPage_53 rfl (lv_at hl 0 rfl) ?_
            refine va_get (D := G.1) (ci := 1) (v := .int (L 10 0)) (C := RX1) (T := TX1) (N := 9) hx hb hts iwX1 hown hK hP 0 rfl rfl 8 (by decide) ha0 (fun _ h9 => h9) rfl dX1_addPage_54 ?_
            refine lv_bipush (v := -6) hx hb dX1_addPage_57 (by decide) ?_
            obtain ⟨N_13, e_14, hrun⟩ := bd hrun
            replace e_14 := stO_spec e_14
            refine va_iast hx hb hK hP hD hS 10 0 rfl rfl e_14.1 dX1_addPage_59 (fun H locs hP hD hS => ?_)
            replace hP : va_P G.1 vwCl (wLay G al N_13) H := by rw [← e_14.2]; exact hP
            replace hD : va_D A (wLay G al N_13) := by rw [← e_14.2]; exact hD
            refine lv_iinc (v := (x2 + nI 1)) (lv' := [(2, .int (x2 + nI 1)), (0, .ref (al 0))]) hx hb dX1_addPage_60 hl (k := 1) rfl rfl (by decide) rfl (fun ls hl => ?_)
            refine lv_goto (tgt := 42) hx hb dX1_addPage_63 (by decide) ?_
            exact ih (x2 + nI 1) N_13 _ _ hP hD hS ls (lv_sub hl [1, 0] rfl) hrun
          · replace hrun := it_neg c_10 hrun
            cases hrun
  have hl := lv_entry [.ref (al 0), .int u1] (n := 3) (Nat.le_of_ble_eq_true rfl)
  rw [lg_entry_eq]
  generalize (lg_sl [.ref (al 0), .int u1] ++ List.replicate (3 - (lg_sl [.ref (al 0), .int u1]).length) Slot.unset).toArray = ls at hl ⊢
  have hl : lv_has ls 3 [(0, .ref (al 0)), (1, .int u1)] := hl
  rw [p_X1_addPage] at hrun
  refine lv_aload_n hx hb dX1_addPage_0 rfl (lv_at hl 0 rfl) ?_
  refine va_get (D := G.1) (ci := 1) (v := .int (L 10 0)) (C := RX1) (T := TX1) (N := 9) hx hb hts iwX1 hown hK hP 0 rfl rfl 8 (by decide) ha0 (fun _ h9 => h9) rfl dX1_addPage_1 ?_
  refine lv_bipush (v := nI 119) hx hb dX1_addPage_4 (by decide) ?_
  refine lv_icmp_lt (tgt := 10) hx hb dX1_addPage_6 (by decide) (fun c_1 => ?_) (fun c_1 => ?_)
  · replace hrun := it_pos c_1 hrun
    refine lv_aload_n hx hb dX1_addPage_10 rfl (lv_at hl 0 rfl) ?_
    refine lv_dup hx hb dX1_addPage_11 rfl ?_
    refine va_get (D := G.1) (ci := 1) (v := .int (L 10 0)) (C := RX1) (T := TX1) (N := 9) hx hb hts iwX1 hown hK hP 0 rfl rfl 8 (by decide) ha0 (fun _ h9 => h9) rfl dX1_addPage_12 ?_
    refine lv_iconst (v := nI 1) hx hb dX1_addPage_15 (by decide) ?_
    refine lv_iadd hx hb dX1_addPage_16 ?_
    obtain ⟨L_2, e_3, hrun⟩ := bd hrun
    replace e_3 := si e_3
    refine va_put (D := G.1) (ci := 1) (v := .int ((L 10 0) + (nI 1))) (ty := .int) (C := RX1) (T := TX1) (N := 9) hx hb hts iwX1 tyX1 tyX1_ok nmX1 hown hK hP hD hS 0 rfl rfl 8 (by decide) ha0 (fun _ h9 => h9) rfl (by decide +kernel) rfl rfl (Nat.le_of_ble_eq_true rfl) dX1_addPage_17 (fun H locs hP hD hS => ?_)
    replace hP : va_P G.1 vwCl (wLay G al L_2) H := by rw [← e_3]; exact hP
    replace hD : va_D A (wLay G al L_2) := by rw [← e_3]; exact hD
    refine lv_aload_n hx hb dX1_addPage_20 rfl (lv_at hl 0 rfl) ?_
    refine va_get (D := G.1) (ci := 1) (v := .ref (al 6)) (C := RX1) (T := TX1) (N := 9) hx hb hts iwX1 hown hK hP 0 rfl rfl 3 (by decide) ha1 (fun _ h9 => h9) rfl dX1_addPage_21 ?_
    refine lv_aload_n hx hb dX1_addPage_24 rfl (lv_at hl 0 rfl) ?_
    refine va_get (D := G.1) (ci := 1) (v := .int (L_2 10 0)) (C := RX1) (T := TX1) (N := 9) hx hb hts iwX1 hown hK hP 0 rfl rfl 8 (by decide) ha0 (fun _ h9 => h9) rfl dX1_addPage_25 ?_
    refine lv_iload_n hx hb dX1_addPage_28 rfl (lv_at hl 1 rfl) ?_
    obtain ⟨N_4, e_5, hrun⟩ := bd hrun
    replace e_5 := stO_spec e_5
    refine va_iast hx hb hK hP hD hS 6 0 rfl rfl e_5.1 dX1_addPage_29 (fun H locs hP hD hS => ?_)
    replace hP : va_P G.1 vwCl (wLay G al N_4) H := by rw [← e_5.2]; exact hP
    replace hD : va_D A (wLay G al N_4) := by rw [← e_5.2]; exact hD
    refine lv_aload_n hx hb dX1_addPage_30 rfl (lv_at hl 0 rfl) ?_
    refine va_get (D := G.1) (ci := 1) (v := .ref (al 7)) (C := RX1) (T := TX1) (N := 9) hx hb hts iwX1 hown hK hP 0 rfl rfl 4 (by decide) ha2 (fun _ h9 => h9) rfl dX1_addPage_31 ?_
    refine lv_aload_n hx hb dX1_addPage_34 rfl (lv_at hl 0 rfl) ?_
    refine va_get (D := G.1) (ci := 1) (v := .int (N_4 10 0)) (C := RX1) (T := TX1) (N := 9) hx hb hts iwX1 hown hK hP 0 rfl rfl 8 (by decide) ha0 (fun _ h9 => h9) rfl dX1_addPage_35 ?_
    refine lv_iconst (v := nI 0) hx hb dX1_addPage_38 (by decide) ?_
    obtain ⟨N_6, e_7, hrun⟩ := bd hrun
    replace e_7 := stO_spec e_7
    refine va_iast hx hb hK hP hD hS 7 0 rfl rfl e_7.1 dX1_addPage_39 (fun H locs hP hD hS => ?_)
    replace hP : va_P G.1 vwCl (wLay G al N_6) H := by rw [← e_7.2]; exact hP
    replace hD : va_D A (wLay G al N_6) := by rw [← e_7.2]; exact hD
    refine lv_iconst (v := nI 0) hx hb dX1_addPage_40 (by decide) ?_
    refine lv_istore_n (lv' := [(2, .int (nI 0)), (0, .ref (al 0)), (1, .int u1)]) hx hb dX1_addPage_41 rfl hl (by decide) rfl (fun ls hl => ?_)
    exact kH_42 200 (nI 0) N_6 _ _ hP hD hS ls (lv_sub hl [1, 0] rfl) hrun
  · replace hrun := it_neg c_1 hrun
    have hr2 := si hrun
    exact W.vret hx hb hr (fun t ht hW => ⟨⟨(), rfl, trivial, by rw [ht, ← hr2]; exact hP, by rw [← hr2]; exact hD⟩, hS.F ht⟩) hS.2.2 dX1_addPage_9
def p_X1_turnPage_32 (B : Ob) (x2 : Int32) (y0 : Int32) (L : Ob) : Option (Ob) := (if y0 = nI 0 then (some L) else ((p_X1_isLeft (L 10 0)).bind fun v_12 => (if v_12 = nI 0 then (some L) else ((p_X1_addPage x2 L).bind fun N_17 => (some N_17)))))
def p_X1_turnPage_31 (B : Ob) (x2 : Int32) (L : Ob) : Option (Ob) := p_X1_turnPage_32 B x2 (nI 0) L
def p_X1_turnPage (B : Ob) (u2 : Int32) (L : Ob) : Option (Ob) := ((p_X1_addPage u2 L).bind fun N_2 => ((ldI (B 2) 9 (nI 1)).bind fun v_3 => (if v_3 = (nI 2) then ((ldI (B 0) 60 u2).bind fun v_6 => ((p_X3_classOf v_6).bind fun v_8 => (if v_8 = nI 0 then p_X1_turnPage_32 B u2 (nI 1) N_2 else p_X1_turnPage_31 B u2 N_2))) else p_X1_turnPage_31 B u2 N_2)))
abbrev rmX1_turnPage : Room := { frames := 1, cells := 0, slots := 0, locals := 22 }
set_option maxHeartbeats 4000000 in
set_option maxRecDepth 100000 in
theorem c_X1_turnPage (l : Launch) (G : GT) (al ab : Nat → Nat) (L B : Ob) (u2 : Int32) (sz : Nat) (L0 : Ob) (hrun : p_X1_turnPage B u2 L = some L0) : Met l yX1_turnPage wsX1_turnPage rmX1_turnPage (PreW G [.ref (al 0), .ref (ab 0), .int u2] (wLay G al L ++ wBook G ab B) sz) (QV G (wLay G al L0 ++ wBook G ab B) (va_A (wLay G al L ++ wBook G ab B) sz)) 0 0 (va_A (wLay G al L ++ wBook G ab B) sz) := by
  refine Met.ofW (cc := cX1_turnPage) (maxL := 4) (ret := none) (by decide) rfl ?_
  intro p e s m args below meth c s₁ Bd hml hv
  obtain ⟨rfl, hsz, hP, hC, hD0⟩ := hv
  have hx := Bd.exec
  have hb := Bd.bytes
  have hr := Bd.returns
  have hts := atoms_spec (ws := wsX1_turnPage) Bd.pre
  have hown : s.vm.findClass RX1 = some m.cls := findClass_of_methodNamed Bd.named
  have hlocks := Bd.notSynchronized
  have hK := hC.1
  have iwX0 : ∀ w ∈ wsX00, w ∈ wsX1_turnPage := by decide +kernel
  have iwX1 : ∀ w ∈ wsX10, w ∈ wsX1_turnPage := by decide +kernel
  have ha0 := hts (.fieldLink RX1 70 "HeadMarks$Book" "rules" "[I") (by decide +kernel)
  have ha1 := hts (.fieldLink RX1 63 "HeadMarks$Book" "signs" "[I") (by decide +kernel)
  have ha2 := hts (.initialized RX3) (by decide +kernel)
  have ha3 := hts (.static yX3_classOf) (by decide +kernel)
  have ha4 := hts (.fieldLink RX1 39 "HeadMarks$Layout" "pages" "I") (by decide +kernel)
  subst hsz
  have hD := hD0.self (sz := s.heap.size)
  generalize hAe : va_A (wLay G al L ++ wBook G ab B) s.heap.size = A at hD ⊢
  have hA : ∀ q : Nat, s.heap.size ≤ q → A q := fun q h => by rw [← hAe]; exact Or.inr h
  have hS : va_S A s.heap s.heap [] := va_S.rf
  have kJ_32 : ∀ (x2 y0 : Int32) (L : Ob) , ∀ (H : Heap) (locs : List Loc), va_P G.1 vwCl (wLay G al L ++ wBook G ab B) H → va_D A (wLay G al L ++ wBook G ab B) → va_S A s.heap H locs → ∀ (ls : Array Slot), lv_has ls 4 [(0, .ref (al 0)), (2, .int x2)] → p_X1_turnPage_32 B x2 y0 L = some L0 → W p l e (headSpec wsX1_turnPage rmX1_turnPage).room s m ([.ref (al 0), .ref (ab 0), .int u2] : List Value).toArray below meth c H locs 0 0 (MQ below (QV G (wLay G al L0 ++ wBook G ab B) A) ([.ref (al 0), .ref (ab 0), .int u2] : List Value).toArray s 0 0 A) (F0 m 32 ls [.int y0]) := by
    intro x2 y0 L H locs hP hD hS ls hl hrun
    rw [p_X1_turnPage_32] at hrun
    refine lv_istore_n (lv' := [(3, .int y0), (0, .ref (al 0)), (2, .int x2)]) hx hb dX1_turnPage_32 rfl hl (by decide) rfl (fun ls hl => ?_)
    refine lv_iload_n hx hb dX1_turnPage_33 rfl (lv_at hl 0 rfl) ?_
    refine lv_if_eq (tgt := 52) hx hb dX1_turnPage_34 (by decide) (fun c_11 => ?_) (fun c_11 => ?_)
    · replace hrun := it_pos c_11 hrun
      have hr2 := si hrun
      exact W.vret hx hb hr (fun t ht hW => ⟨⟨(), rfl, trivial, by rw [ht, ← hr2]; exact hP, by rw [← hr2]; exact hD⟩, hS.F ht⟩) hS.2.2 dX1_turnPage_52
    · replace hrun := it_neg c_11 hrun
      refine lv_aload_n hx hb dX1_turnPage_37 rfl (lv_at hl 1 rfl) ?_
      refine va_get (D := G.1) (ci := 1) (v := .int (L 10 0)) (C := RX1) (T := TX1) (N := 9) hx hb hts iwX1 hown hK hP 0 rfl rfl 8 (by decide) ha4 (fun _ h9 => h9) rfl dX1_turnPage_38 ?_
      obtain ⟨v_12, e_13, hrun⟩ := bd hrun
      refine y_roz (va_runS (As := [.int (L 10 0)]) (rest := []) ⟨hx, hb, hml, hown, hts⟩ (c_X1_isLeft l G   (L 10 0) v_12 e_13) (cwS 1 hts gX1_turnPage_X1_isLeft rfl rfl rfl (by decide +kernel) ⟨Nat.le_of_ble_eq_true rfl, Nat.le_of_ble_eq_true rfl⟩) ⟨PreR.blind, y_preR hC (fun _ _ h => by cases h)⟩ rfl rfl hl.1 rfl (lv_room (Nat.le_of_ble_eq_true rfl)) dX1_turnPage_41 ⟨Nat.zero_le _, Nat.zero_le _⟩) (fun z_14 => ?_)
      refine lv_if_eq (tgt := 52) hx hb dX1_turnPage_44 (by decide) (fun c_15 => ?_) (fun c_15 => ?_)
      · replace hrun := it_pos c_15 hrun
        have hr2 := si hrun
        exact W.vret hx hb hr (fun t ht hW => ⟨⟨(), rfl, trivial, by rw [ht, ← hr2]; exact hP, by rw [← hr2]; exact hD⟩, hS.F ht⟩) hS.2.2 dX1_turnPage_52
      · replace hrun := it_neg c_15 hrun
        refine lv_aload_n hx hb dX1_turnPage_47 rfl (lv_at hl 1 rfl) ?_
        refine lv_iload_n hx hb dX1_turnPage_48 rfl (lv_at hl 2 rfl) ?_
        obtain ⟨N_17, e_16, hrun⟩ := bd hrun
        have hF := va_free (wc := wLay G al L) hD hS hA [0, 1, 2, 3, 4, 5, 6, 7, 8, 9, 10, 11] rfl
        refine y_rwv (va_runV (As := [.int x2]) (rest := []) ⟨hx, hb, hml, hown, hts⟩ (c_X1_addPage l G al L x2 _ N_17 e_16) (cwV 1 hts gX1_turnPage_X1_addPage rfl rfl rfl (by decide +kernel) ⟨Nat.le_of_ble_eq_true rfl, Nat.le_of_ble_eq_true rfl⟩) ⟨PreW.blind, va_recv hK hP (ci := 1) (q0 := 0) rfl rfl, y_preW hC (hP.sub (ws' := wLay G al L) [0, 1, 2, 3, 4, 5, 6, 7, 8, 9, 10, 11] rfl) (hD.sub (ws' := wLay G al L) [0, 1, 2, 3, 4, 5, 6, 7, 8, 9, 10, 11] (by decide) rfl)⟩ rfl rfl hl.1 rfl (lv_room (Nat.le_of_ble_eq_true rfl)) dX1_turnPage_49 ⟨Nat.zero_le _, Nat.zero_le _⟩) hS hF (fun H locs hP1 hD1 hk1 hS => ?_)
        replace hP := jn_LB_L_mL hP hD hk1 hF hP1 hD1
        replace hD := hP.2
        replace hP := hP.1
        clear hP1 hD1 hk1 hF
        have hr2 := si hrun
        exact W.vret hx hb hr (fun t ht hW => ⟨⟨(), rfl, trivial, by rw [ht, ← hr2]; exact hP, by rw [← hr2]; exact hD⟩, hS.F ht⟩) hS.2.2 dX1_turnPage_52
  have kJ_31 : ∀ (x2 : Int32) (L : Ob) , ∀ (H : Heap) (locs : List Loc), va_P G.1 vwCl (wLay G al L ++ wBook G ab B) H → va_D A (wLay G al L ++ wBook G ab B) → va_S A s.heap H locs → ∀ (ls : Array Slot), lv_has ls 4 [(0, .ref (al 0)), (2, .int x2)] → p_X1_turnPage_31 B x2 L = some L0 → W p l e (headSpec wsX1_turnPage rmX1_turnPage).room s m ([.ref (al 0), .ref (ab 0), .int u2] : List Value).toArray below meth c H locs 0 0 (MQ below (QV G (wLay G al L0 ++ wBook G ab B) A) ([.ref (al 0), .ref (ab 0), .int u2] : List Value).toArray s 0 0 A) (F0 m 31 ls []) := by
    intro x2 L H locs hP hD hS ls hl hrun
    rw [p_X1_turnPage_31] at hrun
    refine lv_iconst (v := nI 0) hx hb dX1_turnPage_31 (by decide) ?_
    exact kJ_32 x2 (nI 0) L _ _ hP hD hS ls (lv_sub hl [0, 1] rfl) hrun
  have hl := lv_entry [.ref (al 0), .ref (ab 0), .int u2] (n := 4) (Nat.le_of_ble_eq_true rfl)
  rw [lg_entry_eq]
  generalize (lg_sl [.ref (al 0), .ref (ab 0), .int u2] ++ List.replicate (4 - (lg_sl [.ref (al 0), .ref (ab 0), .int u2]).length) Slot.unset).toArray = ls at hl ⊢
  have hl : lv_has ls 4 [(0, .ref (al 0)), (1, .ref (ab 0)), (2, .int u2)] := hl
  rw [p_X1_turnPage] at hrun
  refine lv_aload_n hx hb dX1_turnPage_0 rfl (lv_at hl 0 rfl) ?_
  refine lv_iload_n hx hb dX1_turnPage_1 rfl (lv_at hl 2 rfl) ?_
  obtain ⟨N_2, e_1, hrun⟩ := bd hrun
  have hF := va_free (wc := wLay G al L) hD hS hA [0, 1, 2, 3, 4, 5, 6, 7, 8, 9, 10, 11] rfl
  refine y_rwv (va_runV (As := [.int u2]) (rest := []) ⟨hx, hb, hml, hown, hts⟩ (c_X1_addPage l G al L u2 _ N_2 e_1) (cwV 1 hts gX1_turnPage_X1_addPage rfl rfl rfl (by decide +kernel) ⟨Nat.le_of_ble_eq_true rfl, Nat.le_of_ble_eq_true rfl⟩) ⟨PreW.blind, va_recv hK hP (ci := 1) (q0 := 0) rfl rfl, y_preW hC (hP.sub (ws' := wLay G al L) [0, 1, 2, 3, 4, 5, 6, 7, 8, 9, 10, 11] rfl) (hD.sub (ws' := wLay G al L) [0, 1, 2, 3, 4, 5, 6, 7, 8, 9, 10, 11] (by decide) rfl)⟩ rfl rfl hl.1 rfl (lv_room (Nat.le_of_ble_eq_true rfl)) dX1_turnPage_2 ⟨Nat.zero_le _, Nat.zero_le _⟩) hS hF (fun H locs hP1 hD1 hk1 hS => ?_)
  replace hP := jn_LB_L_mL hP hD hk1 hF hP1 hD1
  replace hD := hP.2
  replace hP := hP.1
  clear hP1 hD1 hk1 hF
  refine lv_aload_n hx hb dX1_turnPage_5 rfl (lv_at hl 1 rfl) ?_
  refine va_get (D := G.1) (ci := 0) (v := .ref (ab 3)) (C := RX0) (T := TX0) (N := 4) hx hb hts iwX0 hown hK hP 12 rfl rfl 2 (by decide) ha0 (fun _ h9 => h9) rfl dX1_turnPage_6 ?_
  refine lv_iconst (v := nI 1) hx hb dX1_turnPage_9 (by decide) ?_
  obtain ⟨v_3, e_4, hrun⟩ := bd hrun
  refine y_ald hx hb hK hP 15 0 rfl rfl e_4 dX1_turnPage_10 ?_
  refine lv_iconst (v := nI 2) hx hb dX1_turnPage_11 (by decide) ?_
  refine lv_icmp_ne (tgt := 31) hx hb dX1_turnPage_12 (by decide) (fun c_5 => ?_) (fun c_5 => ?_)
  · replace hrun := it_neg c_5 hrun
    exact kJ_31 u2 N_2 _ _ hP hD hS ls (lv_sub hl [0, 2] rfl) hrun
  · replace hrun := it_pos c_5 hrun
    refine lv_aload_n hx hb dX1_turnPage_15 rfl (lv_at hl 1 rfl) ?_
    refine va_get (D := G.1) (ci := 0) (v := .ref (ab 1)) (C := RX0) (T := TX0) (N := 4) hx hb hts iwX0 hown hK hP 12 rfl rfl 0 (by decide) ha1 (fun _ h9 => h9) rfl dX1_turnPage_16 ?_
    refine lv_iload_n hx hb dX1_turnPage_19 rfl (lv_at hl 2 rfl) ?_
    obtain ⟨v_6, e_7, hrun⟩ := bd hrun
    refine y_ald hx hb hK hP 13 0 rfl rfl e_7 dX1_turnPage_20 ?_
    obtain ⟨v_8, e_9, hrun⟩ := bd hrun
    refine y_ro (va_runSN (As := [.int v_6]) (rest := []) ⟨hx, hb, hml, hown, hts⟩ (c_X3_classOf l G   v_6 v_8 e_9) ⟨va_cnB 1 hts ggX1_turnPage_X3_classOf rfl rfl rfl hC.2.2.1 ha2 (by decide +kernel) ⟨Nat.le_of_ble_eq_true rfl, Nat.le_of_ble_eq_true rfl⟩, ha3, trivial⟩ ⟨PreR.blind, y_preR hC (fun _ _ h => by cases h)⟩ rfl rfl hl.1 rfl (lv_room (Nat.le_of_ble_eq_true rfl)) dX1_turnPage_21 ⟨Nat.zero_le _, Nat.zero_le _⟩) ?_
    refine lv_if_ne (tgt := 31) hx hb dX1_turnPage_24 (by decide) (fun c_10 => ?_) (fun c_10 => ?_)
    · replace hrun := it_neg c_10 hrun
      exact kJ_31 u2 N_2 _ _ hP hD hS ls (lv_sub hl [0, 2] rfl) hrun
    · replace hrun := it_pos c_10 hrun
      refine lv_iconst (v := nI 1) hx hb dX1_turnPage_27 (by decide) ?_
      refine lv_goto (tgt := 32) hx hb dX1_turnPage_28 (by decide) ?_
      exact kJ_32 u2 (nI 1) N_2 _ _ hP hD hS ls (lv_sub hl [0, 2] rfl) hrun
def p_X1_putMark_47 (B : Ob) (x2 : Int32) (x3 : Int32) (L : Ob) : Option (Ob) := (if x3 = nI 0 then ((ldI (L 1) 60 x2).bind fun v_26 => ((stO L 1 60 x2 (v_26 + (nI 1))).bind fun N_28 => ((ldI (B 2) 9 (nI 3)).bind fun v_30 => (if v_30 = (nI 1) then ((stO N_28 3 60 x2 (-6)).bind fun N_33 => (some N_33)) else (some N_28))))) else (some L))
def p_X1_putMark (B : Ob) (u2 : Int32) (u3 : Int32) (L : Ob) : Option (Ob) := (if u3 = nI 0 then ((ldI (B 0) 60 u2).bind fun v_3 => ((stO L 2 60 u2 v_3).bind fun N_5 => ((ldI (N_5 6) 120 (N_5 10 0)).bind fun v_7 => (if v_7 = (-6) then ((ldI (B 0) 60 u2).bind fun v_10 => ((stO N_5 6 120 (N_5 10 0) v_10).bind fun N_12 => p_X1_putMark_47 B u2 u3 N_12)) else p_X1_putMark_47 B u2 u3 N_5)))) else (if u3 = nI 1 then ((ldI (B 0) 60 u2).bind fun v_14 => ((stO L 3 60 u2 v_14).bind fun N_16 => ((ldI (N_16 7) 120 (N_16 10 0)).bind fun v_18 => (if v_18 = (-6) then ((ldI (B 0) 60 u2).bind fun v_21 => ((stO N_16 7 120 (N_16 10 0) v_21).bind fun N_23 => p_X1_putMark_47 B u2 u3 N_23)) else p_X1_putMark_47 B u2 u3 N_16)))) else none))
abbrev rmX1_putMark : Room := { frames := 0, cells := 0, slots := 0, locals := 0 }
set_option maxHeartbeats 4000000 in
set_option maxRecDepth 100000 in
theorem c_X1_putMark (l : Launch) (G : GT) (al ab : Nat → Nat) (L B : Ob) (u2 u3 : Int32) (sz : Nat) (L0 : Ob) (hrun : p_X1_putMark B u2 u3 L = some L0) : Met l yX1_putMark wsX1_putMark rmX1_putMark (PreW G [.ref (al 0), .ref (ab 0), .int u2, .int u3] (wLay G al L ++ wBook G ab B) sz) (QV G (wLay G al L0 ++ wBook G ab B) (va_A (wLay G al L ++ wBook G ab B) sz)) 0 0 (va_A (wLay G al L ++ wBook G ab B) sz) := by
  refine Met.ofW (cc := cX1_putMark) (maxL := 4) (ret := none) (by decide) rfl ?_
  intro p e s m args below meth c s₁ Bd hml hv
  obtain ⟨rfl, hsz, hP, hC, hD0⟩ := hv
  have hx := Bd.exec
  have hb := Bd.bytes
  have hr := Bd.returns
  have hts := atoms_spec (ws := wsX1_putMark) Bd.pre
  have hown : s.vm.findClass RX1 = some m.cls := findClass_of_methodNamed Bd.named
  have hlocks := Bd.notSynchronized
  have hK := hC.1
  have iwX0 : ∀ w ∈ wsX00, w ∈ wsX1_putMark := by decide +kernel
  have iwX1 : ∀ w ∈ wsX10, w ∈ wsX1_putMark := by decide +kernel
  have ha0 := hts (.fieldLink RX1 20 "HeadMarks$Layout" "inForce" "[[I") (by decide +kernel)
  have ha1 := hts (.fieldLink RX1 63 "HeadMarks$Book" "signs" "[I") (by decide +kernel)
  have ha2 := hts (.fieldLink RX1 29 "HeadMarks$Layout" "ownFirst" "[[I") (by decide +kernel)
  have ha3 := hts (.fieldLink RX1 39 "HeadMarks$Layout" "pages" "I") (by decide +kernel)
  have ha4 := hts (.fieldLink RX1 15 "HeadMarks$Layout" "chapterOf" "[I") (by decide +kernel)
  have ha5 := hts (.fieldLink RX1 70 "HeadMarks$Book" "rules" "[I") (by decide +kernel)
  subst hsz
  have hD := hD0.self (sz := s.heap.size)
  generalize hAe : va_A (wLay G al L ++ wBook G ab B) s.heap.size = A at hD ⊢
  have hA : ∀ q : Nat, s.heap.size ≤ q → A q := fun q h => by rw [← hAe]; exact Or.inr h
  have hS : va_S A s.heap s.heap [] := va_S.rf
  have kJ_47 : ∀ (x2 x3 : Int32) (L : Ob) , ∀ (H : Heap) (locs : List Loc), va_P G.1 vwCl (wLay G al L ++ wBook G ab B) H → va_D A (wLay G al L ++ wBook G ab B) → va_S A s.heap H locs → ∀ (ls : Array Slot), lv_has ls 4 [(0, .ref (al 0)), (1, .ref (ab 0)), (2, .int x2), (3, .int x3)] → p_X1_putMark_47 B x2 x3 L = some L0 → W p l e (headSpec wsX1_putMark rmX1_putMark).room s m ([.ref (al 0), .ref (ab 0), .int u2, .int u3] : List Value).toArray below meth c H locs 0 0 (MQ below (QV G (wLay G al L0 ++ wBook G ab B) A) ([.ref (al 0), .ref (ab 0), .int u2, .int u3] : List Value).toArray s 0 0 A) (F0 m 47 ls []) := by
    intro x2 x3 L H locs hP hD hS ls hl hrun
    rw [p_X1_putMark_47] at hrun
    refine lv_iload_n hx hb dX1_putMark_47 rfl (lv_at hl 3 rfl) ?_
    refine lv_if_ne (tgt := 81) hx hb dX1_putMark_48 (by decide) (fun c_25 => ?_) (fun c_25 => ?_)
    · replace hrun := it_neg c_25 hrun
      have hr2 := si hrun
      exact W.vret hx hb hr (fun t ht hW => ⟨⟨(), rfl, trivial, by rw [ht, ← hr2]; exact hP, by rw [← hr2]; exact hD⟩, hS.F ht⟩) hS.2.2 dX1_putMark_81
    · replace hrun := it_pos c_25 hrun
      refine lv_aload_n hx hb dX1_putMark_51 rfl (lv_at hl 0 rfl) ?_
      refine va_get (D := G.1) (ci := 1) (v := .ref (al 2)) (C := RX1) (T := TX1) (N := 9) hx hb hts iwX1 hown hK hP 0 rfl rfl 1 (by decide) ha4 (fun _ h9 => h9) rfl dX1_putMark_52 ?_
      refine lv_iload_n hx hb dX1_putMark_55 rfl (lv_at hl 2 rfl) ?_
      refine lv_dup2_11 hx hb dX1_putMark_56 rfl rfl ?_
      obtain ⟨v_26, e_27, hrun⟩ := bd hrun
      refine y_ald hx hb hK hP 2 0 rfl rfl e_27 dX1_putMark_57 ?_
      refine lv_iconst (v := nI 1) hx hb dX1_putMark_58 (by decide) ?_
      refine lv_iadd hx hb dX1_putMark_59 ?_
      obtain ⟨N_28, e_29, hrun⟩ := bd hrun
      replace e_29 := stO_spec e_29
      refine va_iast hx hb hK hP hD hS 2 0 rfl rfl e_29.1 dX1_putMark_60 (fun H locs hP hD hS => ?_)
      replace hP : va_P G.1 vwCl (wLay G al N_28 ++ wBook G ab B) H := by rw [← e_29.2]; exact hP
      replace hD : va_D A (wLay G al N_28 ++ wBook G ab B) := by rw [← e_29.2]; exact hD
      refine lv_aload_n hx hb dX1_putMark_61 rfl (lv_at hl 1 rfl) ?_
      refine va_get (D := G.1) (ci := 0) (v := .ref (ab 3)) (C := RX0) (T := TX0) (N := 4) hx hb hts iwX0 hown hK hP 12 rfl rfl 2 (by decide) ha5 (fun _ h9 => h9) rfl dX1_putMark_62 ?_
      refine lv_iconst (v := nI 3) hx hb dX1_putMark_65 (by decide) ?_
      obtain ⟨v_30, e_31, hrun⟩ := bd hrun
      refine y_ald hx hb hK hP 15 0 rfl rfl e_31 dX1_putMark_66 ?_
      refine lv_iconst (v := nI 1) hx hb dX1_putMark_67 (by decide) ?_
      refine lv_icmp_ne (tgt := 81) hx hb dX1_putMark_68 (by decide) (fun c_32 => ?_) (fun c_32 => ?_)
      · replace hrun := it_neg c_32 hrun
        have hr2 := si hrun
        exact W.vret hx hb hr (fun t ht hW => ⟨⟨(), rfl, trivial, by rw [ht, ← hr2]; exact hP, by rw [← hr2]; exact hD⟩, hS.F ht⟩) hS.2.2 dX1_putMark_81
      · replace hrun := it_pos c_32 hrun
        refine lv_aload_n hx hb dX1_putMark_71 rfl (lv_at hl 0 rfl) ?_
        refine va_get (D := G.1) (ci := 1) (v := .ref (al 3)) (C := RX1) (T := TX1) (N := 9) hx hb hts iwX1 hown hK hP 0 rfl rfl 2 (by decide) ha0 (fun _ h9 => h9) rfl dX1_putMark_72 ?_
        refine lv_iconst (v := nI 1) hx hb dX1_putMark_75 (by decide) ?_
        refine y_aald (v := al 5) hx hb hK hP 3 3 rfl rfl rfl (by decide : ¬ (nI 1 < 0 ∨ 2 ≤ (nI 1).toNatClampNeg)) rfl dX1_putMark_76 ?_
        refine lv_iload_n hx hb dX1_putMark_77 rfl (lv_at hl 2 rfl) ?_
        refine lv_bipush (v := -6) hx hb dX1_putMark_78 (by decide) ?_
        obtain ⟨N_33, e_34, hrun⟩ := bd hrun
        replace e_34 := stO_spec e_34
        refine va_iast hx hb hK hP hD hS 5 0 rfl rfl e_34.1 dX1_putMark_80 (fun H locs hP hD hS => ?_)
        replace hP : va_P G.1 vwCl (wLay G al N_33 ++ wBook G ab B) H := by rw [← e_34.2]; exact hP
        replace hD : va_D A (wLay G al N_33 ++ wBook G ab B) := by rw [← e_34.2]; exact hD
        have hr2 := si hrun
        exact W.vret hx hb hr (fun t ht hW => ⟨⟨(), rfl, trivial, by rw [ht, ← hr2]; exact hP, by rw [← hr2]; exact hD⟩, hS.F ht⟩) hS.2.2 dX1_putMark_81
  have hl := lv_entry [.ref (al 0), .ref (ab 0), .int u2, .int u3] (n := 4) (Nat.le_of_ble_eq_true rfl)
  rw [lg_entry_eq]
  generalize (lg_sl [.ref (al 0), .ref (ab 0), .int u2, .int u3] ++ List.replicate (4 - (lg_sl [.ref (al 0), .ref (ab 0), .int u2, .int u3]).length) Slot.unset).toArray = ls at hl ⊢
  have hl : lv_has ls 4 [(0, .ref (al 0)), (1, .ref (ab 0)), (2, .int u2), (3, .int u3)] := hl
  rw [p_X1_putMark] at hrun
  refine lv_aload_n hx hb dX1_putMark_0 rfl (lv_at hl 0 rfl) ?_
  refine va_get (D := G.1) (ci := 1) (v := .ref (al 3)) (C := RX1) (T := TX1) (N := 9) hx hb hts iwX1 hown hK hP 0 rfl rfl 2 (by decide) ha0 (fun _ h9 => h9) rfl dX1_putMark_1 ?_
  refine lv_iload_n hx hb dX1_putMark_4 rfl (lv_at hl 3 rfl) ?_
  by_cases c_1 : u3 = nI 0
  · replace hrun := it_pos c_1 hrun
    refine y_aald (v := al 4) hx hb hK hP 3 3 rfl rfl rfl (by rw [c_1]; exact (by decide : ¬ (nI 0 < 0 ∨ 2 ≤ (nI 0).toNatClampNeg))) (by rw [c_1]; rfl) dX1_putMark_5 ?_
    refine lv_iload_n hx hb dX1_putMark_6 rfl (lv_at hl 2 rfl) ?_
    refine lv_aload_n hx hb dX1_putMark_7 rfl (lv_at hl 1 rfl) ?_
    refine va_get (D := G.1) (ci := 0) (v := .ref (ab 1)) (C := RX0) (T := TX0) (N := 4) hx hb hts iwX0 hown hK hP 12 rfl rfl 0 (by decide) ha1 (fun _ h9 => h9) rfl dX1_putMark_8 ?_
    refine lv_iload_n hx hb dX1_putMark_11 rfl (lv_at hl 2 rfl) ?_
    obtain ⟨v_3, e_4, hrun⟩ := bd hrun
    refine y_ald hx hb hK hP 13 0 rfl rfl e_4 dX1_putMark_12 ?_
    obtain ⟨N_5, e_6, hrun⟩ := bd hrun
    replace e_6 := stO_spec e_6
    refine va_iast hx hb hK hP hD hS 4 0 rfl rfl e_6.1 dX1_putMark_13 (fun H locs hP hD hS => ?_)
    replace hP : va_P G.1 vwCl (wLay G al N_5 ++ wBook G ab B) H := by rw [← e_6.2]; exact hP
    replace hD : va_D A (wLay G al N_5 ++ wBook G ab B) := by rw [← e_6.2]; exact hD
    refine lv_aload_n hx hb dX1_putMark_14 rfl (lv_at hl 0 rfl) ?_
    refine va_get (D := G.1) (ci := 1) (v := .ref (al 8)) (C := RX1) (T := TX1) (N := 9) hx hb hts iwX1 hown hK hP 0 rfl rfl 5 (by decide) ha2 (fun _ h9 => h9) rfl dX1_putMark_15 ?_
    refine lv_iload_n hx hb dX1_putMark_18 rfl (lv_at hl 3 rfl) ?_
    refine y_aald (v := al 9) hx hb hK hP 8 3 rfl rfl rfl (by rw [c_1]; exact (by decide : ¬ (nI 0 < 0 ∨ 2 ≤ (nI 0).toNatClampNeg))) (by rw [c_1]; rfl) dX1_putMark_19 ?_
    refine lv_aload_n hx hb dX1_putMark_20 rfl (lv_at hl 0 rfl) ?_
    refine va_get (D := G.1) (ci := 1) (v := .int (N_5 10 0)) (C := RX1) (T := TX1) (N := 9) hx hb hts iwX1 hown hK hP 0 rfl rfl 8 (by decide) ha3 (fun _ h9 => h9) rfl dX1_putMark_21 ?_
    obtain ⟨v_7, e_8, hrun⟩ := bd hrun
    refine y_ald hx hb hK hP 9 0 rfl rfl e_8 dX1_putMark_24 ?_
    refine lv_bipush (v := -6) hx hb dX1_putMark_25 (by decide) ?_
    refine lv_icmp_ne (tgt := 47) hx hb dX1_putMark_27 (by decide) (fun c_9 => ?_) (fun c_9 => ?_)
    · replace hrun := it_neg c_9 hrun
      exact kJ_47 u2 u3 N_5 _ _ hP hD hS ls (lv_sub hl [0, 1, 2, 3] rfl) hrun
    · replace hrun := it_pos c_9 hrun
      refine lv_aload_n hx hb dX1_putMark_30 rfl (lv_at hl 0 rfl) ?_
      refine va_get (D := G.1) (ci := 1) (v := .ref (al 8)) (C := RX1) (T := TX1) (N := 9) hx hb hts iwX1 hown hK hP 0 rfl rfl 5 (by decide) ha2 (fun _ h9 => h9) rfl dX1_putMark_31 ?_
      refine lv_iload_n hx hb dX1_putMark_34 rfl (lv_at hl 3 rfl) ?_
      refine y_aald (v := al 9) hx hb hK hP 8 3 rfl rfl rfl (by rw [c_1]; exact (by decide : ¬ (nI 0 < 0 ∨ 2 ≤ (nI 0).toNatClampNeg))) (by rw [c_1]; rfl) dX1_putMark_35 ?_
      refine lv_aload_n hx hb dX1_putMark_36 rfl (lv_at hl 0 rfl) ?_
      refine va_get (D := G.1) (ci := 1) (v := .int (N_5 10 0)) (C := RX1) (T := TX1) (N := 9) hx hb hts iwX1 hown hK hP 0 rfl rfl 8 (by decide) ha3 (fun _ h9 => h9) rfl dX1_putMark_37 ?_
      refine lv_aload_n hx hb dX1_putMark_40 rfl (lv_at hl 1 rfl) ?_
      refine va_get (D := G.1) (ci := 0) (v := .ref (ab 1)) (C := RX0) (T := TX0) (N := 4) hx hb hts iwX0 hown hK hP 12 rfl rfl 0 (by decide) ha1 (fun _ h9 => h9) rfl dX1_putMark_41 ?_
      refine lv_iload_n hx hb dX1_putMark_44 rfl (lv_at hl 2 rfl) ?_
      obtain ⟨v_10, e_11, hrun⟩ := bd hrun
      refine y_ald hx hb hK hP 13 0 rfl rfl e_11 dX1_putMark_45 ?_
      obtain ⟨N_12, e_13, hrun⟩ := bd hrun
      replace e_13 := stO_spec e_13
      refine va_iast hx hb hK hP hD hS 9 0 rfl rfl e_13.1 dX1_putMark_46 (fun H locs hP hD hS => ?_)
      replace hP : va_P G.1 vwCl (wLay G al N_12 ++ wBook G ab B) H := by rw [← e_13.2]; exact hP
      replace hD : va_D A (wLay G al N_12 ++ wBook G ab B) := by rw [← e_13.2]; exact hD
      exact kJ_47 u2 u3 N_12 _ _ hP hD hS ls (lv_sub hl [0, 1, 2, 3] rfl) hrun
  · replace hrun := it_neg c_1 hrun
    by_cases c_2 : u3 = nI 1
    · replace hrun := it_pos c_2 hrun
      refine y_aald (v := al 5) hx hb hK hP 3 3 rfl rfl rfl (by rw [c_2]; exact (by decide : ¬ (nI 1 < 0 ∨ 2 ≤ (nI 1).toNatClampNeg))) (by rw [c_2]; rfl) dX1_putMark_5 ?_
      refine lv_iload_n hx hb dX1_putMark_6 rfl (lv_at hl 2 rfl) ?_
      refine lv_aload_n hx hb dX1_putMark_7 rfl (lv_at hl 1 rfl) ?_
      refine va_get (D := G.1) (ci := 0) (v := .ref (ab 1)) (C := RX0) (T := TX0) (N := 4) hx hb hts iwX0 hown hK hP 12 rfl rfl 0 (by decide) ha1 (fun _ h9 => h9) rfl dX1_putMark_8 ?_
      refine lv_iload_n hx hb dX1_putMark_11 rfl (lv_at hl 2 rfl) ?_
      obtain ⟨v_14, e_15, hrun⟩ := bd hrun
      refine y_ald hx hb hK hP 13 0 rfl rfl e_15 dX1_putMark_12 ?_
      obtain ⟨N_16, e_17, hrun⟩ := bd hrun
      replace e_17 := stO_spec e_17
      refine va_iast hx hb hK hP hD hS 5 0 rfl rfl e_17.1 dX1_putMark_13 (fun H locs hP hD hS => ?_)
      replace hP : va_P G.1 vwCl (wLay G al N_16 ++ wBook G ab B) H := by rw [← e_17.2]; exact hP
      replace hD : va_D A (wLay G al N_16 ++ wBook G ab B) := by rw [← e_17.2]; exact hD
      refine lv_aload_n hx hb dX1_putMark_14 rfl (lv_at hl 0 rfl) ?_
      refine va_get (D := G.1) (ci := 1) (v := .ref (al 8)) (C := RX1) (T := TX1) (N := 9) hx hb hts iwX1 hown hK hP 0 rfl rfl 5 (by decide) ha2 (fun _ h9 => h9) rfl dX1_putMark_15 ?_
      refine lv_iload_n hx hb dX1_putMark_18 rfl (lv_at hl 3 rfl) ?_
      refine y_aald (v := al 10) hx hb hK hP 8 3 rfl rfl rfl (by rw [c_2]; exact (by decide : ¬ (nI 1 < 0 ∨ 2 ≤ (nI 1).toNatClampNeg))) (by rw [c_2]; rfl) dX1_putMark_19 ?_
      refine lv_aload_n hx hb dX1_putMark_20 rfl (lv_at hl 0 rfl) ?_
      refine va_get (D := G.1) (ci := 1) (v := .int (N_16 10 0)) (C := RX1) (T := TX1) (N := 9) hx hb hts iwX1 hown hK hP 0 rfl rfl 8 (by decide) ha3 (fun _ h9 => h9) rfl dX1_putMark_21 ?_
      obtain ⟨v_18, e_19, hrun⟩ := bd hrun
      refine y_ald hx hb hK hP 10 0 rfl rfl e_19 dX1_putMark_24 ?_
      refine lv_bipush (v := -6) hx hb dX1_putMark_25 (by decide) ?_
      refine lv_icmp_ne (tgt := 47) hx hb dX1_putMark_27 (by decide) (fun c_20 => ?_) (fun c_20 => ?_)
      · replace hrun := it_neg c_20 hrun
        exact kJ_47 u2 u3 N_16 _ _ hP hD hS ls (lv_sub hl [0, 1, 2, 3] rfl) hrun
      · replace hrun := it_pos c_20 hrun
        refine lv_aload_n hx hb dX1_putMark_30 rfl (lv_at hl 0 rfl) ?_
        refine va_get (D := G.1) (ci := 1) (v := .ref (al 8)) (C := RX1) (T := TX1) (N := 9) hx hb hts iwX1 hown hK hP 0 rfl rfl 5 (by decide) ha2 (fun _ h9 => h9) rfl dX1_putMark_31 ?_
        refine lv_iload_n hx hb dX1_putMark_34 rfl (lv_at hl 3 rfl) ?_
        refine y_aald (v := al 10) hx hb hK hP 8 3 rfl rfl rfl (by rw [c_2]; exact (by decide : ¬ (nI 1 < 0 ∨ 2 ≤ (nI 1).toNatClampNeg))) (by rw [c_2]; rfl) dX1_putMark_35 ?_
        refine lv_aload_n hx hb dX1_putMark_36 rfl (lv_at hl 0 rfl) ?_
        refine va_get (D := G.1) (ci := 1) (v := .int (N_16 10 0)) (C := RX1) (T := TX1) (N := 9) hx hb hts iwX1 hown hK hP 0 rfl rfl 8 (by decide) ha3 (fun _ h9 => h9) rfl dX1_putMark_37 ?_
        refine lv_aload_n hx hb dX1_putMark_40 rfl (lv_at hl 1 rfl) ?_
        refine va_get (D := G.1) (ci := 0) (v := .ref (ab 1)) (C := RX0) (T := TX0) (N := 4) hx hb hts iwX0 hown hK hP 12 rfl rfl 0 (by decide) ha1 (fun _ h9 => h9) rfl dX1_putMark_41 ?_
        refine lv_iload_n hx hb dX1_putMark_44 rfl (lv_at hl 2 rfl) ?_
        obtain ⟨v_21, e_22, hrun⟩ := bd hrun
        refine y_ald hx hb hK hP 13 0 rfl rfl e_22 dX1_putMark_45 ?_
        obtain ⟨N_23, e_24, hrun⟩ := bd hrun
        replace e_24 := stO_spec e_24
        refine va_iast hx hb hK hP hD hS 10 0 rfl rfl e_24.1 dX1_putMark_46 (fun H locs hP hD hS => ?_)
        replace hP : va_P G.1 vwCl (wLay G al N_23 ++ wBook G ab B) H := by rw [← e_24.2]; exact hP
        replace hD : va_D A (wLay G al N_23 ++ wBook G ab B) := by rw [← e_24.2]; exact hD
        exact kJ_47 u2 u3 N_23 _ _ hP hD hS ls (lv_sub hl [0, 1, 2, 3] rfl) hrun
    · replace hrun := it_neg c_2 hrun
      cases hrun
