theorem jn_LB_L_mL {G : GT} {al ab : Nat → Nat} {L B N : Ob} {A : Nat → Prop} {H H1 : Heap} (hP : va_P G.1 vwCl (wLay G al L ++ wBook G ab B) H) (hD : va_D A (wLay G al L ++ wBook G ab B)) (hk : ∀ q : Nat, q < H.size → ¬ va_A (wLay G al L) H.size q → H1[q]? = H[q]?) (hF : ∀ q, va_A (wLay G al L) H.size q → A q) (hP1 : va_P G.1 vwCl (wLay G al N) H1) (hD1 : va_D (va_A (wLay G al L) H.size) (wLay G al N)) : va_P G.1 vwCl (wLay G al N ++ wBook G ab B) H1 ∧ va_D A (wLay G al N ++ wBook G ab B) := by
  obtain ⟨h1, h2⟩ := va_join (wr := wBook G ab B) (w1 := wLay G al N) hP hD [0, 1, 2, 3, 4, 5, 6, 7, 8, 9, 10, 11] [12, 13, 14, 15] rfl rfl (by decide) (by decide) hk hF hP1 hD1
  exact ⟨h1.sub [4, 5, 6, 7, 8, 9, 10, 11, 12, 13, 14, 15, 0, 1, 2, 3] rfl, h2.sub [4, 5, 6, 7, 8, 9, 10, 11, 12, 13, 14, 15, 0, 1, 2, 3] (by decide) rfl⟩
def p_X1_isLeft  (u0 : Int32)  : Option (Int32) := (if (u0 - u0 / (nI 2) * (nI 2)) = nI 0 then (some (nI 1)) else (some (nI 0)))
abbrev rmX1_isLeft : Room := { frames := 0, cells := 0, slots := 0, locals := 0 }
set_option maxHeartbeats 4000000 in
set_option maxRecDepth 100000 in
theorem c_X1_isLeft (l : Launch) (G : GT) (u0 : Int32) (r0 : Int32) (hrun : p_X1_isLeft u0 = some r0) : Met l yX1_isLeft wsX1_isLeft rmX1_isLeft (PreR G [.int u0] ([])) (Rz r0) 0 0 (fun _ => False) := by
  refine Met.ofW (cc := cX1_isLeft) (maxL := 1) (ret := (some .boolean)) (by decide) rfl ?_
  intro p e s m args below meth c s₁ Bd hml hv
  obtain ⟨rfl, hP, hC⟩ := hv
  have hx := Bd.exec
  have hb := Bd.bytes
  have hr := Bd.returns
  have hts := atoms_spec (ws := wsX1_isLeft) Bd.pre
  have hown : s.vm.findClass RX1 = some m.cls := findClass_of_methodNamed Bd.named
  have hlocks := Bd.notSynchronized
  have hK := hC.1
  have hl := lv_entry [.int u0] (n := 1) (Nat.le_of_ble_eq_true rfl)
  rw [lg_entry_eq]
  generalize (lg_sl [.int u0] ++ List.replicate (1 - (lg_sl [.int u0]).length) Slot.unset).toArray = ls at hl ⊢
  have hl : lv_has ls 1 [(0, .int u0)] := hl
  rw [p_X1_isLeft] at hrun
  refine lv_iload_n hx hb dX1_isLeft_0 rfl (lv_at hl 0 rfl) ?_
  refine lv_iconst (v := nI 2) hx hb dX1_isLeft_1 (by decide) ?_
  refine lv_irem hx hb dX1_isLeft_2 (by decide) ?_
  refine lv_if_ne (tgt := 10) hx hb dX1_isLeft_3 (by decide) (fun c_1 => ?_) (fun c_1 => ?_)
  · replace hrun := it_neg c_1 hrun
    refine lv_iconst (v := nI 0) hx hb dX1_isLeft_10 (by decide) ?_
    exact W.zret (v := (nI 0)) hx hb hr (by rfl) (fun t ht hW => ⟨(nI 0), rfl, ⟨si hrun, by rfl⟩, ht⟩) (fun _ h => absurd h List.not_mem_nil) dX1_isLeft_11
  · replace hrun := it_pos c_1 hrun
    refine lv_iconst (v := nI 1) hx hb dX1_isLeft_6 (by decide) ?_
    refine lv_goto (tgt := 11) hx hb dX1_isLeft_7 (by decide) ?_
    exact W.zret (v := (nI 1)) hx hb hr (by rfl) (fun t ht hW => ⟨(nI 1), rfl, ⟨si hrun, by rfl⟩, ht⟩) (fun _ h => absurd h List.not_mem_nil) dX1_isLeft_11
def p_X1_forceBehind (L : Ob) (u1 : Int32) (u2 : Int32)  : Option (Int32) := (if u2 = nI 0 then (some (-6)) else (if u1 = nI 0 then ((ldI (L 2) 60 (u2 - (nI 1))).bind fun v_4 => (some v_4)) else (if u1 = nI 1 then ((ldI (L 3) 60 (u2 - (nI 1))).bind fun v_6 => (some v_6)) else none)))
abbrev rmX1_forceBehind : Room := { frames := 0, cells := 0, slots := 0, locals := 0 }
set_option maxHeartbeats 4000000 in
set_option maxRecDepth 100000 in
theorem c_X1_forceBehind (l : Launch) (G : GT) (al : Nat → Nat) (L : Ob) (u1 u2 : Int32) (r0 : Int32) (hrun : p_X1_forceBehind L u1 u2 = some r0) : Met l yX1_forceBehind wsX1_forceBehind rmX1_forceBehind (PreR G [.ref (al 0), .int u1, .int u2] (wLay G al L)) (Ri r0) 0 0 (fun _ => False) := by
  refine Met.ofW (cc := cX1_forceBehind) (maxL := 3) (ret := (some .int)) (by decide) rfl ?_
  intro p e s m args below meth c s₁ Bd hml hv
  obtain ⟨rfl, hP, hC⟩ := hv
  have hx := Bd.exec
  have hb := Bd.bytes
  have hr := Bd.returns
  have hts := atoms_spec (ws := wsX1_forceBehind) Bd.pre
  have hown : s.vm.findClass RX1 = some m.cls := findClass_of_methodNamed Bd.named
  have hlocks := Bd.notSynchronized
  have hK := hC.1
  have iwX1 : ∀ w ∈ wsX10, w ∈ wsX1_forceBehind := by decide +kernel
  have ha0 := hts (.fieldLink RX1 20 "HeadMarks$Layout" "inForce" "[[I") (by decide +kernel)
  have hl := lv_entry [.ref (al 0), .int u1, .int u2] (n := 3) (Nat.le_of_ble_eq_true rfl)
  rw [lg_entry_eq]
  generalize (lg_sl [.ref (al 0), .int u1, .int u2] ++ List.replicate (3 - (lg_sl [.ref (al 0), .int u1, .int u2]).length) Slot.unset).toArray = ls at hl ⊢
  have hl : lv_has ls 3 [(0, .ref (al 0)), (1, .int u1), (2, .int u2)] := hl
  rw [p_X1_forceBehind] at hrun
  refine lv_iload_n hx hb dX1_forceBehind_0 rfl (lv_at hl 2 rfl) ?_
  refine lv_if_ne (tgt := 9) hx hb dX1_forceBehind_1 (by decide) (fun c_1 => ?_) (fun c_1 => ?_)
  · replace hrun := it_neg c_1 hrun
    refine lv_aload_n hx hb dX1_forceBehind_9 rfl (lv_at hl 0 rfl) ?_
    refine va_get (D := G.1) (ci := 1) (v := .ref (al 3)) (C := RX1) (T := TX1) (N := 9) hx hb hts iwX1 hown hK hP 0 rfl rfl 2 (by decide) ha0 (fun _ h9 => h9) rfl dX1_forceBehind_10 ?_
    refine lv_iload_n hx hb dX1_forceBehind_13 rfl (lv_at hl 1 rfl) ?_
    by_cases c_2 : u1 = nI 0
    · replace hrun := it_pos c_2 hrun
      refine y_aald (v := al 4) hx hb hK hP 3 3 rfl rfl rfl (by rw [c_2]; exact (by decide : ¬ (nI 0 < 0 ∨ 2 ≤ (nI 0).toNatClampNeg))) (by rw [c_2]; rfl) dX1_forceBehind_14 ?_
      refine lv_iload_n hx hb dX1_forceBehind_15 rfl (lv_at hl 2 rfl) ?_
      refine lv_iconst (v := nI 1) hx hb dX1_forceBehind_16 (by decide) ?_
      refine lv_isub hx hb dX1_forceBehind_17 ?_
      obtain ⟨v_4, e_5, hrun⟩ := bd hrun
      refine y_ald hx hb hK hP 4 0 rfl rfl e_5 dX1_forceBehind_18 ?_
      exact W.iret (v := v_4) hx hb hr (fun t ht hW => ⟨v_4, rfl, si hrun, ht⟩) (fun _ h => absurd h List.not_mem_nil) dX1_forceBehind_19
    · replace hrun := it_neg c_2 hrun
      by_cases c_3 : u1 = nI 1
      · replace hrun := it_pos c_3 hrun
        refine y_aald (v := al 5) hx hb hK hP 3 3 rfl rfl rfl (by rw [c_3]; exact (by decide : ¬ (nI 1 < 0 ∨ 2 ≤ (nI 1).toNatClampNeg))) (by rw [c_3]; rfl) dX1_forceBehind_14 ?_
        refine lv_iload_n hx hb dX1_forceBehind_15 rfl (lv_at hl 2 rfl) ?_
        refine lv_iconst (v := nI 1) hx hb dX1_forceBehind_16 (by decide) ?_
        refine lv_isub hx hb dX1_forceBehind_17 ?_
        obtain ⟨v_6, e_7, hrun⟩ := bd hrun
        refine y_ald hx hb hK hP 5 0 rfl rfl e_7 dX1_forceBehind_18 ?_
        exact W.iret (v := v_6) hx hb hr (fun t ht hW => ⟨v_6, rfl, si hrun, ht⟩) (fun _ h => absurd h List.not_mem_nil) dX1_forceBehind_19
      · replace hrun := it_neg c_3 hrun
        cases hrun
  · replace hrun := it_pos c_1 hrun
    refine lv_bipush (v := -6) hx hb dX1_forceBehind_4 (by decide) ?_
    refine lv_goto (tgt := 19) hx hb dX1_forceBehind_6 (by decide) ?_
    exact W.iret (v := (-6)) hx hb hr (fun t ht hW => ⟨(-6), rfl, si hrun, ht⟩) (fun _ h => absurd h List.not_mem_nil) dX1_forceBehind_19
def p_X1_markOf_51 (L : Ob) (x1 : Int32) (x2 : Int32)  : Option (Int32) := ((ldI (L 4) 120 x1).bind fun v_21 => ((p_X1_forceBehind L x2 v_21).bind fun v_23 => (some v_23)))
def p_X1_markOf (L : Ob) (u1 : Int32) (u2 : Int32) (u3 : Int32)  : Option (Int32) := (if u3 = (nI 2) then ((ldI (L 4) 120 u1).bind fun v_15 => ((ldI (L 5) 120 u1).bind fun v_17 => ((p_X1_forceBehind L u2 (v_15 + v_17)).bind fun v_19 => (some v_19)))) else (if u3 = (nI 1) then (if u2 = nI 0 then ((ldI (L 6) 120 u1).bind fun v_5 => (if v_5 = (-6) then p_X1_markOf_51 L u1 u2 else ((ldI (L 6) 120 u1).bind fun v_8 => (some v_8)))) else (if u2 = nI 1 then ((ldI (L 7) 120 u1).bind fun v_10 => (if v_10 = (-6) then p_X1_markOf_51 L u1 u2 else ((ldI (L 7) 120 u1).bind fun v_13 => (some v_13)))) else none)) else p_X1_markOf_51 L u1 u2))
abbrev rmX1_markOf : Room := { frames := 1, cells := 0, slots := 0, locals := 22 }
set_option maxHeartbeats 4000000 in
set_option maxRecDepth 100000 in
theorem c_X1_markOf (l : Launch) (G : GT) (al : Nat → Nat) (L : Ob) (u1 u2 u3 : Int32) (r0 : Int32) (hrun : p_X1_markOf L u1 u2 u3 = some r0) : Met l yX1_markOf wsX1_markOf rmX1_markOf (PreR G [.ref (al 0), .int u1, .int u2, .int u3] (wLay G al L)) (Ri r0) 0 0 (fun _ => False) := by
  refine Met.ofW (cc := cX1_markOf) (maxL := 4) (ret := (some .int)) (by decide) rfl ?_
  intro p e s m args below meth c s₁ Bd hml hv
  obtain ⟨rfl, hP, hC⟩ := hv
  have hx := Bd.exec
  have hb := Bd.bytes
  have hr := Bd.returns
  have hts := atoms_spec (ws := wsX1_markOf) Bd.pre
  have hown : s.vm.findClass RX1 = some m.cls := findClass_of_methodNamed Bd.named
  have hlocks := Bd.notSynchronized
  have hK := hC.1
  have iwX1 : ∀ w ∈ wsX10, w ∈ wsX1_markOf := by decide +kernel
  have ha0 := hts (.fieldLink RX1 29 "HeadMarks$Layout" "ownFirst" "[[I") (by decide +kernel)
  have ha1 := hts (.fieldLink RX1 23 "HeadMarks$Layout" "linesAhead" "[I") (by decide +kernel)
  have ha2 := hts (.fieldLink RX1 26 "HeadMarks$Layout" "linesOn" "[I") (by decide +kernel)
  have kJ_51 : ∀ (x1 x2 : Int32) , ∀ (ls : Array Slot), lv_has ls 4 [(0, .ref (al 0)), (1, .int x1), (2, .int x2)] → p_X1_markOf_51 L x1 x2 = some r0 → W p l e (headSpec wsX1_markOf rmX1_markOf).room s m ([.ref (al 0), .int u1, .int u2, .int u3] : List Value).toArray below meth c s.heap [] 0 0 (MQ below (Ri r0) ([.ref (al 0), .int u1, .int u2, .int u3] : List Value).toArray s 0 0 (fun _ => False)) (F0 m 51 ls []) := by
    intro x1 x2 ls hl hrun
    rw [p_X1_markOf_51] at hrun
    refine lv_aload_n hx hb dX1_markOf_51 rfl (lv_at hl 0 rfl) ?_
    refine lv_iload_n hx hb dX1_markOf_52 rfl (lv_at hl 2 rfl) ?_
    refine lv_aload_n hx hb dX1_markOf_53 rfl (lv_at hl 0 rfl) ?_
    refine va_get (D := G.1) (ci := 1) (v := .ref (al 6)) (C := RX1) (T := TX1) (N := 9) hx hb hts iwX1 hown hK hP 0 rfl rfl 3 (by decide) ha1 (fun _ h9 => h9) rfl dX1_markOf_54 ?_
    refine lv_iload_n hx hb dX1_markOf_57 rfl (lv_at hl 1 rfl) ?_
    obtain ⟨v_21, e_22, hrun⟩ := bd hrun
    refine y_ald hx hb hK hP 6 0 rfl rfl e_22 dX1_markOf_58 ?_
    obtain ⟨v_23, e_24, hrun⟩ := bd hrun
    refine y_ro (va_runV (As := [.int x2, .int v_21]) (rest := []) ⟨hx, hb, hml, hown, hts⟩ (c_X1_forceBehind l G al L x2 v_21 v_23 e_24) (cwV 2 hts gX1_markOf_X1_forceBehind rfl rfl rfl (by decide +kernel) ⟨Nat.le_of_ble_eq_true rfl, Nat.le_of_ble_eq_true rfl⟩) ⟨PreR.blind, va_recv hK hP (ci := 1) (q0 := 0) rfl rfl, y_preR hC hP⟩ rfl rfl hl.1 rfl (lv_room (Nat.le_of_ble_eq_true rfl)) dX1_markOf_59 ⟨Nat.zero_le _, Nat.zero_le _⟩) ?_
    exact W.iret (v := v_23) hx hb hr (fun t ht hW => ⟨v_23, rfl, si hrun, ht⟩) (fun _ h => absurd h List.not_mem_nil) dX1_markOf_62
  have hl := lv_entry [.ref (al 0), .int u1, .int u2, .int u3] (n := 4) (Nat.le_of_ble_eq_true rfl)
  rw [lg_entry_eq]
  generalize (lg_sl [.ref (al 0), .int u1, .int u2, .int u3] ++ List.replicate (4 - (lg_sl [.ref (al 0), .int u1, .int u2, .int u3]).length) Slot.unset).toArray = ls at hl ⊢
  have hl : lv_has ls 4 [(0, .ref (al 0)), (1, .int u1), (2, .int u2), (3, .int u3)] := hl
  rw [p_X1_markOf] at hrun
  refine lv_iload_n hx hb dX1_markOf_0 rfl (lv_at hl 3 rfl) ?_
  refine lv_iconst (v := nI 2) hx hb dX1_markOf_1 (by decide) ?_
  refine lv_icmp_ne (tgt := 24) hx hb dX1_markOf_2 (by decide) (fun c_1 => ?_) (fun c_1 => ?_)
  · replace hrun := it_neg c_1 hrun
    refine lv_iload_n hx hb dX1_markOf_24 rfl (lv_at hl 3 rfl) ?_
    refine lv_iconst (v := nI 1) hx hb dX1_markOf_25 (by decide) ?_
    refine lv_icmp_ne (tgt := 51) hx hb dX1_markOf_26 (by decide) (fun c_2 => ?_) (fun c_2 => ?_)
    · replace hrun := it_neg c_2 hrun
      exact kJ_51 u1 u2  ls (lv_sub hl [0, 1, 2] rfl) hrun
    · replace hrun := it_pos c_2 hrun
      refine lv_aload_n hx hb dX1_markOf_29 rfl (lv_at hl 0 rfl) ?_
      refine va_get (D := G.1) (ci := 1) (v := .ref (al 8)) (C := RX1) (T := TX1) (N := 9) hx hb hts iwX1 hown hK hP 0 rfl rfl 5 (by decide) ha0 (fun _ h9 => h9) rfl dX1_markOf_30 ?_
      refine lv_iload_n hx hb dX1_markOf_33 rfl (lv_at hl 2 rfl) ?_
      by_cases c_3 : u2 = nI 0
      · replace hrun := it_pos c_3 hrun
        refine y_aald (v := al 9) hx hb hK hP 8 3 rfl rfl rfl (by rw [c_3]; exact (by decide : ¬ (nI 0 < 0 ∨ 2 ≤ (nI 0).toNatClampNeg))) (by rw [c_3]; rfl) dX1_markOf_34 ?_
        refine lv_iload_n hx hb dX1_markOf_35 rfl (lv_at hl 1 rfl) ?_
        obtain ⟨v_5, e_6, hrun⟩ := bd hrun
        refine y_ald hx hb hK hP 9 0 rfl rfl e_6 dX1_markOf_36 ?_
        refine lv_bipush (v := -6) hx hb dX1_markOf_37 (by decide) ?_
        refine lv_icmp_eq (tgt := 51) hx hb dX1_markOf_39 (by decide) (fun c_7 => ?_) (fun c_7 => ?_)
        · replace hrun := it_pos c_7 hrun
          exact kJ_51 u1 u2  ls (lv_sub hl [0, 1, 2] rfl) hrun
        · replace hrun := it_neg c_7 hrun
          refine lv_aload_n hx hb dX1_markOf_42 rfl (lv_at hl 0 rfl) ?_
          refine va_get (D := G.1) (ci := 1) (v := .ref (al 8)) (C := RX1) (T := TX1) (N := 9) hx hb hts iwX1 hown hK hP 0 rfl rfl 5 (by decide) ha0 (fun _ h9 => h9) rfl dX1_markOf_43 ?_
          refine lv_iload_n hx hb dX1_markOf_46 rfl (lv_at hl 2 rfl) ?_
          refine y_aald (v := al 9) hx hb hK hP 8 3 rfl rfl rfl (by rw [c_3]; exact (by decide : ¬ (nI 0 < 0 ∨ 2 ≤ (nI 0).toNatClampNeg))) (by rw [c_3]; rfl) dX1_markOf_47 ?_
          refine lv_iload_n hx hb dX1_markOf_48 rfl (lv_at hl 1 rfl) ?_
          obtain ⟨v_8, e_9, hrun⟩ := bd hrun
          refine y_ald hx hb hK hP 9 0 rfl rfl e_9 dX1_markOf_49 ?_
          exact W.iret (v := v_8) hx hb hr (fun t ht hW => ⟨v_8, rfl, si hrun, ht⟩) (fun _ h => absurd h List.not_mem_nil) dX1_markOf_50
      · replace hrun := it_neg c_3 hrun
        by_cases c_4 : u2 = nI 1
        · replace hrun := it_pos c_4 hrun
          refine y_aald (v := al 10) hx hb hK hP 8 3 rfl rfl rfl (by rw [c_4]; exact (by decide : ¬ (nI 1 < 0 ∨ 2 ≤ (nI 1).toNatClampNeg))) (by rw [c_4]; rfl) dX1_markOf_34 ?_
          refine lv_iload_n hx hb dX1_markOf_35 rfl (lv_at hl 1 rfl) ?_
          obtain ⟨v_10, e_11, hrun⟩ := bd hrun
          refine y_ald hx hb hK hP 10 0 rfl rfl e_11 dX1_markOf_36 ?_
          refine lv_bipush (v := -6) hx hb dX1_markOf_37 (by decide) ?_
          refine lv_icmp_eq (tgt := 51) hx hb dX1_markOf_39 (by decide) (fun c_12 => ?_) (fun c_12 => ?_)
          · replace hrun := it_pos c_12 hrun
            exact kJ_51 u1 u2  ls (lv_sub hl [0, 1, 2] rfl) hrun
          · replace hrun := it_neg c_12 hrun
            refine lv_aload_n hx hb dX1_markOf_42 rfl (lv_at hl 0 rfl) ?_
            refine va_get (D := G.1) (ci := 1) (v := .ref (al 8)) (C := RX1) (T := TX1) (N := 9) hx hb hts iwX1 hown hK hP 0 rfl rfl 5 (by decide) ha0 (fun _ h9 => h9) rfl dX1_markOf_43 ?_
            refine lv_iload_n hx hb dX1_markOf_46 rfl (lv_at hl 2 rfl) ?_
            refine y_aald (v := al 10) hx hb hK hP 8 3 rfl rfl rfl (by rw [c_4]; exact (by decide : ¬ (nI 1 < 0 ∨ 2 ≤ (nI 1).toNatClampNeg))) (by rw [c_4]; rfl) dX1_markOf_47 ?_
            refine lv_iload_n hx hb dX1_markOf_48 rfl (lv_at hl 1 rfl) ?_
            obtain ⟨v_13, e_14, hrun⟩ := bd hrun
            refine y_ald hx hb hK hP 10 0 rfl rfl e_14 dX1_markOf_49 ?_
            exact W.iret (v := v_13) hx hb hr (fun t ht hW => ⟨v_13, rfl, si hrun, ht⟩) (fun _ h => absurd h List.not_mem_nil) dX1_markOf_50
        · replace hrun := it_neg c_4 hrun
          cases hrun
  · replace hrun := it_pos c_1 hrun
    refine lv_aload_n hx hb dX1_markOf_5 rfl (lv_at hl 0 rfl) ?_
    refine lv_iload_n hx hb dX1_markOf_6 rfl (lv_at hl 2 rfl) ?_
    refine lv_aload_n hx hb dX1_markOf_7 rfl (lv_at hl 0 rfl) ?_
    refine va_get (D := G.1) (ci := 1) (v := .ref (al 6)) (C := RX1) (T := TX1) (N := 9) hx hb hts iwX1 hown hK hP 0 rfl rfl 3 (by decide) ha1 (fun _ h9 => h9) rfl dX1_markOf_8 ?_
    refine lv_iload_n hx hb dX1_markOf_11 rfl (lv_at hl 1 rfl) ?_
    obtain ⟨v_15, e_16, hrun⟩ := bd hrun
    refine y_ald hx hb hK hP 6 0 rfl rfl e_16 dX1_markOf_12 ?_
    refine lv_aload_n hx hb dX1_markOf_13 rfl (lv_at hl 0 rfl) ?_
    refine va_get (D := G.1) (ci := 1) (v := .ref (al 7)) (C := RX1) (T := TX1) (N := 9) hx hb hts iwX1 hown hK hP 0 rfl rfl 4 (by decide) ha2 (fun _ h9 => h9) rfl dX1_markOf_14 ?_
    refine lv_iload_n hx hb dX1_markOf_17 rfl (lv_at hl 1 rfl) ?_
    obtain ⟨v_17, e_18, hrun⟩ := bd hrun
    refine y_ald hx hb hK hP 7 0 rfl rfl e_18 dX1_markOf_18 ?_
    refine lv_iadd hx hb dX1_markOf_19 ?_
    obtain ⟨v_19, e_20, hrun⟩ := bd hrun
    refine y_ro (va_runV (As := [.int u2, .int (v_15 + v_17)]) (rest := []) ⟨hx, hb, hml, hown, hts⟩ (c_X1_forceBehind l G al L u2 (v_15 + v_17) v_19 e_20) (cwV 2 hts gX1_markOf_X1_forceBehind rfl rfl rfl (by decide +kernel) ⟨Nat.le_of_ble_eq_true rfl, Nat.le_of_ble_eq_true rfl⟩) ⟨PreR.blind, va_recv hK hP (ci := 1) (q0 := 0) rfl rfl, y_preR hC hP⟩ rfl rfl hl.1 rfl (lv_room (Nat.le_of_ble_eq_true rfl)) dX1_markOf_20 ⟨Nat.zero_le _, Nat.zero_le _⟩) ?_
    exact W.iret (v := v_19) hx hb hr (fun t ht hW => ⟨v_19, rfl, si hrun, ht⟩) (fun _ h => absurd h List.not_mem_nil) dX1_markOf_23
def p_X1_hasPage (L : Ob) (u1 : Int32)  : Option (Int32) := (if u1 < (nI 1) then (some (nI 0)) else (if (L 10 0) < u1 then (some (nI 0)) else (some (nI 1))))
abbrev rmX1_hasPage : Room := { frames := 0, cells := 0, slots := 0, locals := 0 }
set_option maxHeartbeats 4000000 in
set_option maxRecDepth 100000 in
theorem c_X1_hasPage (l : Launch) (G : GT) (al : Nat → Nat) (L : Ob) (u1 : Int32) (r0 : Int32) (hrun : p_X1_hasPage L u1 = some r0) : Met l yX1_hasPage wsX1_hasPage rmX1_hasPage (PreR G [.ref (al 0), .int u1] (wLay G al L)) (Rz r0) 0 0 (fun _ => False) := by
  refine Met.ofW (cc := cX1_hasPage) (maxL := 2) (ret := (some .boolean)) (by decide) rfl ?_
  intro p e s m args below meth c s₁ Bd hml hv
  obtain ⟨rfl, hP, hC⟩ := hv
  have hx := Bd.exec
  have hb := Bd.bytes
  have hr := Bd.returns
  have hts := atoms_spec (ws := wsX1_hasPage) Bd.pre
  have hown : s.vm.findClass RX1 = some m.cls := findClass_of_methodNamed Bd.named
  have hlocks := Bd.notSynchronized
  have hK := hC.1
  have iwX1 : ∀ w ∈ wsX10, w ∈ wsX1_hasPage := by decide +kernel
  have ha0 := hts (.fieldLink RX1 39 "HeadMarks$Layout" "pages" "I") (by decide +kernel)
  have hl := lv_entry [.ref (al 0), .int u1] (n := 2) (Nat.le_of_ble_eq_true rfl)
  rw [lg_entry_eq]
  generalize (lg_sl [.ref (al 0), .int u1] ++ List.replicate (2 - (lg_sl [.ref (al 0), .int u1]).length) Slot.unset).toArray = ls at hl ⊢
  have hl : lv_has ls 2 [(0, .ref (al 0)), (1, .int u1)] := hl
  rw [p_X1_hasPage] at hrun
  refine lv_iload_n hx hb dX1_hasPage_0 rfl (lv_at hl 1 rfl) ?_
  refine lv_iconst (v := nI 1) hx hb dX1_hasPage_1 (by decide) ?_
  refine lv_icmp_lt (tgt := 17) hx hb dX1_hasPage_2 (by decide) (fun c_1 => ?_) (fun c_1 => ?_)
  · replace hrun := it_pos c_1 hrun
    refine lv_iconst (v := nI 0) hx hb dX1_hasPage_17 (by decide) ?_
    exact W.zret (v := (nI 0)) hx hb hr (by rfl) (fun t ht hW => ⟨(nI 0), rfl, ⟨si hrun, by rfl⟩, ht⟩) (fun _ h => absurd h List.not_mem_nil) dX1_hasPage_18
  · replace hrun := it_neg c_1 hrun
    refine lv_iload_n hx hb dX1_hasPage_5 rfl (lv_at hl 1 rfl) ?_
    refine lv_aload_n hx hb dX1_hasPage_6 rfl (lv_at hl 0 rfl) ?_
    refine va_get (D := G.1) (ci := 1) (v := .int (L 10 0)) (C := RX1) (T := TX1) (N := 9) hx hb hts iwX1 hown hK hP 0 rfl rfl 8 (by decide) ha0 (fun _ h9 => h9) rfl dX1_hasPage_7 ?_
    refine lv_icmp_gt (tgt := 17) hx hb dX1_hasPage_10 (by decide) (fun c_2 => ?_) (fun c_2 => ?_)
    · replace hrun := it_pos c_2 hrun
      refine lv_iconst (v := nI 0) hx hb dX1_hasPage_17 (by decide) ?_
      exact W.zret (v := (nI 0)) hx hb hr (by rfl) (fun t ht hW => ⟨(nI 0), rfl, ⟨si hrun, by rfl⟩, ht⟩) (fun _ h => absurd h List.not_mem_nil) dX1_hasPage_18
    · replace hrun := it_neg c_2 hrun
      refine lv_iconst (v := nI 1) hx hb dX1_hasPage_13 (by decide) ?_
      refine lv_goto (tgt := 18) hx hb dX1_hasPage_14 (by decide) ?_
      exact W.zret (v := (nI 1)) hx hb hr (by rfl) (fun t ht hW => ⟨(nI 1), rfl, ⟨si hrun, by rfl⟩, ht⟩) (fun _ h => absurd h List.not_mem_nil) dX1_hasPage_18
def p_X1_headOrNone (L : Ob) (u1 : Int32)  : Option (Int32) := ((p_X1_hasPage L u1).bind fun v_1 => (if v_1 = nI 0 then (some (-6)) else ((ldI (L 8) 120 u1).bind fun v_5 => (some v_5))))
abbrev rmX1_headOrNone : Room := { frames := 1, cells := 0, slots := 0, locals := 21 }
set_option maxHeartbeats 4000000 in
set_option maxRecDepth 100000 in
theorem c_X1_headOrNone (l : Launch) (G : GT) (al : Nat → Nat) (L : Ob) (u1 : Int32) (r0 : Int32) (hrun : p_X1_headOrNone L u1 = some r0) : Met l yX1_headOrNone wsX1_headOrNone rmX1_headOrNone (PreR G [.ref (al 0), .int u1] (wLay G al L)) (Ri r0) 0 0 (fun _ => False) := by
  refine Met.ofW (cc := cX1_headOrNone) (maxL := 2) (ret := (some .int)) (by decide) rfl ?_
  intro p e s m args below meth c s₁ Bd hml hv
  obtain ⟨rfl, hP, hC⟩ := hv
  have hx := Bd.exec
  have hb := Bd.bytes
  have hr := Bd.returns
  have hts := atoms_spec (ws := wsX1_headOrNone) Bd.pre
  have hown : s.vm.findClass RX1 = some m.cls := findClass_of_methodNamed Bd.named
  have hlocks := Bd.notSynchronized
  have hK := hC.1
  have iwX1 : ∀ w ∈ wsX10, w ∈ wsX1_headOrNone := by decide +kernel
  have ha0 := hts (.fieldLink RX1 32 "HeadMarks$Layout" "heads" "[I") (by decide +kernel)
  have hl := lv_entry [.ref (al 0), .int u1] (n := 2) (Nat.le_of_ble_eq_true rfl)
  rw [lg_entry_eq]
  generalize (lg_sl [.ref (al 0), .int u1] ++ List.replicate (2 - (lg_sl [.ref (al 0), .int u1]).length) Slot.unset).toArray = ls at hl ⊢
  have hl : lv_has ls 2 [(0, .ref (al 0)), (1, .int u1)] := hl
  rw [p_X1_headOrNone] at hrun
  refine lv_aload_n hx hb dX1_headOrNone_0 rfl (lv_at hl 0 rfl) ?_
  refine lv_iload_n hx hb dX1_headOrNone_1 rfl (lv_at hl 1 rfl) ?_
  obtain ⟨v_1, e_2, hrun⟩ := bd hrun
  refine y_roz (va_runV (As := [.int u1]) (rest := []) ⟨hx, hb, hml, hown, hts⟩ (c_X1_hasPage l G al L u1 v_1 e_2) (cwV 1 hts gX1_headOrNone_X1_hasPage rfl rfl rfl (by decide +kernel) ⟨Nat.le_of_ble_eq_true rfl, Nat.le_of_ble_eq_true rfl⟩) ⟨PreR.blind, va_recv hK hP (ci := 1) (q0 := 0) rfl rfl, y_preR hC hP⟩ rfl rfl hl.1 rfl (lv_room (Nat.le_of_ble_eq_true rfl)) dX1_headOrNone_2 ⟨Nat.zero_le _, Nat.zero_le _⟩) (fun z_3 => ?_)
  refine lv_if_eq (tgt := 17) hx hb dX1_headOrNone_5 (by decide) (fun c_4 => ?_) (fun c_4 => ?_)
  · replace hrun := it_pos c_4 hrun
    refine lv_bipush (v := -6) hx hb dX1_headOrNone_17 (by decide) ?_
    exact W.iret (v := (-6)) hx hb hr (fun t ht hW => ⟨(-6), rfl, si hrun, ht⟩) (fun _ h => absurd h List.not_mem_nil) dX1_headOrNone_19
  · replace hrun := it_neg c_4 hrun
    refine lv_aload_n hx hb dX1_headOrNone_8 rfl (lv_at hl 0 rfl) ?_
    refine va_get (D := G.1) (ci := 1) (v := .ref (al 11)) (C := RX1) (T := TX1) (N := 9) hx hb hts iwX1 hown hK hP 0 rfl rfl 6 (by decide) ha0 (fun _ h9 => h9) rfl dX1_headOrNone_9 ?_
    refine lv_iload_n hx hb dX1_headOrNone_12 rfl (lv_at hl 1 rfl) ?_
    obtain ⟨v_5, e_6, hrun⟩ := bd hrun
    refine y_ald hx hb hK hP 11 0 rfl rfl e_6 dX1_headOrNone_13 ?_
    refine lv_goto (tgt := 19) hx hb dX1_headOrNone_14 (by decide) ?_
    exact W.iret (v := v_5) hx hb hr (fun t ht hW => ⟨v_5, rfl, si hrun, ht⟩) (fun _ h => absurd h List.not_mem_nil) dX1_headOrNone_19
def p_X1_isShared (L : Ob) (u1 : Int32)  : Option (Int32) := ((ldI (L 5) 120 u1).bind fun v_1 => (if v_1 = nI 0 then (some (nI 0)) else ((ldI (L 4) 120 u1).bind fun v_4 => ((ldI (L 5) 120 u1).bind fun v_6 => ((ldI (L 1) 60 ((v_4 + v_6) - (nI 1))).bind fun v_8 => ((ldI (L 1) 60 v_4).bind fun v_10 => ((some (if v_10 < (nI 0) then (nI 0) else v_10)).bind fun v_12 => (if v_8 ≤ v_12 then (some (nI 0)) else (some (nI 1))))))))))
abbrev rmX1_isShared : Room := { frames := 1, cells := 0, slots := 0, locals := 30 }
set_option maxHeartbeats 4000000 in
set_option maxRecDepth 100000 in
theorem c_X1_isShared (l : Launch) (G : GT) (al : Nat → Nat) (L : Ob) (u1 : Int32) (r0 : Int32) (hrun : p_X1_isShared L u1 = some r0) : Met l yX1_isShared wsX1_isShared rmX1_isShared (PreR G [.ref (al 0), .int u1] (wLay G al L)) (Rz r0) 0 0 (fun _ => False) := by
  refine Met.ofW (cc := cX1_isShared) (maxL := 4) (ret := (some .boolean)) (by decide) rfl ?_
  intro p e s m args below meth c s₁ Bd hml hv
  obtain ⟨rfl, hP, hC⟩ := hv
  have hx := Bd.exec
  have hb := Bd.bytes
  have hr := Bd.returns
  have hts := atoms_spec (ws := wsX1_isShared) Bd.pre
  have hown : s.vm.findClass RX1 = some m.cls := findClass_of_methodNamed Bd.named
  have hlocks := Bd.notSynchronized
  have hK := hC.1
  have iwX1 : ∀ w ∈ wsX10, w ∈ wsX1_isShared := by decide +kernel
  have ha0 := hts (.fieldLink RX1 26 "HeadMarks$Layout" "linesOn" "[I") (by decide +kernel)
  have ha1 := hts (.fieldLink RX1 23 "HeadMarks$Layout" "linesAhead" "[I") (by decide +kernel)
  have ha2 := hts (.fieldLink RX1 15 "HeadMarks$Layout" "chapterOf" "[I") (by decide +kernel)
  have ha3 := hts (.methodLink RX1 96 yJ9_max_7cf53) (by decide +kernel)
  have ha4 := hts (.static yJ9_max_7cf53) (by decide +kernel)
  have ha5 := hts (.initialized "java/lang/Math") (by decide +kernel)
  have ha6 := hts (.code yJ9_max_7cf53 cJ9_max_7cf53 2 (some .int)) (by decide +kernel)
  have hl := lv_entry [.ref (al 0), .int u1] (n := 4) (Nat.le_of_ble_eq_true rfl)
  rw [lg_entry_eq]
  generalize (lg_sl [.ref (al 0), .int u1] ++ List.replicate (4 - (lg_sl [.ref (al 0), .int u1]).length) Slot.unset).toArray = ls at hl ⊢
  have hl : lv_has ls 4 [(0, .ref (al 0)), (1, .int u1)] := hl
  rw [p_X1_isShared] at hrun
  refine lv_aload_n hx hb dX1_isShared_0 rfl (lv_at hl 0 rfl) ?_
  refine va_get (D := G.1) (ci := 1) (v := .ref (al 7)) (C := RX1) (T := TX1) (N := 9) hx hb hts iwX1 hown hK hP 0 rfl rfl 4 (by decide) ha0 (fun _ h9 => h9) rfl dX1_isShared_1 ?_
  refine lv_iload_n hx hb dX1_isShared_4 rfl (lv_at hl 1 rfl) ?_
  obtain ⟨v_1, e_2, hrun⟩ := bd hrun
  refine y_ald hx hb hK hP 7 0 rfl rfl e_2 dX1_isShared_5 ?_
  refine lv_if_ne (tgt := 11) hx hb dX1_isShared_6 (by decide) (fun c_3 => ?_) (fun c_3 => ?_)
  · replace hrun := it_neg c_3 hrun
    refine lv_aload_n hx hb dX1_isShared_11 rfl (lv_at hl 0 rfl) ?_
    refine va_get (D := G.1) (ci := 1) (v := .ref (al 6)) (C := RX1) (T := TX1) (N := 9) hx hb hts iwX1 hown hK hP 0 rfl rfl 3 (by decide) ha1 (fun _ h9 => h9) rfl dX1_isShared_12 ?_
    refine lv_iload_n hx hb dX1_isShared_15 rfl (lv_at hl 1 rfl) ?_
    obtain ⟨v_4, e_5, hrun⟩ := bd hrun
    refine y_ald hx hb hK hP 6 0 rfl rfl e_5 dX1_isShared_16 ?_
    refine lv_istore_n (lv' := [(2, .int v_4), (0, .ref (al 0)), (1, .int u1)]) hx hb dX1_isShared_17 rfl hl (by decide) rfl (fun ls hl => ?_)
    refine lv_iload_n hx hb dX1_isShared_18 rfl (lv_at hl 0 rfl) ?_
    refine lv_aload_n hx hb dX1_isShared_19 rfl (lv_at hl 1 rfl) ?_
    refine va_get (D := G.1) (ci := 1) (v := .ref (al 7)) (C := RX1) (T := TX1) (N := 9) hx hb hts iwX1 hown hK hP 0 rfl rfl 4 (by decide) ha0 (fun _ h9 => h9) rfl dX1_isShared_20 ?_
    refine lv_iload_n hx hb dX1_isShared_23 rfl (lv_at hl 2 rfl) ?_
    obtain ⟨v_6, e_7, hrun⟩ := bd hrun
    refine y_ald hx hb hK hP 7 0 rfl rfl e_7 dX1_isShared_24 ?_
    refine lv_iadd hx hb dX1_isShared_25 ?_
    refine lv_iconst (v := nI 1) hx hb dX1_isShared_26 (by decide) ?_
    refine lv_isub hx hb dX1_isShared_27 ?_
    refine lv_istore_n (lv' := [(3, .int ((v_4 + v_6) - (nI 1))), (2, .int v_4), (0, .ref (al 0)), (1, .int u1)]) hx hb dX1_isShared_28 rfl hl (by decide) rfl (fun ls hl => ?_)
    refine lv_aload_n hx hb dX1_isShared_29 rfl (lv_at hl 2 rfl) ?_
    refine va_get (D := G.1) (ci := 1) (v := .ref (al 2)) (C := RX1) (T := TX1) (N := 9) hx hb hts iwX1 hown hK hP 0 rfl rfl 1 (by decide) ha2 (fun _ h9 => h9) rfl dX1_isShared_30 ?_
    refine lv_iload_n hx hb dX1_isShared_33 rfl (lv_at hl 0 rfl) ?_
    obtain ⟨v_8, e_9, hrun⟩ := bd hrun
    refine y_ald hx hb hK hP 2 0 rfl rfl e_9 dX1_isShared_34 ?_
    refine lv_aload_n hx hb dX1_isShared_35 rfl (lv_at hl 2 rfl) ?_
    refine va_get (D := G.1) (ci := 1) (v := .ref (al 2)) (C := RX1) (T := TX1) (N := 9) hx hb hts iwX1 hown hK hP 0 rfl rfl 1 (by decide) ha2 (fun _ h9 => h9) rfl dX1_isShared_36 ?_
    refine lv_iload_n hx hb dX1_isShared_39 rfl (lv_at hl 1 rfl) ?_
    obtain ⟨v_10, e_11, hrun⟩ := bd hrun
    refine y_ald hx hb hK hP 2 0 rfl rfl e_11 dX1_isShared_40 ?_
    refine lv_iconst (v := nI 0) hx hb dX1_isShared_41 (by decide) ?_
    refine va_mmax hx hb (by rw [hml]; exact hl.1.symm) hown ha3 ha4 ha5 ha6 (Nat.le_of_ble_eq_true rfl) (Nat.le_of_ble_eq_true rfl) (Nat.zero_le _) (Nat.zero_le _) dX1_isShared_42 ?_
    obtain ⟨v_12, e_13, hrun⟩ := bd hrun
    rw [si e_13]
    refine lv_icmp_le (tgt := 52) hx hb dX1_isShared_45 (by decide) (fun c_14 => ?_) (fun c_14 => ?_)
    · replace hrun := it_pos c_14 hrun
      refine lv_iconst (v := nI 0) hx hb dX1_isShared_52 (by decide) ?_
      exact W.zret (v := (nI 0)) hx hb hr (by rfl) (fun t ht hW => ⟨(nI 0), rfl, ⟨si hrun, by rfl⟩, ht⟩) (fun _ h => absurd h List.not_mem_nil) dX1_isShared_53
    · replace hrun := it_neg c_14 hrun
      refine lv_iconst (v := nI 1) hx hb dX1_isShared_48 (by decide) ?_
      refine lv_goto (tgt := 53) hx hb dX1_isShared_49 (by decide) ?_
      exact W.zret (v := (nI 1)) hx hb hr (by rfl) (fun t ht hW => ⟨(nI 1), rfl, ⟨si hrun, by rfl⟩, ht⟩) (fun _ h => absurd h List.not_mem_nil) dX1_isShared_53
  · replace hrun := it_pos c_3 hrun
    refine lv_iconst (v := nI 0) hx hb dX1_isShared_9 (by decide) ?_
    exact W.zret (v := (nI 0)) hx hb hr (by rfl) (fun t ht hW => ⟨(nI 0), rfl, ⟨si hrun, by rfl⟩, ht⟩) (fun _ h => absurd h List.not_mem_nil) dX1_isShared_10
def p_X1_titleLineOf_2 (L : Ob) : Nat → Int32 → Int32 → Option (Int32)
  | 0, _, _ => none
  | n + 1, x1, x2 => (if ((L 9 0) - (nI 1)) ≤ x2 then (some x2) else ((ldI (L 1) 60 x2).bind fun v_2 => (if x1 ≤ v_2 then (some x2) else p_X1_titleLineOf_2 L n x1 (x2 + nI 1))))
def p_X1_titleLineOf (L : Ob) (u1 : Int32)  : Option (Int32) := p_X1_titleLineOf_2 L 200 u1 (nI 0)
abbrev rmX1_titleLineOf : Room := { frames := 0, cells := 0, slots := 0, locals := 0 }
set_option maxHeartbeats 4000000 in
set_option maxRecDepth 100000 in
theorem c_X1_titleLineOf (l : Launch) (G : GT) (al : Nat → Nat) (L : Ob) (u1 : Int32) (r0 : Int32) (hrun : p_X1_titleLineOf L u1 = some r0) : Met l yX1_titleLineOf wsX1_titleLineOf rmX1_titleLineOf (PreR G [.ref (al 0), .int u1] (wLay G al L)) (Ri r0) 0 0 (fun _ => False) := by
  refine Met.ofW (cc := cX1_titleLineOf) (maxL := 3) (ret := (some .int)) (by decide) rfl ?_
  intro p e s m args below meth c s₁ Bd hml hv
  obtain ⟨rfl, hP, hC⟩ := hv
  have hx := Bd.exec
  have hb := Bd.bytes
  have hr := Bd.returns
  have hts := atoms_spec (ws := wsX1_titleLineOf) Bd.pre
  have hown : s.vm.findClass RX1 = some m.cls := findClass_of_methodNamed Bd.named
  have hlocks := Bd.notSynchronized
  have hK := hC.1
  have iwX1 : ∀ w ∈ wsX10, w ∈ wsX1_titleLineOf := by decide +kernel
  have ha0 := hts (.fieldLink RX1 35 "HeadMarks$Layout" "lines" "I") (by decide +kernel)
  have ha1 := hts (.fieldLink RX1 15 "HeadMarks$Layout" "chapterOf" "[I") (by decide +kernel)
  have kH_2 : ∀ (n : Nat) (x1 x2 : Int32) , ∀ (ls : Array Slot), lv_has ls 3 [(0, .ref (al 0)), (1, .int x1), (2, .int x2)] → p_X1_titleLineOf_2 L n x1 x2 = some r0 → W p l e (headSpec wsX1_titleLineOf rmX1_titleLineOf).room s m ([.ref (al 0), .int u1] : List Value).toArray below meth c s.heap [] 0 0 (MQ below (Ri r0) ([.ref (al 0), .int u1] : List Value).toArray s 0 0 (fun _ => False)) (F0 m 2 ls []) := by
    intro n
    induction n with
    | zero => intro x1 x2 ls hl hrun; exact absurd (hrun : (none : Option (Int32)) = some r0) (fun h => by cases h)
    | succ n ih =>
      intro x1 x2 ls hl hrun
      rw [p_X1_titleLineOf_2] at hrun
      refine lv_iload_n hx hb dX1_titleLineOf_2 rfl (lv_at hl 2 rfl) ?_
      refine lv_aload_n hx hb dX1_titleLineOf_3 rfl (lv_at hl 0 rfl) ?_
      refine va_get (D := G.1) (ci := 1) (v := .int (L 9 0)) (C := RX1) (T := TX1) (N := 9) hx hb hts iwX1 hown hK hP 0 rfl rfl 7 (by decide) ha0 (fun _ h9 => h9) rfl dX1_titleLineOf_4 ?_
      refine lv_iconst (v := nI 1) hx hb dX1_titleLineOf_7 (by decide) ?_
      refine lv_isub hx hb dX1_titleLineOf_8 ?_
      refine lv_icmp_ge (tgt := 28) hx hb dX1_titleLineOf_9 (by decide) (fun c_1 => ?_) (fun c_1 => ?_)
      · replace hrun := it_pos c_1 hrun
        refine lv_iload_n hx hb dX1_titleLineOf_28 rfl (lv_at hl 2 rfl) ?_
        exact W.iret (v := x2) hx hb hr (fun t ht hW => ⟨x2, rfl, si hrun, ht⟩) (fun _ h => absurd h List.not_mem_nil) dX1_titleLineOf_29
      · replace hrun := it_neg c_1 hrun
        refine lv_aload_n hx hb dX1_titleLineOf_12 rfl (lv_at hl 0 rfl) ?_
        refine va_get (D := G.1) (ci := 1) (v := .ref (al 2)) (C := RX1) (T := TX1) (N := 9) hx hb hts iwX1 hown hK hP 0 rfl rfl 1 (by decide) ha1 (fun _ h9 => h9) rfl dX1_titleLineOf_13 ?_
        refine lv_iload_n hx hb dX1_titleLineOf_16 rfl (lv_at hl 2 rfl) ?_
        obtain ⟨v_2, e_3, hrun⟩ := bd hrun
        refine y_ald hx hb hK hP 2 0 rfl rfl e_3 dX1_titleLineOf_17 ?_
        refine lv_iload_n hx hb dX1_titleLineOf_18 rfl (lv_at hl 1 rfl) ?_
        refine lv_icmp_ge (tgt := 28) hx hb dX1_titleLineOf_19 (by decide) (fun c_4 => ?_) (fun c_4 => ?_)
        · replace hrun := it_pos c_4 hrun
          refine lv_iload_n hx hb dX1_titleLineOf_28 rfl (lv_at hl 2 rfl) ?_
          exact W.iret (v := x2) hx hb hr (fun t ht hW => ⟨x2, rfl, si hrun, ht⟩) (fun _ h => absurd h List.not_mem_nil) dX1_titleLineOf_29
        · replace hrun := it_neg c_4 hrun
          refine lv_iinc (v := (x2 + nI 1)) (lv' := [(2, .int (x2 + nI 1)), (0, .ref (al 0)), (1, .int x1)]) hx hb dX1_titleLineOf_22 hl (k := 2) rfl rfl (by decide) rfl (fun ls hl => ?_)
          refine lv_goto (tgt := 2) hx hb dX1_titleLineOf_25 (by decide) ?_
          exact ih x1 (x2 + nI 1)  ls (lv_sub hl [1, 2, 0] rfl) hrun
  have hl := lv_entry [.ref (al 0), .int u1] (n := 3) (Nat.le_of_ble_eq_true rfl)
  rw [lg_entry_eq]
  generalize (lg_sl [.ref (al 0), .int u1] ++ List.replicate (3 - (lg_sl [.ref (al 0), .int u1]).length) Slot.unset).toArray = ls at hl ⊢
  have hl : lv_has ls 3 [(0, .ref (al 0)), (1, .int u1)] := hl
  rw [p_X1_titleLineOf] at hrun
  refine lv_iconst (v := nI 0) hx hb dX1_titleLineOf_0 (by decide) ?_
  refine lv_istore_n (lv' := [(2, .int (nI 0)), (0, .ref (al 0)), (1, .int u1)]) hx hb dX1_titleLineOf_1 rfl hl (by decide) rfl (fun ls hl => ?_)
  exact kH_2 200 u1 (nI 0)  ls (lv_sub hl [1, 2, 0] rfl) hrun
def p_X1_lastLineOf_7 (L : Ob) : Nat → Int32 → Int32 → Option (Int32)
  | 0, _, _ => none
  | n + 1, x1, x2 => (if x2 ≤ nI 0 then (some x2) else ((ldI (L 1) 60 x2).bind fun v_2 => (if v_2 ≤ x1 then (some x2) else p_X1_lastLineOf_7 L n x1 (x2 + (-1)))))
def p_X1_lastLineOf (L : Ob) (u1 : Int32)  : Option (Int32) := p_X1_lastLineOf_7 L 200 u1 ((L 9 0) - (nI 1))
abbrev rmX1_lastLineOf : Room := { frames := 0, cells := 0, slots := 0, locals := 0 }
set_option maxHeartbeats 4000000 in
set_option maxRecDepth 100000 in
theorem c_X1_lastLineOf (l : Launch) (G : GT) (al : Nat → Nat) (L : Ob) (u1 : Int32) (r0 : Int32) (hrun : p_X1_lastLineOf L u1 = some r0) : Met l yX1_lastLineOf wsX1_lastLineOf rmX1_lastLineOf (PreR G [.ref (al 0), .int u1] (wLay G al L)) (Ri r0) 0 0 (fun _ => False) := by
  refine Met.ofW (cc := cX1_lastLineOf) (maxL := 3) (ret := (some .int)) (by decide) rfl ?_
  intro p e s m args below meth c s₁ Bd hml hv
  obtain ⟨rfl, hP, hC⟩ := hv
  have hx := Bd.exec
  have hb := Bd.bytes
  have hr := Bd.returns
  have hts := atoms_spec (ws := wsX1_lastLineOf) Bd.pre
  have hown : s.vm.findClass RX1 = some m.cls := findClass_of_methodNamed Bd.named
  have hlocks := Bd.notSynchronized
  have hK := hC.1
  have iwX1 : ∀ w ∈ wsX10, w ∈ wsX1_lastLineOf := by decide +kernel
  have ha0 := hts (.fieldLink RX1 35 "HeadMarks$Layout" "lines" "I") (by decide +kernel)
  have ha1 := hts (.fieldLink RX1 15 "HeadMarks$Layout" "chapterOf" "[I") (by decide +kernel)
  have kH_7 : ∀ (n : Nat) (x1 x2 : Int32) , ∀ (ls : Array Slot), lv_has ls 3 [(0, .ref (al 0)), (1, .int x1), (2, .int x2)] → p_X1_lastLineOf_7 L n x1 x2 = some r0 → W p l e (headSpec wsX1_lastLineOf rmX1_lastLineOf).room s m ([.ref (al 0), .int u1] : List Value).toArray below meth c s.heap [] 0 0 (MQ below (Ri r0) ([.ref (al 0), .int u1] : List Value).toArray s 0 0 (fun _ => False)) (F0 m 7 ls []) := by
    intro n
    induction n with
    | zero => intro x1 x2 ls hl hrun; exact absurd (hrun : (none : Option (Int32)) = some r0) (fun h => by cases h)
    | succ n ih =>
      intro x1 x2 ls hl hrun
      rw [p_X1_lastLineOf_7] at hrun
      refine lv_iload_n hx hb dX1_lastLineOf_7 rfl (lv_at hl 2 rfl) ?_
      refine lv_if_le (tgt := 27) hx hb dX1_lastLineOf_8 (by decide) (fun c_1 => ?_) (fun c_1 => ?_)
      · replace hrun := it_pos c_1 hrun
        refine lv_iload_n hx hb dX1_lastLineOf_27 rfl (lv_at hl 2 rfl) ?_
        exact W.iret (v := x2) hx hb hr (fun t ht hW => ⟨x2, rfl, si hrun, ht⟩) (fun _ h => absurd h List.not_mem_nil) dX1_lastLineOf_28
      · replace hrun := it_neg c_1 hrun
        refine lv_aload_n hx hb dX1_lastLineOf_11 rfl (lv_at hl 0 rfl) ?_
        refine va_get (D := G.1) (ci := 1) (v := .ref (al 2)) (C := RX1) (T := TX1) (N := 9) hx hb hts iwX1 hown hK hP 0 rfl rfl 1 (by decide) ha1 (fun _ h9 => h9) rfl dX1_lastLineOf_12 ?_
        refine lv_iload_n hx hb dX1_lastLineOf_15 rfl (lv_at hl 2 rfl) ?_
        obtain ⟨v_2, e_3, hrun⟩ := bd hrun
        refine y_ald hx hb hK hP 2 0 rfl rfl e_3 dX1_lastLineOf_16 ?_
        refine lv_iload_n hx hb dX1_lastLineOf_17 rfl (lv_at hl 1 rfl) ?_
        refine lv_icmp_le (tgt := 27) hx hb dX1_lastLineOf_18 (by decide) (fun c_4 => ?_) (fun c_4 => ?_)
        · replace hrun := it_pos c_4 hrun
          refine lv_iload_n hx hb dX1_lastLineOf_27 rfl (lv_at hl 2 rfl) ?_
          exact W.iret (v := x2) hx hb hr (fun t ht hW => ⟨x2, rfl, si hrun, ht⟩) (fun _ h => absurd h List.not_mem_nil) dX1_lastLineOf_28
        · replace hrun := it_neg c_4 hrun
          refine lv_iinc (v := (x2 + (-1))) (lv' := [(2, .int (x2 + (-1))), (0, .ref (al 0)), (1, .int x1)]) hx hb dX1_lastLineOf_21 hl (k := 2) rfl rfl (by decide) rfl (fun ls hl => ?_)
          refine lv_goto (tgt := 7) hx hb dX1_lastLineOf_24 (by decide) ?_
          exact ih x1 (x2 + (-1))  ls (lv_sub hl [1, 2, 0] rfl) hrun
  have hl := lv_entry [.ref (al 0), .int u1] (n := 3) (Nat.le_of_ble_eq_true rfl)
  rw [lg_entry_eq]
  generalize (lg_sl [.ref (al 0), .int u1] ++ List.replicate (3 - (lg_sl [.ref (al 0), .int u1]).length) Slot.unset).toArray = ls at hl ⊢
  have hl : lv_has ls 3 [(0, .ref (al 0)), (1, .int u1)] := hl
  rw [p_X1_lastLineOf] at hrun
  refine lv_aload_n hx hb dX1_lastLineOf_0 rfl (lv_at hl 0 rfl) ?_
  refine va_get (D := G.1) (ci := 1) (v := .int (L 9 0)) (C := RX1) (T := TX1) (N := 9) hx hb hts iwX1 hown hK hP 0 rfl rfl 7 (by decide) ha0 (fun _ h9 => h9) rfl dX1_lastLineOf_1 ?_
  refine lv_iconst (v := nI 1) hx hb dX1_lastLineOf_4 (by decide) ?_
  refine lv_isub hx hb dX1_lastLineOf_5 ?_
  refine lv_istore_n (lv' := [(2, .int ((L 9 0) - (nI 1))), (0, .ref (al 0)), (1, .int u1)]) hx hb dX1_lastLineOf_6 rfl hl (by decide) rfl (fun ls hl => ?_)
  exact kH_7 200 u1 ((L 9 0) - (nI 1))  ls (lv_sub hl [1, 2, 0] rfl) hrun
def p_X1_countChapters (L : Ob)   : Option (Int32) := (if (L 9 0) = nI 0 then (some (nI 0)) else ((ldI (L 1) 60 ((L 9 0) - (nI 1))).bind fun v_2 => (some (v_2 + (nI 1)))))
abbrev rmX1_countChapters : Room := { frames := 0, cells := 0, slots := 0, locals := 0 }
set_option maxHeartbeats 4000000 in
set_option maxRecDepth 100000 in
theorem c_X1_countChapters (l : Launch) (G : GT) (al : Nat → Nat) (L : Ob) (r0 : Int32) (hrun : p_X1_countChapters L = some r0) : Met l yX1_countChapters wsX1_countChapters rmX1_countChapters (PreR G [.ref (al 0)] (wLay G al L)) (Ri r0) 0 0 (fun _ => False) := by
  refine Met.ofW (cc := cX1_countChapters) (maxL := 1) (ret := (some .int)) (by decide) rfl ?_
  intro p e s m args below meth c s₁ Bd hml hv
  obtain ⟨rfl, hP, hC⟩ := hv
  have hx := Bd.exec
  have hb := Bd.bytes
  have hr := Bd.returns
  have hts := atoms_spec (ws := wsX1_countChapters) Bd.pre
  have hown : s.vm.findClass RX1 = some m.cls := findClass_of_methodNamed Bd.named
  have hlocks := Bd.notSynchronized
  have hK := hC.1
  have iwX1 : ∀ w ∈ wsX10, w ∈ wsX1_countChapters := by decide +kernel
  have ha0 := hts (.fieldLink RX1 35 "HeadMarks$Layout" "lines" "I") (by decide +kernel)
  have ha1 := hts (.fieldLink RX1 15 "HeadMarks$Layout" "chapterOf" "[I") (by decide +kernel)
  have hl := lv_entry [.ref (al 0)] (n := 1) (Nat.le_of_ble_eq_true rfl)
  rw [lg_entry_eq]
  generalize (lg_sl [.ref (al 0)] ++ List.replicate (1 - (lg_sl [.ref (al 0)]).length) Slot.unset).toArray = ls at hl ⊢
  have hl : lv_has ls 1 [(0, .ref (al 0))] := hl
  rw [p_X1_countChapters] at hrun
  refine lv_aload_n hx hb dX1_countChapters_0 rfl (lv_at hl 0 rfl) ?_
  refine va_get (D := G.1) (ci := 1) (v := .int (L 9 0)) (C := RX1) (T := TX1) (N := 9) hx hb hts iwX1 hown hK hP 0 rfl rfl 7 (by decide) ha0 (fun _ h9 => h9) rfl dX1_countChapters_1 ?_
  refine lv_if_ne (tgt := 11) hx hb dX1_countChapters_4 (by decide) (fun c_1 => ?_) (fun c_1 => ?_)
  · replace hrun := it_neg c_1 hrun
    refine lv_aload_n hx hb dX1_countChapters_11 rfl (lv_at hl 0 rfl) ?_
    refine va_get (D := G.1) (ci := 1) (v := .ref (al 2)) (C := RX1) (T := TX1) (N := 9) hx hb hts iwX1 hown hK hP 0 rfl rfl 1 (by decide) ha1 (fun _ h9 => h9) rfl dX1_countChapters_12 ?_
    refine lv_aload_n hx hb dX1_countChapters_15 rfl (lv_at hl 0 rfl) ?_
    refine va_get (D := G.1) (ci := 1) (v := .int (L 9 0)) (C := RX1) (T := TX1) (N := 9) hx hb hts iwX1 hown hK hP 0 rfl rfl 7 (by decide) ha0 (fun _ h9 => h9) rfl dX1_countChapters_16 ?_
    refine lv_iconst (v := nI 1) hx hb dX1_countChapters_19 (by decide) ?_
    refine lv_isub hx hb dX1_countChapters_20 ?_
    obtain ⟨v_2, e_3, hrun⟩ := bd hrun
    refine y_ald hx hb hK hP 2 0 rfl rfl e_3 dX1_countChapters_21 ?_
    refine lv_iconst (v := nI 1) hx hb dX1_countChapters_22 (by decide) ?_
    refine lv_iadd hx hb dX1_countChapters_23 ?_
    exact W.iret (v := (v_2 + (nI 1))) hx hb hr (fun t ht hW => ⟨(v_2 + (nI 1)), rfl, si hrun, ht⟩) (fun _ h => absurd h List.not_mem_nil) dX1_countChapters_24
  · replace hrun := it_pos c_1 hrun
    refine lv_iconst (v := nI 0) hx hb dX1_countChapters_7 (by decide) ?_
    refine lv_goto (tgt := 24) hx hb dX1_countChapters_8 (by decide) ?_
    exact W.iret (v := (nI 0)) hx hb hr (fun t ht hW => ⟨(nI 0), rfl, si hrun, ht⟩) (fun _ h => absurd h List.not_mem_nil) dX1_countChapters_24
def p_X1_countBlank_24 (L : Ob) (K : Int32 → Int32 → Option (Int32)) (x1 : Int32) (x2 : Int32)  : Option (Int32) := K x1 (x2 + nI 1)
def p_X1_countBlank_4 (L : Ob) : Nat → Int32 → Int32 → Option (Int32)
  | 0, _, _ => none
  | n + 1, x1, x2 => (if (L 10 0) < x2 then (some x1) else ((ldI (L 5) 120 x2).bind fun v_2 => (if v_2 = nI 0 then p_X1_countBlank_24 L (p_X1_countBlank_4 L n) (x1 + nI 1) x2 else p_X1_countBlank_24 L (p_X1_countBlank_4 L n) x1 x2)))
def p_X1_countBlank (L : Ob)   : Option (Int32) := p_X1_countBlank_4 L 200 (nI 0) (nI 1)
abbrev rmX1_countBlank : Room := { frames := 0, cells := 0, slots := 0, locals := 0 }
set_option maxHeartbeats 4000000 in
set_option maxRecDepth 100000 in
theorem c_X1_countBlank (l : Launch) (G : GT) (al : Nat → Nat) (L : Ob) (r0 : Int32) (hrun : p_X1_countBlank L = some r0) : Met l yX1_countBlank wsX1_countBlank rmX1_countBlank (PreR G [.ref (al 0)] (wLay G al L)) (Ri r0) 0 0 (fun _ => False) := by
  refine Met.ofW (cc := cX1_countBlank) (maxL := 3) (ret := (some .int)) (by decide) rfl ?_
  intro p e s m args below meth c s₁ Bd hml hv
  obtain ⟨rfl, hP, hC⟩ := hv
  have hx := Bd.exec
  have hb := Bd.bytes
  have hr := Bd.returns
  have hts := atoms_spec (ws := wsX1_countBlank) Bd.pre
  have hown : s.vm.findClass RX1 = some m.cls := findClass_of_methodNamed Bd.named
  have hlocks := Bd.notSynchronized
  have hK := hC.1
  have iwX1 : ∀ w ∈ wsX10, w ∈ wsX1_countBlank := by decide +kernel
  have ha0 := hts (.fieldLink RX1 39 "HeadMarks$Layout" "pages" "I") (by decide +kernel)
  have ha1 := hts (.fieldLink RX1 26 "HeadMarks$Layout" "linesOn" "[I") (by decide +kernel)
  have kH_4 : ∀ (n : Nat) (x1 x2 : Int32) , ∀ (ls : Array Slot), lv_has ls 3 [(0, .ref (al 0)), (1, .int x1), (2, .int x2)] → p_X1_countBlank_4 L n x1 x2 = some r0 → W p l e (headSpec wsX1_countBlank rmX1_countBlank).room s m ([.ref (al 0)] : List Value).toArray below meth c s.heap [] 0 0 (MQ below (Ri r0) ([.ref (al 0)] : List Value).toArray s 0 0 (fun _ => False)) (F0 m 4 ls []) := by
    intro n
    induction n with
    | zero => intro x1 x2 ls hl hrun; exact absurd (hrun : (none : Option (Int32)) = some r0) (fun h => by cases h)
    | succ n ih =>
      have kJ_24 : ∀ (x1 x2 : Int32) , ∀ (ls : Array Slot), lv_has ls 3 [(0, .ref (al 0)), (1, .int x1), (2, .int x2)] → p_X1_countBlank_24 L (p_X1_countBlank_4 L n) x1 x2 = some r0 → W p l e (headSpec wsX1_countBlank rmX1_countBlank).room s m ([.ref (al 0)] : List Value).toArray below meth c s.heap [] 0 0 (MQ below (Ri r0) ([.ref (al 0)] : List Value).toArray s 0 0 (fun _ => False)) (F0 m 24 ls []) := by
        intro x1 x2 ls hl hrun
        rw [p_X1_countBlank_24] at hrun
        refine lv_iinc (v := (x2 + nI 1)) (lv' := [(2, .int (x2 + nI 1)), (0, .ref (al 0)), (1, .int x1)]) hx hb dX1_countBlank_24 hl (k := 2) rfl rfl (by decide) rfl (fun ls hl => ?_)
        refine lv_goto (tgt := 4) hx hb dX1_countBlank_27 (by decide) ?_
        exact ih x1 (x2 + nI 1)  ls (lv_sub hl [1, 2, 0] rfl) hrun
      intro x1 x2 ls hl hrun
      rw [p_X1_countBlank_4] at hrun
      refine lv_iload_n hx hb dX1_countBlank_4 rfl (lv_at hl 2 rfl) ?_
      refine lv_aload_n hx hb dX1_countBlank_5 rfl (lv_at hl 0 rfl) ?_
      refine va_get (D := G.1) (ci := 1) (v := .int (L 10 0)) (C := RX1) (T := TX1) (N := 9) hx hb hts iwX1 hown hK hP 0 rfl rfl 8 (by decide) ha0 (fun _ h9 => h9) rfl dX1_countBlank_6 ?_
      refine lv_icmp_gt (tgt := 30) hx hb dX1_countBlank_9 (by decide) (fun c_1 => ?_) (fun c_1 => ?_)
      · replace hrun := it_pos c_1 hrun
        refine lv_iload_n hx hb dX1_countBlank_30 rfl (lv_at hl 1 rfl) ?_
        exact W.iret (v := x1) hx hb hr (fun t ht hW => ⟨x1, rfl, si hrun, ht⟩) (fun _ h => absurd h List.not_mem_nil) dX1_countBlank_31
      · replace hrun := it_neg c_1 hrun
        refine lv_aload_n hx hb dX1_countBlank_12 rfl (lv_at hl 0 rfl) ?_
        refine va_get (D := G.1) (ci := 1) (v := .ref (al 7)) (C := RX1) (T := TX1) (N := 9) hx hb hts iwX1 hown hK hP 0 rfl rfl 4 (by decide) ha1 (fun _ h9 => h9) rfl dX1_countBlank_13 ?_
        refine lv_iload_n hx hb dX1_countBlank_16 rfl (lv_at hl 2 rfl) ?_
        obtain ⟨v_2, e_3, hrun⟩ := bd hrun
        refine y_ald hx hb hK hP 7 0 rfl rfl e_3 dX1_countBlank_17 ?_
        refine lv_if_ne (tgt := 24) hx hb dX1_countBlank_18 (by decide) (fun c_4 => ?_) (fun c_4 => ?_)
        · replace hrun := it_neg c_4 hrun
          exact kJ_24 x1 x2  ls (lv_sub hl [0, 1, 2] rfl) hrun
        · replace hrun := it_pos c_4 hrun
          refine lv_iinc (v := (x1 + nI 1)) (lv' := [(1, .int (x1 + nI 1)), (0, .ref (al 0)), (2, .int x2)]) hx hb dX1_countBlank_21 hl (k := 1) rfl rfl (by decide) rfl (fun ls hl => ?_)
          exact kJ_24 (x1 + nI 1) x2  ls (lv_sub hl [1, 0, 2] rfl) hrun
  have hl := lv_entry [.ref (al 0)] (n := 3) (Nat.le_of_ble_eq_true rfl)
  rw [lg_entry_eq]
  generalize (lg_sl [.ref (al 0)] ++ List.replicate (3 - (lg_sl [.ref (al 0)]).length) Slot.unset).toArray = ls at hl ⊢
  have hl : lv_has ls 3 [(0, .ref (al 0))] := hl
  rw [p_X1_countBlank] at hrun
  refine lv_iconst (v := nI 0) hx hb dX1_countBlank_0 (by decide) ?_
  refine lv_istore_n (lv' := [(1, .int (nI 0)), (0, .ref (al 0))]) hx hb dX1_countBlank_1 rfl hl (by decide) rfl (fun ls hl => ?_)
  refine lv_iconst (v := nI 1) hx hb dX1_countBlank_2 (by decide) ?_
  refine lv_istore_n (lv' := [(2, .int (nI 1)), (1, .int (nI 0)), (0, .ref (al 0))]) hx hb dX1_countBlank_3 rfl hl (by decide) rfl (fun ls hl => ?_)
  exact kH_4 200 (nI 0) (nI 1)  ls (lv_sub hl [2, 1, 0] rfl) hrun
def p_X1_countShared_23 (L : Ob) (K : Int32 → Int32 → Option (Int32)) (x1 : Int32) (x2 : Int32)  : Option (Int32) := K x1 (x2 + nI 1)
def p_X1_countShared_4 (L : Ob) : Nat → Int32 → Int32 → Option (Int32)
  | 0, _, _ => none
  | n + 1, x1, x2 => (if (L 10 0) < x2 then (some x1) else ((p_X1_isShared L x2).bind fun v_2 => (if v_2 = nI 0 then p_X1_countShared_23 L (p_X1_countShared_4 L n) x1 x2 else p_X1_countShared_23 L (p_X1_countShared_4 L n) (x1 + nI 1) x2)))
def p_X1_countShared (L : Ob)   : Option (Int32) := p_X1_countShared_4 L 200 (nI 0) (nI 1)
abbrev rmX1_countShared : Room := { frames := 2, cells := 0, slots := 0, locals := 53 }
set_option maxHeartbeats 4000000 in
set_option maxRecDepth 100000 in
theorem c_X1_countShared (l : Launch) (G : GT) (al : Nat → Nat) (L : Ob) (r0 : Int32) (hrun : p_X1_countShared L = some r0) : Met l yX1_countShared wsX1_countShared rmX1_countShared (PreR G [.ref (al 0)] (wLay G al L)) (Ri r0) 0 0 (fun _ => False) := by
  refine Met.ofW (cc := cX1_countShared) (maxL := 3) (ret := (some .int)) (by decide) rfl ?_
  intro p e s m args below meth c s₁ Bd hml hv
  obtain ⟨rfl, hP, hC⟩ := hv
  have hx := Bd.exec
  have hb := Bd.bytes
  have hr := Bd.returns
  have hts := atoms_spec (ws := wsX1_countShared) Bd.pre
  have hown : s.vm.findClass RX1 = some m.cls := findClass_of_methodNamed Bd.named
  have hlocks := Bd.notSynchronized
  have hK := hC.1
  have iwX1 : ∀ w ∈ wsX10, w ∈ wsX1_countShared := by decide +kernel
  have ha0 := hts (.fieldLink RX1 39 "HeadMarks$Layout" "pages" "I") (by decide +kernel)
  have kH_4 : ∀ (n : Nat) (x1 x2 : Int32) , ∀ (ls : Array Slot), lv_has ls 3 [(0, .ref (al 0)), (1, .int x1), (2, .int x2)] → p_X1_countShared_4 L n x1 x2 = some r0 → W p l e (headSpec wsX1_countShared rmX1_countShared).room s m ([.ref (al 0)] : List Value).toArray below meth c s.heap [] 0 0 (MQ below (Ri r0) ([.ref (al 0)] : List Value).toArray s 0 0 (fun _ => False)) (F0 m 4 ls []) := by
    intro n
    induction n with
    | zero => intro x1 x2 ls hl hrun; exact absurd (hrun : (none : Option (Int32)) = some r0) (fun h => by cases h)
    | succ n ih =>
      have kJ_23 : ∀ (x1 x2 : Int32) , ∀ (ls : Array Slot), lv_has ls 3 [(0, .ref (al 0)), (1, .int x1), (2, .int x2)] → p_X1_countShared_23 L (p_X1_countShared_4 L n) x1 x2 = some r0 → W p l e (headSpec wsX1_countShared rmX1_countShared).room s m ([.ref (al 0)] : List Value).toArray below meth c s.heap [] 0 0 (MQ below (Ri r0) ([.ref (al 0)] : List Value).toArray s 0 0 (fun _ => False)) (F0 m 23 ls []) := by
        intro x1 x2 ls hl hrun
        rw [p_X1_countShared_23] at hrun
        refine lv_iinc (v := (x2 + nI 1)) (lv' := [(2, .int (x2 + nI 1)), (0, .ref (al 0)), (1, .int x1)]) hx hb dX1_countShared_23 hl (k := 2) rfl rfl (by decide) rfl (fun ls hl => ?_)
        refine lv_goto (tgt := 4) hx hb dX1_countShared_26 (by decide) ?_
        exact ih x1 (x2 + nI 1)  ls (lv_sub hl [1, 2, 0] rfl) hrun
      intro x1 x2 ls hl hrun
      rw [p_X1_countShared_4] at hrun
      refine lv_iload_n hx hb dX1_countShared_4 rfl (lv_at hl 2 rfl) ?_
      refine lv_aload_n hx hb dX1_countShared_5 rfl (lv_at hl 0 rfl) ?_
      refine va_get (D := G.1) (ci := 1) (v := .int (L 10 0)) (C := RX1) (T := TX1) (N := 9) hx hb hts iwX1 hown hK hP 0 rfl rfl 8 (by decide) ha0 (fun _ h9 => h9) rfl dX1_countShared_6 ?_
      refine lv_icmp_gt (tgt := 29) hx hb dX1_countShared_9 (by decide) (fun c_1 => ?_) (fun c_1 => ?_)
      · replace hrun := it_pos c_1 hrun
        refine lv_iload_n hx hb dX1_countShared_29 rfl (lv_at hl 1 rfl) ?_
        exact W.iret (v := x1) hx hb hr (fun t ht hW => ⟨x1, rfl, si hrun, ht⟩) (fun _ h => absurd h List.not_mem_nil) dX1_countShared_30
      · replace hrun := it_neg c_1 hrun
        refine lv_aload_n hx hb dX1_countShared_12 rfl (lv_at hl 0 rfl) ?_
        refine lv_iload_n hx hb dX1_countShared_13 rfl (lv_at hl 2 rfl) ?_
        obtain ⟨v_2, e_3, hrun⟩ := bd hrun
        refine y_roz (va_runV (As := [.int x2]) (rest := []) ⟨hx, hb, hml, hown, hts⟩ (c_X1_isShared l G al L x2 v_2 e_3) (cwV 1 hts gX1_countShared_X1_isShared rfl rfl rfl (by decide +kernel) ⟨Nat.le_of_ble_eq_true rfl, Nat.le_of_ble_eq_true rfl⟩) ⟨PreR.blind, va_recv hK hP (ci := 1) (q0 := 0) rfl rfl, y_preR hC hP⟩ rfl rfl hl.1 rfl (lv_room (Nat.le_of_ble_eq_true rfl)) dX1_countShared_14 ⟨Nat.zero_le _, Nat.zero_le _⟩) (fun z_4 => ?_)
        refine lv_if_eq (tgt := 23) hx hb dX1_countShared_17 (by decide) (fun c_5 => ?_) (fun c_5 => ?_)
        · replace hrun := it_pos c_5 hrun
          exact kJ_23 x1 x2  ls (lv_sub hl [0, 1, 2] rfl) hrun
        · replace hrun := it_neg c_5 hrun
          refine lv_iinc (v := (x1 + nI 1)) (lv' := [(1, .int (x1 + nI 1)), (0, .ref (al 0)), (2, .int x2)]) hx hb dX1_countShared_20 hl (k := 1) rfl rfl (by decide) rfl (fun ls hl => ?_)
          exact kJ_23 (x1 + nI 1) x2  ls (lv_sub hl [1, 0, 2] rfl) hrun
  have hl := lv_entry [.ref (al 0)] (n := 3) (Nat.le_of_ble_eq_true rfl)
  rw [lg_entry_eq]
  generalize (lg_sl [.ref (al 0)] ++ List.replicate (3 - (lg_sl [.ref (al 0)]).length) Slot.unset).toArray = ls at hl ⊢
  have hl : lv_has ls 3 [(0, .ref (al 0))] := hl
  rw [p_X1_countShared] at hrun
  refine lv_iconst (v := nI 0) hx hb dX1_countShared_0 (by decide) ?_
  refine lv_istore_n (lv' := [(1, .int (nI 0)), (0, .ref (al 0))]) hx hb dX1_countShared_1 rfl hl (by decide) rfl (fun ls hl => ?_)
  refine lv_iconst (v := nI 1) hx hb dX1_countShared_2 (by decide) ?_
  refine lv_istore_n (lv' := [(2, .int (nI 1)), (1, .int (nI 0)), (0, .ref (al 0))]) hx hb dX1_countShared_3 rfl hl (by decide) rfl (fun ls hl => ?_)
  exact kH_4 200 (nI 0) (nI 1)  ls (lv_sub hl [2, 1, 0] rfl) hrun
def p_X1_countHeads_26 (L : Ob) (K : Int32 → Int32 → Option (Int32)) (x1 : Int32) (x2 : Int32)  : Option (Int32) := K x1 (x2 + nI 1)
def p_X1_countHeads_4 (L : Ob) : Nat → Int32 → Int32 → Option (Int32)
  | 0, _, _ => none
  | n + 1, x1, x2 => (if (L 10 0) < x2 then (some x1) else ((ldI (L 8) 120 x2).bind fun v_2 => (if v_2 = (-6) then p_X1_countHeads_26 L (p_X1_countHeads_4 L n) x1 x2 else p_X1_countHeads_26 L (p_X1_countHeads_4 L n) (x1 + nI 1) x2)))
def p_X1_countHeads (L : Ob)   : Option (Int32) := p_X1_countHeads_4 L 200 (nI 0) (nI 1)
abbrev rmX1_countHeads : Room := { frames := 0, cells := 0, slots := 0, locals := 0 }
set_option maxHeartbeats 4000000 in
set_option maxRecDepth 100000 in
theorem c_X1_countHeads (l : Launch) (G : GT) (al : Nat → Nat) (L : Ob) (r0 : Int32) (hrun : p_X1_countHeads L = some r0) : Met l yX1_countHeads wsX1_countHeads rmX1_countHeads (PreR G [.ref (al 0)] (wLay G al L)) (Ri r0) 0 0 (fun _ => False) := by
  refine Met.ofW (cc := cX1_countHeads) (maxL := 3) (ret := (some .int)) (by decide) rfl ?_
  intro p e s m args below meth c s₁ Bd hml hv
  obtain ⟨rfl, hP, hC⟩ := hv
  have hx := Bd.exec
  have hb := Bd.bytes
  have hr := Bd.returns
  have hts := atoms_spec (ws := wsX1_countHeads) Bd.pre
  have hown : s.vm.findClass RX1 = some m.cls := findClass_of_methodNamed Bd.named
  have hlocks := Bd.notSynchronized
  have hK := hC.1
  have iwX1 : ∀ w ∈ wsX10, w ∈ wsX1_countHeads := by decide +kernel
  have ha0 := hts (.fieldLink RX1 39 "HeadMarks$Layout" "pages" "I") (by decide +kernel)
  have ha1 := hts (.fieldLink RX1 32 "HeadMarks$Layout" "heads" "[I") (by decide +kernel)
  have kH_4 : ∀ (n : Nat) (x1 x2 : Int32) , ∀ (ls : Array Slot), lv_has ls 3 [(0, .ref (al 0)), (1, .int x1), (2, .int x2)] → p_X1_countHeads_4 L n x1 x2 = some r0 → W p l e (headSpec wsX1_countHeads rmX1_countHeads).room s m ([.ref (al 0)] : List Value).toArray below meth c s.heap [] 0 0 (MQ below (Ri r0) ([.ref (al 0)] : List Value).toArray s 0 0 (fun _ => False)) (F0 m 4 ls []) := by
    intro n
    induction n with
    | zero => intro x1 x2 ls hl hrun; exact absurd (hrun : (none : Option (Int32)) = some r0) (fun h => by cases h)
    | succ n ih =>
      have kJ_26 : ∀ (x1 x2 : Int32) , ∀ (ls : Array Slot), lv_has ls 3 [(0, .ref (al 0)), (1, .int x1), (2, .int x2)] → p_X1_countHeads_26 L (p_X1_countHeads_4 L n) x1 x2 = some r0 → W p l e (headSpec wsX1_countHeads rmX1_countHeads).room s m ([.ref (al 0)] : List Value).toArray below meth c s.heap [] 0 0 (MQ below (Ri r0) ([.ref (al 0)] : List Value).toArray s 0 0 (fun _ => False)) (F0 m 26 ls []) := by
        intro x1 x2 ls hl hrun
        rw [p_X1_countHeads_26] at hrun
        refine lv_iinc (v := (x2 + nI 1)) (lv' := [(2, .int (x2 + nI 1)), (0, .ref (al 0)), (1, .int x1)]) hx hb dX1_countHeads_26 hl (k := 2) rfl rfl (by decide) rfl (fun ls hl => ?_)
        refine lv_goto (tgt := 4) hx hb dX1_countHeads_29 (by decide) ?_
        exact ih x1 (x2 + nI 1)  ls (lv_sub hl [1, 2, 0] rfl) hrun
      intro x1 x2 ls hl hrun
      rw [p_X1_countHeads_4] at hrun
      refine lv_iload_n hx hb dX1_countHeads_4 rfl (lv_at hl 2 rfl) ?_
      refine lv_aload_n hx hb dX1_countHeads_5 rfl (lv_at hl 0 rfl) ?_
      refine va_get (D := G.1) (ci := 1) (v := .int (L 10 0)) (C := RX1) (T := TX1) (N := 9) hx hb hts iwX1 hown hK hP 0 rfl rfl 8 (by decide) ha0 (fun _ h9 => h9) rfl dX1_countHeads_6 ?_
      refine lv_icmp_gt (tgt := 32) hx hb dX1_countHeads_9 (by decide) (fun c_1 => ?_) (fun c_1 => ?_)
      · replace hrun := it_pos c_1 hrun
        refine lv_iload_n hx hb dX1_countHeads_32 rfl (lv_at hl 1 rfl) ?_
        exact W.iret (v := x1) hx hb hr (fun t ht hW => ⟨x1, rfl, si hrun, ht⟩) (fun _ h => absurd h List.not_mem_nil) dX1_countHeads_33
      · replace hrun := it_neg c_1 hrun
        refine lv_aload_n hx hb dX1_countHeads_12 rfl (lv_at hl 0 rfl) ?_
        refine va_get (D := G.1) (ci := 1) (v := .ref (al 11)) (C := RX1) (T := TX1) (N := 9) hx hb hts iwX1 hown hK hP 0 rfl rfl 6 (by decide) ha1 (fun _ h9 => h9) rfl dX1_countHeads_13 ?_
        refine lv_iload_n hx hb dX1_countHeads_16 rfl (lv_at hl 2 rfl) ?_
        obtain ⟨v_2, e_3, hrun⟩ := bd hrun
        refine y_ald hx hb hK hP 11 0 rfl rfl e_3 dX1_countHeads_17 ?_
        refine lv_bipush (v := -6) hx hb dX1_countHeads_18 (by decide) ?_
        refine lv_icmp_eq (tgt := 26) hx hb dX1_countHeads_20 (by decide) (fun c_4 => ?_) (fun c_4 => ?_)
        · replace hrun := it_pos c_4 hrun
          exact kJ_26 x1 x2  ls (lv_sub hl [0, 1, 2] rfl) hrun
        · replace hrun := it_neg c_4 hrun
          refine lv_iinc (v := (x1 + nI 1)) (lv' := [(1, .int (x1 + nI 1)), (0, .ref (al 0)), (2, .int x2)]) hx hb dX1_countHeads_23 hl (k := 1) rfl rfl (by decide) rfl (fun ls hl => ?_)
          exact kJ_26 (x1 + nI 1) x2  ls (lv_sub hl [1, 0, 2] rfl) hrun
  have hl := lv_entry [.ref (al 0)] (n := 3) (Nat.le_of_ble_eq_true rfl)
  rw [lg_entry_eq]
  generalize (lg_sl [.ref (al 0)] ++ List.replicate (3 - (lg_sl [.ref (al 0)]).length) Slot.unset).toArray = ls at hl ⊢
  have hl : lv_has ls 3 [(0, .ref (al 0))] := hl
  rw [p_X1_countHeads] at hrun
  refine lv_iconst (v := nI 0) hx hb dX1_countHeads_0 (by decide) ?_
  refine lv_istore_n (lv' := [(1, .int (nI 0)), (0, .ref (al 0))]) hx hb dX1_countHeads_1 rfl hl (by decide) rfl (fun ls hl => ?_)
  refine lv_iconst (v := nI 1) hx hb dX1_countHeads_2 (by decide) ?_
  refine lv_istore_n (lv' := [(2, .int (nI 1)), (1, .int (nI 0)), (0, .ref (al 0))]) hx hb dX1_countHeads_3 rfl hl (by decide) rfl (fun ls hl => ?_)
  exact kH_4 200 (nI 0) (nI 1)  ls (lv_sub hl [2, 1, 0] rfl) hrun
