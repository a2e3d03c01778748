def p_X4_linesOf_49 (M : Ob) (K : Int32 → Int32 → Int32 → Int32 → Option (Int32)) (x1 : Int32) (x2 : Int32) (x4 : Int32) (y0 : Int32) (y1 : Int32)  : Option (Int32) := K x1 x2 (y1 + y0) (x4 + nI 1)
def p_X4_linesOf_44 (M : Ob) (K : Int32 → Int32 → Int32 → Int32 → Option (Int32)) (x1 : Int32) (x2 : Int32) (x4 : Int32) (y0 : Int32)  : Option (Int32) := p_X4_linesOf_49 M K x1 x2 x4 (nI 1) y0
def p_X4_linesOf_48 (M : Ob) (K : Int32 → Int32 → Int32 → Int32 → Option (Int32)) (x1 : Int32) (x2 : Int32) (x4 : Int32) (y0 : Int32)  : Option (Int32) := p_X4_linesOf_49 M K x1 x2 x4 (nI 0) y0
def p_X4_linesOf_5 (M : Ob) : Nat → Int32 → Int32 → Int32 → Int32 → Option (Int32)
  | 0, _, _, _, _ => none
  | n + 1, x1, x2, x3, x4 => ((p_X4_many M).bind fun v_1 => (if v_1 ≤ x4 then (some x3) else ((p_X4_chapterOf M x4).bind fun v_4 => (if v_4 = x1 then (if x2 = nI 0 then p_X4_linesOf_44 M (p_X4_linesOf_5 M n) x1 x2 x4 x3 else ((ldI (M 0) 130 ((nI 0) + x4)).bind fun v_8 => ((p_X4_isSection v_8).bind fun v_10 => (if v_10 = nI 0 then p_X4_linesOf_48 M (p_X4_linesOf_5 M n) x1 x2 x4 x3 else p_X4_linesOf_44 M (p_X4_linesOf_5 M n) x1 x2 x4 x3)))) else p_X4_linesOf_48 M (p_X4_linesOf_5 M n) x1 x2 x4 x3))))
def p_X4_linesOf (M : Ob) (u1 : Int32) (u2 : Int32)  : Option (Int32) := p_X4_linesOf_5 M 200 u1 u2 (nI 0) (nI 0)
abbrev rmX4_linesOf : Room := { frames := 3, cells := 0, slots := 0, locals := 65 }
set_option maxHeartbeats 4000000 in
set_option maxRecDepth 100000 in
theorem c_X4_linesOf (l : Launch) (G : GT) (am : Nat → Nat) (M : Ob) (u1 u2 : Int32) (r0 : Int32) (hrun : p_X4_linesOf M u1 u2 = some r0) : Met l yX4_linesOf wsX4_linesOf rmX4_linesOf (PreR G [.ref (am 0), .int u1, .int u2] (wMod G am M)) (Ri r0) 0 0 (fun _ => False) := by
  refine Met.ofW (cc := cX4_linesOf) (maxL := 5) (ret := (some .int)) (by decide) rfl ?_
  intro p e s m args below meth c s₁ Bd hml hv
  obtain ⟨rfl, hP, hC⟩ := hv
  have hx := Bd.exec
  have hb := Bd.bytes
  have hr := Bd.returns
  have hts := atoms_spec (ws := wsX4_linesOf) Bd.pre
  have hown : s.vm.findClass RX4 = some m.cls := findClass_of_methodNamed Bd.named
  have hlocks := Bd.notSynchronized
  have hK := hC.1
  have iwX4 : ∀ w ∈ wsX40, w ∈ wsX4_linesOf := by decide +kernel
  have ha0 := hts (.fieldLink RX4 7 "HeadMarksModel" "state" "[I") (by decide +kernel)
  have kH_5 : ∀ (n : Nat) (x1 x2 x3 x4 : Int32) , ∀ (ls : Array Slot), lv_has ls 5 [(0, .ref (am 0)), (1, .int x1), (2, .int x2), (3, .int x3), (4, .int x4)] → p_X4_linesOf_5 M n x1 x2 x3 x4 = some r0 → W p l e (headSpec wsX4_linesOf rmX4_linesOf).room s m ([.ref (am 0), .int u1, .int u2] : List Value).toArray below meth c s.heap [] 0 0 (MQ below (Ri r0) ([.ref (am 0), .int u1, .int u2] : List Value).toArray s 0 0 (fun _ => False)) (F0 m 5 ls []) := by
    intro n
    induction n with
    | zero => intro x1 x2 x3 x4 ls hl hrun; exact absurd (hrun : (none : Option (Int32)) = some r0) (fun h => by cases h)
    | succ n ih =>
      have kJ_49 : ∀ (x1 x2 x4 y0 y1 : Int32) , ∀ (ls : Array Slot), lv_has ls 5 [(0, .ref (am 0)), (1, .int x1), (2, .int x2), (4, .int x4)] → p_X4_linesOf_49 M (p_X4_linesOf_5 M n) x1 x2 x4 y0 y1 = some r0 → W p l e (headSpec wsX4_linesOf rmX4_linesOf).room s m ([.ref (am 0), .int u1, .int u2] : List Value).toArray below meth c s.heap [] 0 0 (MQ below (Ri r0) ([.ref (am 0), .int u1, .int u2] : List Value).toArray s 0 0 (fun _ => False)) (F0 m 49 ls [.int y0, .int y1]) := by
        intro x1 x2 x4 y0 y1 ls hl hrun
        rw [p_X4_linesOf_49] at hrun
        refine lv_iadd hx hb dX4_linesOf_49 ?_
        refine lv_istore_n (lv' := [(3, .int (y1 + y0)), (0, .ref (am 0)), (1, .int x1), (2, .int x2), (4, .int x4)]) hx hb dX4_linesOf_50 rfl hl (by decide) rfl (fun ls hl => ?_)
        refine lv_iinc (v := (x4 + nI 1)) (lv' := [(4, .int (x4 + nI 1)), (3, .int (y1 + y0)), (0, .ref (am 0)), (1, .int x1), (2, .int x2)]) hx hb dX4_linesOf_51 hl (k := 4) rfl rfl (by decide) rfl (fun ls hl => ?_)
        refine lv_goto (tgt := 5) hx hb dX4_linesOf_54 (by decide) ?_
        exact ih x1 x2 (y1 + y0) (x4 + nI 1)  ls (lv_sub hl [2, 3, 4, 1, 0] rfl) hrun
      have kJ_44 : ∀ (x1 x2 x4 y0 : Int32) , ∀ (ls : Array Slot), lv_has ls 5 [(0, .ref (am 0)), (1, .int x1), (2, .int x2), (4, .int x4)] → p_X4_linesOf_44 M (p_X4_linesOf_5 M n) x1 x2 x4 y0 = some r0 → W p l e (headSpec wsX4_linesOf rmX4_linesOf).room s m ([.ref (am 0), .int u1, .int u2] : List Value).toArray below meth c s.heap [] 0 0 (MQ below (Ri r0) ([.ref (am 0), .int u1, .int u2] : List Value).toArray s 0 0 (fun _ => False)) (F0 m 44 ls [.int y0]) := by
        intro x1 x2 x4 y0 ls hl hrun
        rw [p_X4_linesOf_44] at hrun
        refine lv_iconst (v := nI 1) hx hb dX4_linesOf_44 (by decide) ?_
        refine lv_goto (tgt := 49) hx hb dX4_linesOf_45 (by decide) ?_
        exact kJ_49 x1 x2 x4 (nI 1) y0  ls (lv_sub hl [0, 1, 2, 3] rfl) hrun
      have kJ_48 : ∀ (x1 x2 x4 y0 : Int32) , ∀ (ls : Array Slot), lv_has ls 5 [(0, .ref (am 0)), (1, .int x1), (2, .int x2), (4, .int x4)] → p_X4_linesOf_48 M (p_X4_linesOf_5 M n) x1 x2 x4 y0 = some r0 → W p l e (headSpec wsX4_linesOf rmX4_linesOf).room s m ([.ref (am 0), .int u1, .int u2] : List Value).toArray below meth c s.heap [] 0 0 (MQ below (Ri r0) ([.ref (am 0), .int u1, .int u2] : List Value).toArray s 0 0 (fun _ => False)) (F0 m 48 ls [.int y0]) := by
        intro x1 x2 x4 y0 ls hl hrun
        rw [p_X4_linesOf_48] at hrun
        refine lv_iconst (v := nI 0) hx hb dX4_linesOf_48 (by decide) ?_
        exact kJ_49 x1 x2 x4 (nI 0) y0  ls (lv_sub hl [0, 1, 2, 3] rfl) hrun
      intro x1 x2 x3 x4 ls hl hrun
      rw [p_X4_linesOf_5] at hrun
      refine lv_iload hx hb dX4_linesOf_5 (lv_at hl 4 rfl) ?_
      refine lv_aload_n hx hb dX4_linesOf_7 rfl (lv_at hl 0 rfl) ?_
      obtain ⟨v_1, e_2, hrun⟩ := bd hrun
      refine y_ro (va_runV (As := []) (rest := [.int x4]) ⟨hx, hb, hml, hown, hts⟩ (c_X4_many l G am M  v_1 e_2) (cwV 0 hts gX4_linesOf_X4_many rfl rfl rfl (by decide +kernel) ⟨Nat.le_of_ble_eq_true rfl, Nat.le_of_ble_eq_true rfl⟩) ⟨PreR.blind, va_recv hK hP (ci := 4) (q0 := 0) rfl rfl, y_preR hC hP⟩ rfl rfl hl.1 rfl (lv_room (Nat.le_of_ble_eq_true rfl)) dX4_linesOf_8 ⟨Nat.zero_le _, Nat.zero_le _⟩) ?_
      refine lv_icmp_ge (tgt := 57) hx hb dX4_linesOf_11 (by decide) (fun c_3 => ?_) (fun c_3 => ?_)
      · replace hrun := it_pos c_3 hrun
        refine lv_iload_n hx hb dX4_linesOf_57 rfl (lv_at hl 3 rfl) ?_
        exact W.iret (v := x3) hx hb hr (fun t ht hW => ⟨x3, rfl, si hrun, ht⟩) (fun _ h => absurd h List.not_mem_nil) dX4_linesOf_58
      · replace hrun := it_neg c_3 hrun
        refine lv_iload_n hx hb dX4_linesOf_14 rfl (lv_at hl 3 rfl) ?_
        refine lv_aload_n hx hb dX4_linesOf_15 rfl (lv_at hl 0 rfl) ?_
        refine lv_iload hx hb dX4_linesOf_16 (lv_at hl 4 rfl) ?_
        obtain ⟨v_4, e_5, hrun⟩ := bd hrun
        refine y_ro (va_runV (As := [.int x4]) (rest := [.int x3]) ⟨hx, hb, hml, hown, hts⟩ (c_X4_chapterOf l G am M x4 v_4 e_5) (cwV 1 hts gX4_linesOf_X4_chapterOf rfl rfl rfl (by decide +kernel) ⟨Nat.le_of_ble_eq_true rfl, Nat.le_of_ble_eq_true rfl⟩) ⟨PreR.blind, va_recv hK hP (ci := 4) (q0 := 0) rfl rfl, y_preR hC hP⟩ rfl rfl hl.1 rfl (lv_room (Nat.le_of_ble_eq_true rfl)) dX4_linesOf_18 ⟨Nat.zero_le _, Nat.zero_le _⟩) ?_
        refine lv_iload_n hx hb dX4_linesOf_21 rfl (lv_at hl 1 rfl) ?_
        refine lv_icmp_ne (tgt := 48) hx hb dX4_linesOf_22 (by decide) (fun c_6 => ?_) (fun c_6 => ?_)
        · replace hrun := it_neg c_6 hrun
          exact kJ_48 x1 x2 x4 x3  ls (lv_sub hl [0, 1, 2, 4] rfl) hrun
        · replace hrun := it_pos c_6 hrun
          refine lv_iload_n hx hb dX4_linesOf_25 rfl (lv_at hl 2 rfl) ?_
          refine lv_if_eq (tgt := 44) hx hb dX4_linesOf_26 (by decide) (fun c_7 => ?_) (fun c_7 => ?_)
          · replace hrun := it_pos c_7 hrun
            exact kJ_44 x1 x2 x4 x3  ls (lv_sub hl [0, 1, 2, 4] rfl) hrun
          · replace hrun := it_neg c_7 hrun
            refine lv_aload_n hx hb dX4_linesOf_29 rfl (lv_at hl 0 rfl) ?_
            refine va_get (D := G.1) (ci := 4) (v := .ref (am 1)) (C := RX4) (T := TX4) (N := 12) hx hb hts iwX4 hown hK hP 0 rfl rfl 0 (by decide) ha0 (fun _ h9 => h9) rfl dX4_linesOf_30 ?_
            refine lv_iconst (v := nI 0) hx hb dX4_linesOf_33 (by decide) ?_
            refine lv_iload hx hb dX4_linesOf_34 (lv_at hl 4 rfl) ?_
            refine lv_iadd hx hb dX4_linesOf_36 ?_
            obtain ⟨v_8, e_9, hrun⟩ := bd hrun
            refine y_ald hx hb hK hP 1 0 rfl rfl e_9 dX4_linesOf_37 ?_
            obtain ⟨v_10, e_11, hrun⟩ := bd hrun
            refine y_roz (va_runS (As := [.int v_8]) (rest := [.int x3]) ⟨hx, hb, hml, hown, hts⟩ (c_X4_isSection l G   v_8 v_10 e_11) (cwS 1 hts gX4_linesOf_X4_isSection rfl rfl rfl (by decide +kernel) ⟨Nat.le_of_ble_eq_true rfl, Nat.le_of_ble_eq_true rfl⟩) ⟨PreR.blind, y_preR hC (fun _ _ h => by cases h)⟩ rfl rfl hl.1 rfl (lv_room (Nat.le_of_ble_eq_true rfl)) dX4_linesOf_38 ⟨Nat.zero_le _, Nat.zero_le _⟩) (fun z_12 => ?_)
            refine lv_if_eq (tgt := 48) hx hb dX4_linesOf_41 (by decide) (fun c_13 => ?_) (fun c_13 => ?_)
            · replace hrun := it_pos c_13 hrun
              exact kJ_48 x1 x2 x4 x3  ls (lv_sub hl [0, 1, 2, 4] rfl) hrun
            · replace hrun := it_neg c_13 hrun
              exact kJ_44 x1 x2 x4 x3  ls (lv_sub hl [0, 1, 2, 4] rfl) hrun
  have hl := lv_entry [.ref (am 0), .int u1, .int u2] (n := 5) (Nat.le_of_ble_eq_true rfl)
  rw [lg_entry_eq]
  generalize (lg_sl [.ref (am 0), .int u1, .int u2] ++ List.replicate (5 - (lg_sl [.ref (am 0), .int u1, .int u2]).length) Slot.unset).toArray = ls at hl ⊢
  have hl : lv_has ls 5 [(0, .ref (am 0)), (1, .int u1), (2, .int u2)] := hl
  rw [p_X4_linesOf] at hrun
  refine lv_iconst (v := nI 0) hx hb dX4_linesOf_0 (by decide) ?_
  refine lv_istore_n (lv' := [(3, .int (nI 0)), (0, .ref (am 0)), (1, .int u1), (2, .int u2)]) hx hb dX4_linesOf_1 rfl hl (by decide) rfl (fun ls hl => ?_)
  refine lv_iconst (v := nI 0) hx hb dX4_linesOf_2 (by decide) ?_
  refine lv_istore (lv' := [(4, .int (nI 0)), (3, .int (nI 0)), (0, .ref (am 0)), (1, .int u1), (2, .int u2)]) hx hb dX4_linesOf_3 hl (by decide) rfl (fun ls hl => ?_)
  exact kH_5 200 u1 u2 (nI 0) (nI 0)  ls (lv_sub hl [2, 3, 4, 1, 0] rfl) hrun
def p_X4_pagesThat_75 (M : Ob) (K : Int32 → Int32 → Int32 → Option (Int32)) (x1 : Int32) (x3 : Int32) (y0 : Int32) (y1 : Int32)  : Option (Int32) := K x1 (y1 + y0) (x3 + nI 1)
def p_X4_pagesThat_62 (M : Ob) (K : Int32 → Int32 → Int32 → Option (Int32)) (x1 : Int32) (x2 : Int32) (x3 : Int32) (y0 : Int32)  : Option (Int32) := (if y0 = nI 0 then p_X4_pagesThat_75 M K x1 x3 (nI 0) x2 else p_X4_pagesThat_75 M K x1 x3 (nI 1) x2)
def p_X4_pagesThat_4 (M : Ob) : Nat → Int32 → Int32 → Int32 → Option (Int32)
  | 0, _, _, _ => none
  | n + 1, x1, x2, x3 => (if (M 10 0) < x3 then (some x2) else (if x1 = (nI 2) then ((ldI (M 9) 130 x3).bind fun v_10 => (if v_10 = nI 0 then p_X4_pagesThat_62 M (p_X4_pagesThat_4 M n) x1 x2 x3 (nI 1) else p_X4_pagesThat_62 M (p_X4_pagesThat_4 M n) x1 x2 x3 (nI 0))) else (if x1 = (nI 5) then ((p_X4_isShared M x3).bind fun v_7 => p_X4_pagesThat_62 M (p_X4_pagesThat_4 M n) x1 x2 x3 v_7) else ((p_X4_headOf M x3).bind fun v_4 => (if v_4 = (-6) then p_X4_pagesThat_62 M (p_X4_pagesThat_4 M n) x1 x2 x3 (nI 0) else p_X4_pagesThat_62 M (p_X4_pagesThat_4 M n) x1 x2 x3 (nI 1))))))
def p_X4_pagesThat (M : Ob) (u1 : Int32)  : Option (Int32) := p_X4_pagesThat_4 M 200 u1 (nI 0) (nI 1)
abbrev rmX4_pagesThat : Room := { frames := 5, cells := 0, slots := 0, locals := 113 }
set_option maxHeartbeats 4000000 in
set_option maxRecDepth 100000 in
theorem c_X4_pagesThat (l : Launch) (G : GT) (am : Nat → Nat) (M : Ob) (u1 : Int32) (r0 : Int32) (hrun : p_X4_pagesThat M u1 = some r0) : Met l yX4_pagesThat wsX4_pagesThat rmX4_pagesThat (PreR G [.ref (am 0), .int u1] (wMod G am M)) (Ri r0) 0 0 (fun _ => False) := by
  refine Met.ofW (cc := cX4_pagesThat) (maxL := 5) (ret := (some .int)) (by decide) rfl ?_
  intro p e s m args below meth c s₁ Bd hml hv
  obtain ⟨rfl, hP, hC⟩ := hv
  have hx := Bd.exec
  have hb := Bd.bytes
  have hr := Bd.returns
  have hts := atoms_spec (ws := wsX4_pagesThat) Bd.pre
  have hown : s.vm.findClass RX4 = some m.cls := findClass_of_methodNamed Bd.named
  have hlocks := Bd.notSynchronized
  have hK := hC.1
  have iwX4 : ∀ w ∈ wsX40, w ∈ wsX4_pagesThat := by decide +kernel
  have ha0 := hts (.fieldLink RX4 76 "HeadMarksModel" "pages" "I") (by decide +kernel)
  have ha1 := hts (.fieldLink RX4 35 "HeadMarksModel" "linesOn" "[I") (by decide +kernel)
  have kH_4 : ∀ (n : Nat) (x1 x2 x3 : Int32) , ∀ (ls : Array Slot), lv_has ls 5 [(0, .ref (am 0)), (1, .int x1), (2, .int x2), (3, .int x3)] → p_X4_pagesThat_4 M n x1 x2 x3 = some r0 → W p l e (headSpec wsX4_pagesThat rmX4_pagesThat).room s m ([.ref (am 0), .int u1] : List Value).toArray below meth c s.heap [] 0 0 (MQ below (Ri r0) ([.ref (am 0), .int u1] : List Value).toArray s 0 0 (fun _ => False)) (F0 m 4 ls []) := by
    intro n
    induction n with
    | zero => intro x1 x2 x3 ls hl hrun; exact absurd (hrun : (none : Option (Int32)) = some r0) (fun h => by cases h)
    | succ n ih =>
      have kJ_75 : ∀ (x1 x3 y0 y1 : Int32) , ∀ (ls : Array Slot), lv_has ls 5 [(0, .ref (am 0)), (1, .int x1), (3, .int x3)] → p_X4_pagesThat_75 M (p_X4_pagesThat_4 M n) x1 x3 y0 y1 = some r0 → W p l e (headSpec wsX4_pagesThat rmX4_pagesThat).room s m ([.ref (am 0), .int u1] : List Value).toArray below meth c s.heap [] 0 0 (MQ below (Ri r0) ([.ref (am 0), .int u1] : List Value).toArray s 0 0 (fun _ => False)) (F0 m 75 ls [.int y0, .int y1]) := by
        intro x1 x3 y0 y1 ls hl hrun
        rw [p_X4_pagesThat_75] at hrun
        refine lv_iadd hx hb dX4_pagesThat_75 ?_
        refine lv_istore_n (lv' := [(2, .int (y1 + y0)), (0, .ref (am 0)), (1, .int x1), (3, .int x3)]) hx hb dX4_pagesThat_76 rfl hl (by decide) rfl (fun ls hl => ?_)
        refine lv_iinc (v := (x3 + nI 1)) (lv' := [(3, .int (x3 + nI 1)), (2, .int (y1 + y0)), (0, .ref (am 0)), (1, .int x1)]) hx hb dX4_pagesThat_77 hl (k := 3) rfl rfl (by decide) rfl (fun ls hl => ?_)
        refine lv_goto (tgt := 4) hx hb dX4_pagesThat_80 (by decide) ?_
        exact ih x1 (y1 + y0) (x3 + nI 1)  ls (lv_sub hl [2, 3, 1, 0] rfl) hrun
      have kJ_62 : ∀ (x1 x2 x3 y0 : Int32) , ∀ (ls : Array Slot), lv_has ls 5 [(0, .ref (am 0)), (1, .int x1), (2, .int x2), (3, .int x3)] → p_X4_pagesThat_62 M (p_X4_pagesThat_4 M n) x1 x2 x3 y0 = some r0 → W p l e (headSpec wsX4_pagesThat rmX4_pagesThat).room s m ([.ref (am 0), .int u1] : List Value).toArray below meth c s.heap [] 0 0 (MQ below (Ri r0) ([.ref (am 0), .int u1] : List Value).toArray s 0 0 (fun _ => False)) (F0 m 62 ls [.int y0]) := by
        intro x1 x2 x3 y0 ls hl hrun
        rw [p_X4_pagesThat_62] at hrun
        refine lv_istore (lv' := [(4, .int y0), (0, .ref (am 0)), (1, .int x1), (2, .int x2), (3, .int x3)]) hx hb dX4_pagesThat_62 hl (by decide) rfl (fun ls hl => ?_)
        refine lv_iload_n hx hb dX4_pagesThat_64 rfl (lv_at hl 3 rfl) ?_
        refine lv_iload hx hb dX4_pagesThat_65 (lv_at hl 0 rfl) ?_
        refine lv_if_eq (tgt := 74) hx hb dX4_pagesThat_67 (by decide) (fun c_13 => ?_) (fun c_13 => ?_)
        · replace hrun := it_pos c_13 hrun
          refine lv_iconst (v := nI 0) hx hb dX4_pagesThat_74 (by decide) ?_
          exact kJ_75 x1 x3 (nI 0) x2  ls (lv_sub hl [1, 2, 4] rfl) hrun
        · replace hrun := it_neg c_13 hrun
          refine lv_iconst (v := nI 1) hx hb dX4_pagesThat_70 (by decide) ?_
          refine lv_goto (tgt := 75) hx hb dX4_pagesThat_71 (by decide) ?_
          exact kJ_75 x1 x3 (nI 1) x2  ls (lv_sub hl [1, 2, 4] rfl) hrun
      intro x1 x2 x3 ls hl hrun
      rw [p_X4_pagesThat_4] at hrun
      refine lv_iload_n hx hb dX4_pagesThat_4 rfl (lv_at hl 3 rfl) ?_
      refine lv_aload_n hx hb dX4_pagesThat_5 rfl (lv_at hl 0 rfl) ?_
      refine va_get (D := G.1) (ci := 4) (v := .int (M 10 0)) (C := RX4) (T := TX4) (N := 12) hx hb hts iwX4 hown hK hP 0 rfl rfl 10 (by decide) ha0 (fun _ h9 => h9) rfl dX4_pagesThat_6 ?_
      refine lv_icmp_gt (tgt := 83) hx hb dX4_pagesThat_9 (by decide) (fun c_1 => ?_) (fun c_1 => ?_)
      · replace hrun := it_pos c_1 hrun
        refine lv_iload_n hx hb dX4_pagesThat_83 rfl (lv_at hl 2 rfl) ?_
        exact W.iret (v := x2) hx hb hr (fun t ht hW => ⟨x2, rfl, si hrun, ht⟩) (fun _ h => absurd h List.not_mem_nil) dX4_pagesThat_84
      · replace hrun := it_neg c_1 hrun
        refine lv_iload_n hx hb dX4_pagesThat_12 rfl (lv_at hl 1 rfl) ?_
        refine lv_iconst (v := nI 2) hx hb dX4_pagesThat_13 (by decide) ?_
        refine lv_icmp_ne (tgt := 34) hx hb dX4_pagesThat_14 (by decide) (fun c_2 => ?_) (fun c_2 => ?_)
        · replace hrun := it_neg c_2 hrun
          refine lv_iload_n hx hb dX4_pagesThat_34 rfl (lv_at hl 1 rfl) ?_
          refine lv_iconst (v := nI 5) hx hb dX4_pagesThat_35 (by decide) ?_
          refine lv_icmp_ne (tgt := 47) hx hb dX4_pagesThat_36 (by decide) (fun c_3 => ?_) (fun c_3 => ?_)
          · replace hrun := it_neg c_3 hrun
            refine lv_aload_n hx hb dX4_pagesThat_47 rfl (lv_at hl 0 rfl) ?_
            refine lv_iload_n hx hb dX4_pagesThat_48 rfl (lv_at hl 3 rfl) ?_
            obtain ⟨v_4, e_5, hrun⟩ := bd hrun
            refine y_ro (va_runV (As := [.int x3]) (rest := []) ⟨hx, hb, hml, hown, hts⟩ (c_X4_headOf l G am M x3 v_4 e_5) (cwV 1 hts gX4_pagesThat_X4_headOf rfl rfl rfl (by decide +kernel) ⟨Nat.le_of_ble_eq_true rfl, Nat.le_of_ble_eq_true rfl⟩) ⟨PreR.blind, va_recv hK hP (ci := 4) (q0 := 0) rfl rfl, y_preR hC hP⟩ rfl rfl hl.1 rfl (lv_room (Nat.le_of_ble_eq_true rfl)) dX4_pagesThat_49 ⟨Nat.zero_le _, Nat.zero_le _⟩) ?_
            refine lv_bipush (v := -6) hx hb dX4_pagesThat_52 (by decide) ?_
            refine lv_icmp_eq (tgt := 61) hx hb dX4_pagesThat_54 (by decide) (fun c_6 => ?_) (fun c_6 => ?_)
            · replace hrun := it_pos c_6 hrun
              refine lv_iconst (v := nI 0) hx hb dX4_pagesThat_61 (by decide) ?_
              exact kJ_62 x1 x2 x3 (nI 0)  ls (lv_sub hl [0, 1, 2, 3] rfl) hrun
            · replace hrun := it_neg c_6 hrun
              refine lv_iconst (v := nI 1) hx hb dX4_pagesThat_57 (by decide) ?_
              refine lv_goto (tgt := 62) hx hb dX4_pagesThat_58 (by decide) ?_
              exact kJ_62 x1 x2 x3 (nI 1)  ls (lv_sub hl [0, 1, 2, 3] rfl) hrun
          · replace hrun := it_pos c_3 hrun
            refine lv_aload_n hx hb dX4_pagesThat_39 rfl (lv_at hl 0 rfl) ?_
            refine lv_iload_n hx hb dX4_pagesThat_40 rfl (lv_at hl 3 rfl) ?_
            obtain ⟨v_7, e_8, hrun⟩ := bd hrun
            refine y_roz (va_runV (As := [.int x3]) (rest := []) ⟨hx, hb, hml, hown, hts⟩ (c_X4_isShared l G am M x3 v_7 e_8) (cwV 1 hts gX4_pagesThat_X4_isShared rfl rfl rfl (by decide +kernel) ⟨Nat.le_of_ble_eq_true rfl, Nat.le_of_ble_eq_true rfl⟩) ⟨PreR.blind, va_recv hK hP (ci := 4) (q0 := 0) rfl rfl, y_preR hC hP⟩ rfl rfl hl.1 rfl (lv_room (Nat.le_of_ble_eq_true rfl)) dX4_pagesThat_41 ⟨Nat.zero_le _, Nat.zero_le _⟩) (fun z_9 => ?_)
            refine lv_goto (tgt := 62) hx hb dX4_pagesThat_44 (by decide) ?_
            exact kJ_62 x1 x2 x3 v_7  ls (lv_sub hl [0, 1, 2, 3] rfl) hrun
        · replace hrun := it_pos c_2 hrun
          refine lv_aload_n hx hb dX4_pagesThat_17 rfl (lv_at hl 0 rfl) ?_
          refine va_get (D := G.1) (ci := 4) (v := .ref (am 9)) (C := RX4) (T := TX4) (N := 12) hx hb hts iwX4 hown hK hP 0 rfl rfl 9 (by decide) ha1 (fun _ h9 => h9) rfl dX4_pagesThat_18 ?_
          refine lv_iload_n hx hb dX4_pagesThat_21 rfl (lv_at hl 3 rfl) ?_
          obtain ⟨v_10, e_11, hrun⟩ := bd hrun
          refine y_ald hx hb hK hP 9 0 rfl rfl e_11 dX4_pagesThat_22 ?_
          refine lv_if_ne (tgt := 30) hx hb dX4_pagesThat_23 (by decide) (fun c_12 => ?_) (fun c_12 => ?_)
          · replace hrun := it_neg c_12 hrun
            refine lv_iconst (v := nI 0) hx hb dX4_pagesThat_30 (by decide) ?_
            refine lv_goto (tgt := 62) hx hb dX4_pagesThat_31 (by decide) ?_
            exact kJ_62 x1 x2 x3 (nI 0)  ls (lv_sub hl [0, 1, 2, 3] rfl) hrun
          · replace hrun := it_pos c_12 hrun
            refine lv_iconst (v := nI 1) hx hb dX4_pagesThat_26 (by decide) ?_
            refine lv_goto (tgt := 62) hx hb dX4_pagesThat_27 (by decide) ?_
            exact kJ_62 x1 x2 x3 (nI 1)  ls (lv_sub hl [0, 1, 2, 3] rfl) hrun
  have hl := lv_entry [.ref (am 0), .int u1] (n := 5) (Nat.le_of_ble_eq_true rfl)
  rw [lg_entry_eq]
  generalize (lg_sl [.ref (am 0), .int u1] ++ List.replicate (5 - (lg_sl [.ref (am 0), .int u1]).length) Slot.unset).toArray = ls at hl ⊢
  have hl : lv_has ls 5 [(0, .ref (am 0)), (1, .int u1)] := hl
  rw [p_X4_pagesThat] at hrun
  refine lv_iconst (v := nI 0) hx hb dX4_pagesThat_0 (by decide) ?_
  refine lv_istore_n (lv' := [(2, .int (nI 0)), (0, .ref (am 0)), (1, .int u1)]) hx hb dX4_pagesThat_1 rfl hl (by decide) rfl (fun ls hl => ?_)
  refine lv_iconst (v := nI 1) hx hb dX4_pagesThat_2 (by decide) ?_
  refine lv_istore_n (lv' := [(3, .int (nI 1)), (2, .int (nI 0)), (0, .ref (am 0)), (1, .int u1)]) hx hb dX4_pagesThat_3 rfl hl (by decide) rfl (fun ls hl => ?_)
  exact kH_4 200 u1 (nI 0) (nI 1)  ls (lv_sub hl [2, 3, 1, 0] rfl) hrun
def p_X4_say  (u1 : Int32) (M : Ob) : Option (Int32 × Ob) := ((p_X4_in u1 (nI 33) (nI 126)).bind fun v_1 => (if v_1 = nI 0 then (some ((-2), M)) else (if (M 4 0) = (nI 60) then (some ((-4), M)) else ((stO M 3 60 (M 4 0) u1).bind fun N_6 => ((some (puO N_6 4 ((N_6 4 0) + (nI 1)))).bind fun M_8 => (some ((M_8 4 0), M_8)))))))
abbrev rmX4_say : Room := { frames := 1, cells := 0, slots := 0, locals := 22 }
set_option maxHeartbeats 4000000 in
set_option maxRecDepth 100000 in
theorem c_X4_say (l : Launch) (G : GT) (am : Nat → Nat) (M : Ob) (u1 : Int32) (sz : Nat) (r0 : Int32) (M0 : Ob) (hrun : p_X4_say u1 M = some (r0, M0)) : Met l yX4_say wsX4_say rmX4_say (PreW G [.ref (am 0), .int u1] (wMod G am M) sz) (QI G r0 (wMod G am M0) (va_A (wMod G am M) sz)) 0 0 (va_A (wMod G am M) sz) := by
  refine Met.ofW (cc := cX4_say) (maxL := 2) (ret := (some .int)) (by decide) rfl ?_
  intro p e s m args below meth c s₁ Bd hml hv
  obtain ⟨rfl, hsz, hP, hC, hD0⟩ := hv
  have hx := Bd.exec
  have hb := Bd.bytes
  have hr := Bd.returns
  have hts := atoms_spec (ws := wsX4_say) Bd.pre
  have hown : s.vm.findClass RX4 = some m.cls := findClass_of_methodNamed Bd.named
  have hlocks := Bd.notSynchronized
  have hK := hC.1
  have iwX4 : ∀ w ∈ wsX40, w ∈ wsX4_say := by decide +kernel
  have ha0 := hts (.fieldLink RX4 49 "HeadMarksModel" "said" "I") (by decide +kernel)
  have ha1 := hts (.fieldLink RX4 20 "HeadMarksModel" "pad" "[I") (by decide +kernel)
  subst hsz
  have hD := hD0.self (sz := s.heap.size)
  generalize hAe : va_A (wMod G am M) s.heap.size = A at hD ⊢
  have hA : ∀ q : Nat, s.heap.size ≤ q → A q := fun q h => by rw [← hAe]; exact Or.inr h
  have hS : va_S A s.heap s.heap [] := va_S.rf
  have hl := lv_entry [.ref (am 0), .int u1] (n := 2) (Nat.le_of_ble_eq_true rfl)
  rw [lg_entry_eq]
  generalize (lg_sl [.ref (am 0), .int u1] ++ List.replicate (2 - (lg_sl [.ref (am 0), .int u1]).length) Slot.unset).toArray = ls at hl ⊢
  have hl : lv_has ls 2 [(0, .ref (am 0)), (1, .int u1)] := hl
  rw [p_X4_say] at hrun
  refine lv_iload_n hx hb dX4_say_0 rfl (lv_at hl 1 rfl) ?_
  refine lv_bipush (v := nI 33) hx hb dX4_say_1 (by decide) ?_
  refine lv_bipush (v := nI 126) hx hb dX4_say_3 (by decide) ?_
  obtain ⟨v_1, e_2, hrun⟩ := bd hrun
  refine y_roz (va_runS (As := [.int u1, .int (nI 33), .int (nI 126)]) (rest := []) ⟨hx, hb, hml, hown, hts⟩ (c_X4_in l G   u1 (nI 33) (nI 126) v_1 e_2) (cwS 3 hts gX4_say_X4_in rfl rfl rfl (by decide +kernel) ⟨Nat.le_of_ble_eq_true rfl, Nat.le_of_ble_eq_true rfl⟩) ⟨PreR.blind, y_preR hC (fun _ _ h => by cases h)⟩ rfl rfl hl.1 rfl (lv_room (Nat.le_of_ble_eq_true rfl)) dX4_say_5 ⟨Nat.zero_le _, Nat.zero_le _⟩) (fun z_3 => ?_)
  refine lv_if_ne (tgt := 14) hx hb dX4_say_8 (by decide) (fun c_4 => ?_) (fun c_4 => ?_)
  · replace hrun := it_neg c_4 hrun
    refine lv_aload_n hx hb dX4_say_14 rfl (lv_at hl 0 rfl) ?_
    refine va_get (D := G.1) (ci := 4) (v := .int (M 4 0)) (C := RX4) (T := TX4) (N := 12) hx hb hts iwX4 hown hK hP 0 rfl rfl 4 (by decide) ha0 (fun _ h9 => h9) rfl dX4_say_15 ?_
    refine lv_bipush (v := nI 60) hx hb dX4_say_18 (by decide) ?_
    refine lv_icmp_ne (tgt := 26) hx hb dX4_say_20 (by decide) (fun c_5 => ?_) (fun c_5 => ?_)
    · replace hrun := it_neg c_5 hrun
      refine lv_aload_n hx hb dX4_say_26 rfl (lv_at hl 0 rfl) ?_
      refine va_get (D := G.1) (ci := 4) (v := .ref (am 4)) (C := RX4) (T := TX4) (N := 12) hx hb hts iwX4 hown hK hP 0 rfl rfl 3 (by decide) ha1 (fun _ h9 => h9) rfl dX4_say_27 ?_
      refine lv_aload_n hx hb dX4_say_30 rfl (lv_at hl 0 rfl) ?_
      refine va_get (D := G.1) (ci := 4) (v := .int (M 4 0)) (C := RX4) (T := TX4) (N := 12) hx hb hts iwX4 hown hK hP 0 rfl rfl 4 (by decide) ha0 (fun _ h9 => h9) rfl dX4_say_31 ?_
      refine lv_iload_n hx hb dX4_say_34 rfl (lv_at hl 1 rfl) ?_
      obtain ⟨N_6, e_7, hrun⟩ := bd hrun
      replace e_7 := stO_spec e_7
      refine va_iast hx hb hK hP hD hS 4 0 rfl rfl e_7.1 dX4_say_35 (fun H locs hP hD hS => ?_)
      replace hP : va_P G.1 vwCl (wMod G am N_6) H := by rw [← e_7.2]; exact hP
      replace hD : va_D A (wMod G am N_6) := by rw [← e_7.2]; exact hD
      refine lv_aload_n hx hb dX4_say_36 rfl (lv_at hl 0 rfl) ?_
      refine lv_dup hx hb dX4_say_37 rfl ?_
      refine va_get (D := G.1) (ci := 4) (v := .int (N_6 4 0)) (C := RX4) (T := TX4) (N := 12) hx hb hts iwX4 hown hK hP 0 rfl rfl 4 (by decide) ha0 (fun _ h9 => h9) rfl dX4_say_38 ?_
      refine lv_iconst (v := nI 1) hx hb dX4_say_41 (by decide) ?_
      refine lv_iadd hx hb dX4_say_42 ?_
      obtain ⟨M_8, e_9, hrun⟩ := bd hrun
      replace e_9 := si e_9
      refine va_put (D := G.1) (ci := 4) (v := .int ((N_6 4 0) + (nI 1))) (ty := .int) (C := RX4) (T := TX4) (N := 12) hx hb hts iwX4 tyX4 tyX4_ok nmX4 hown hK hP hD hS 0 rfl rfl 4 (by decide) ha0 (fun _ h9 => h9) rfl (by decide +kernel) rfl rfl (Nat.le_of_ble_eq_true rfl) dX4_say_43 (fun H locs hP hD hS => ?_)
      replace hP : va_P G.1 vwCl (wMod G am M_8) H := by rw [← e_9]; exact hP
      replace hD : va_D A (wMod G am M_8) := by rw [← e_9]; exact hD
      refine lv_aload_n hx hb dX4_say_46 rfl (lv_at hl 0 rfl) ?_
      refine va_get (D := G.1) (ci := 4) (v := .int (M_8 4 0)) (C := RX4) (T := TX4) (N := 12) hx hb hts iwX4 hown hK hP 0 rfl rfl 4 (by decide) ha0 (fun _ h9 => h9) rfl dX4_say_47 ?_
      obtain ⟨hr1, hr2⟩ := si2 hrun
      exact W.iret (v := (M_8 4 0)) hx hb hr (fun t ht hW => ⟨⟨(M_8 4 0), (), rfl, hr1, by rw [ht, ← hr2]; exact hP, by rw [← hr2]; exact hD⟩, hS.F ht⟩) hS.2.2 dX4_say_50
    · replace hrun := it_pos c_5 hrun
      refine lv_bipush (v := -4) hx hb dX4_say_23 (by decide) ?_
      obtain ⟨hr1, hr2⟩ := si2 hrun
      exact W.iret (v := (-4)) hx hb hr (fun t ht hW => ⟨⟨(-4), (), rfl, hr1, by rw [ht, ← hr2]; exact hP, by rw [← hr2]; exact hD⟩, hS.F ht⟩) hS.2.2 dX4_say_25
  · replace hrun := it_pos c_4 hrun
    refine lv_bipush (v := -2) hx hb dX4_say_11 (by decide) ?_
    obtain ⟨hr1, hr2⟩ := si2 hrun
    exact W.iret (v := (-2)) hx hb hr (fun t ht hW => ⟨⟨(-2), (), rfl, hr1, by rw [ht, ← hr2]; exact hP, by rw [← hr2]; exact hD⟩, hS.F ht⟩) hS.2.2 dX4_say_13
def p_X4_wipe   (M : Ob) : Option (Int32 × Ob) := ((some (puO M 4 (nI 0))).bind fun M_1 => (some ((M 4 0), M_1)))
abbrev rmX4_wipe : Room := { frames := 0, cells := 0, slots := 0, locals := 0 }
set_option maxHeartbeats 4000000 in
set_option maxRecDepth 100000 in
theorem c_X4_wipe (l : Launch) (G : GT) (am : Nat → Nat) (M : Ob) (sz : Nat) (r0 : Int32) (M0 : Ob) (hrun : p_X4_wipe M = some (r0, M0)) : Met l yX4_wipe wsX4_wipe rmX4_wipe (PreW G [.ref (am 0)] (wMod G am M) sz) (QI G r0 (wMod G am M0) (va_A (wMod G am M) sz)) 0 0 (va_A (wMod G am M) sz) := by
  refine Met.ofW (cc := cX4_wipe) (maxL := 2) (ret := (some .int)) (by decide) rfl ?_
  intro p e s m args below meth c s₁ Bd hml hv
  obtain ⟨rfl, hsz, hP, hC, hD0⟩ := hv
  have hx := Bd.exec
  have hb := Bd.bytes
  have hr := Bd.returns
  have hts := atoms_spec (ws := wsX4_wipe) Bd.pre
  have hown : s.vm.findClass RX4 = some m.cls := findClass_of_methodNamed Bd.named
  have hlocks := Bd.notSynchronized
  have hK := hC.1
  have iwX4 : ∀ w ∈ wsX40, w ∈ wsX4_wipe := by decide +kernel
  have ha0 := hts (.fieldLink RX4 49 "HeadMarksModel" "said" "I") (by decide +kernel)
  subst hsz
  have hD := hD0.self (sz := s.heap.size)
  generalize hAe : va_A (wMod G am M) s.heap.size = A at hD ⊢
  have hA : ∀ q : Nat, s.heap.size ≤ q → A q := fun q h => by rw [← hAe]; exact Or.inr h
  have hS : va_S A s.heap s.heap [] := va_S.rf
  have hl := lv_entry [.ref (am 0)] (n := 2) (Nat.le_of_ble_eq_true rfl)
  rw [lg_entry_eq]
  generalize (lg_sl [.ref (am 0)] ++ List.replicate (2 - (lg_sl [.ref (am 0)]).length) Slot.unset).toArray = ls at hl ⊢
  have hl : lv_has ls 2 [(0, .ref (am 0))] := hl
  rw [p_X4_wipe] at hrun
  refine lv_aload_n hx hb dX4_wipe_0 rfl (lv_at hl 0 rfl) ?_
  refine va_get (D := G.1) (ci := 4) (v := .int (M 4 0)) (C := RX4) (T := TX4) (N := 12) hx hb hts iwX4 hown hK hP 0 rfl rfl 4 (by decide) ha0 (fun _ h9 => h9) rfl dX4_wipe_1 ?_
  refine lv_istore_n (lv' := [(1, .int (M 4 0)), (0, .ref (am 0))]) hx hb dX4_wipe_4 rfl hl (by decide) rfl (fun ls hl => ?_)
  refine lv_aload_n hx hb dX4_wipe_5 rfl (lv_at hl 1 rfl) ?_
  refine lv_iconst (v := nI 0) hx hb dX4_wipe_6 (by decide) ?_
  obtain ⟨M_1, e_2, hrun⟩ := bd hrun
  replace e_2 := si e_2
  refine va_put (D := G.1) (ci := 4) (v := .int (nI 0)) (ty := .int) (C := RX4) (T := TX4) (N := 12) hx hb hts iwX4 tyX4 tyX4_ok nmX4 hown hK hP hD hS 0 rfl rfl 4 (by decide) ha0 (fun _ h9 => h9) rfl (by decide +kernel) rfl rfl (Nat.le_of_ble_eq_true rfl) dX4_wipe_7 (fun H locs hP hD hS => ?_)
  replace hP : va_P G.1 vwCl (wMod G am M_1) H := by rw [← e_2]; exact hP
  replace hD : va_D A (wMod G am M_1) := by rw [← e_2]; exact hD
  refine lv_iload_n hx hb dX4_wipe_10 rfl (lv_at hl 0 rfl) ?_
  obtain ⟨hr1, hr2⟩ := si2 hrun
  exact W.iret (v := (M 4 0)) hx hb hr (fun t ht hW => ⟨⟨(M 4 0), (), rfl, hr1, by rw [ht, ← hr2]; exact hP, by rw [← hr2]; exact hD⟩, hS.F ht⟩) hS.2.2 dX4_wipe_11
def p_X4_read_96  (K : Int32 → Int32 → Ob → Option (Int32 × Ob)) (x1 : Int32) (x2 : Int32) (M : Ob) : Option (Int32 × Ob) := K x1 (x2 + nI 1) M
def p_X4_read_92  (K : Int32 → Int32 → Ob → Option (Int32 × Ob)) (x1 : Int32) (x2 : Int32) (y0 : Int32) (y1 : Int32) (M : Ob) : Option (Int32 × Ob) := ((stO M 0 130 y1 y0).bind fun N_23 => p_X4_read_96 K (x1 + nI 1) x2 N_23)
def p_X4_read_91  (K : Int32 → Int32 → Ob → Option (Int32 × Ob)) (x1 : Int32) (x2 : Int32) (y0 : Int32) (M : Ob) : Option (Int32 × Ob) := p_X4_read_92 K x1 x2 (nI 0) y0 M
def p_X4_read_61  (K : Int32 → Int32 → Ob → Option (Int32 × Ob)) (x1 : Int32) (x2 : Int32) (y0 : Int32) (y1 : Int32) (M : Ob) : Option (Int32 × Ob) := ((stO M 0 130 y1 y0).bind fun N_17 => (if x2 ≤ nI 0 then p_X4_read_91 K x1 x2 ((nI 60) + x1) N_17 else ((ldI (N_17 3) 60 (x2 - (nI 1))).bind fun v_20 => (if v_20 = (nI 47) then p_X4_read_92 K x1 x2 (nI 1) ((nI 60) + x1) N_17 else p_X4_read_91 K x1 x2 ((nI 60) + x1) N_17))))
def p_X4_read_14  : Nat → Int32 → Int32 → Ob → Option (Int32 × Ob)
  | 0, _, _, _ => none
  | n + 1, x1, x2, M => (if (M 4 0) ≤ x2 then ((stO M 0 130 (nI 120) x1).bind fun N_5 => ((some (puO N_5 4 (nI 0))).bind fun M_7 => (some (x1, M_7)))) else ((ldI (M 3) 60 x2).bind fun v_9 => (if v_9 = (nI 47) then p_X4_read_96 (p_X4_read_14 n) x1 x2 M else ((ldI (M 3) 60 x2).bind fun v_12 => (if v_12 = (nI 46) then p_X4_read_61 (p_X4_read_14 n) x1 x2 (nI 0) ((nI 0) + x1) M else ((ldI (M 3) 60 x2).bind fun v_15 => p_X4_read_61 (p_X4_read_14 n) x1 x2 v_15 ((nI 0) + x1) M))))))
def p_X4_read   (M : Ob) : Option (Int32 × Ob) := ((p_X4_fault M).bind fun v_1 => (if v_1 < nI 0 then p_X4_read_14 200 (nI 0) (nI 0) M else (some ((-7), M))))
abbrev rmX4_read : Room := { frames := 4, cells := 0, slots := 0, locals := 84 }
set_option maxHeartbeats 4000000 in
set_option maxRecDepth 100000 in
theorem c_X4_read (l : Launch) (G : GT) (am : Nat → Nat) (M : Ob) (sz : Nat) (r0 : Int32) (M0 : Ob) (hrun : p_X4_read M = some (r0, M0)) : Met l yX4_read wsX4_read rmX4_read (PreW G [.ref (am 0)] (wMod G am M) sz) (QI G r0 (wMod G am M0) (va_A (wMod G am M) sz)) 0 0 (va_A (wMod G am M) sz) := by
  refine Met.ofW (cc := cX4_read) (maxL := 3) (ret := (some .int)) (by decide) rfl ?_
  intro p e s m args below meth c s₁ Bd hml hv
  obtain ⟨rfl, hsz, hP, hC, hD0⟩ := hv
  have hx := Bd.exec
  have hb := Bd.bytes
  have hr := Bd.returns
  have hts := atoms_spec (ws := wsX4_read) Bd.pre
  have hown : s.vm.findClass RX4 = some m.cls := findClass_of_methodNamed Bd.named
  have hlocks := Bd.notSynchronized
  have hK := hC.1
  have iwX4 : ∀ w ∈ wsX40, w ∈ wsX4_read := by decide +kernel
  have ha0 := hts (.fieldLink RX4 49 "HeadMarksModel" "said" "I") (by decide +kernel)
  have ha1 := hts (.fieldLink RX4 7 "HeadMarksModel" "state" "[I") (by decide +kernel)
  have ha2 := hts (.fieldLink RX4 20 "HeadMarksModel" "pad" "[I") (by decide +kernel)
  subst hsz
  have hD := hD0.self (sz := s.heap.size)
  generalize hAe : va_A (wMod G am M) s.heap.size = A at hD ⊢
  have hA : ∀ q : Nat, s.heap.size ≤ q → A q := fun q h => by rw [← hAe]; exact Or.inr h
  have hS : va_S A s.heap s.heap [] := va_S.rf
  have kH_14 : ∀ (n : Nat) (x1 x2 : Int32) (M : Ob) , ∀ (H : Heap) (locs : List Loc), va_P G.1 vwCl (wMod G am M) H → va_D A (wMod G am M) → va_S A s.heap H locs → ∀ (ls : Array Slot), lv_has ls 3 [(0, .ref (am 0)), (1, .int x1), (2, .int x2)] → p_X4_read_14 n x1 x2 M = some (r0, M0) → W p l e (headSpec wsX4_read rmX4_read).room s m ([.ref (am 0)] : List Value).toArray below meth c H locs 0 0 (MQ below (QI G r0 (wMod G am M0) A) ([.ref (am 0)] : List Value).toArray s 0 0 A) (F0 m 14 ls []) := by
    intro n
    induction n with
    | zero => intro x1 x2 M H locs hP hD hS ls hl hrun; exact absurd (hrun : (none : Option (Int32 × Ob)) = some (r0, M0)) (fun h => by cases h)
    | succ n ih =>
      have kJ_96 : ∀ (x1 x2 : Int32) (M : Ob) , ∀ (H : Heap) (locs : List Loc), va_P G.1 vwCl (wMod G am M) H → va_D A (wMod G am M) → va_S A s.heap H locs → ∀ (ls : Array Slot), lv_has ls 3 [(0, .ref (am 0)), (1, .int x1), (2, .int x2)] → p_X4_read_96 (p_X4_read_14 n) x1 x2 M = some (r0, M0) → W p l e (headSpec wsX4_read rmX4_read).room s m ([.ref (am 0)] : List Value).toArray below meth c H locs 0 0 (MQ below (QI G r0 (wMod G am M0) A) ([.ref (am 0)] : List Value).toArray s 0 0 A) (F0 m 96 ls []) := by
        intro x1 x2 M H locs hP hD hS ls hl hrun
        rw [p_X4_read_96] at hrun
        refine lv_iinc (v := (x2 + nI 1)) (lv' := [(2, .int (x2 + nI 1)), (0, .ref (am 0)), (1, .int x1)]) hx hb dX4_read_96 hl (k := 2) rfl rfl (by decide) rfl (fun ls hl => ?_)
        refine lv_goto (tgt := 14) hx hb dX4_read_99 (by decide) ?_
        exact ih x1 (x2 + nI 1) M _ _ hP hD hS ls (lv_sub hl [1, 2, 0] rfl) hrun
      have kJ_92 : ∀ (x1 x2 y0 y1 : Int32) (M : Ob) , ∀ (H : Heap) (locs : List Loc), va_P G.1 vwCl (wMod G am M) H → va_D A (wMod G am M) → va_S A s.heap H locs → ∀ (ls : Array Slot), lv_has ls 3 [(0, .ref (am 0)), (1, .int x1), (2, .int x2)] → p_X4_read_92 (p_X4_read_14 n) x1 x2 y0 y1 M = some (r0, M0) → W p l e (headSpec wsX4_read rmX4_read).room s m ([.ref (am 0)] : List Value).toArray below meth c H locs 0 0 (MQ below (QI G r0 (wMod G am M0) A) ([.ref (am 0)] : List Value).toArray s 0 0 A) (F0 m 92 ls [.int y0, .int y1, .ref (am 1)]) := by
        intro x1 x2 y0 y1 M H locs hP hD hS ls hl hrun
        rw [p_X4_read_92] at hrun
        obtain ⟨N_23, e_24, hrun⟩ := bd hrun
        replace e_24 := stO_spec e_24
        refine va_iast hx hb hK hP hD hS 1 0 rfl rfl e_24.1 dX4_read_92 (fun H locs hP hD hS => ?_)
        replace hP : va_P G.1 vwCl (wMod G am N_23) H := by rw [← e_24.2]; exact hP
        replace hD : va_D A (wMod G am N_23) := by rw [← e_24.2]; exact hD
        refine lv_iinc (v := (x1 + nI 1)) (lv' := [(1, .int (x1 + nI 1)), (0, .ref (am 0)), (2, .int x2)]) hx hb dX4_read_93 hl (k := 1) rfl rfl (by decide) rfl (fun ls hl => ?_)
        exact kJ_96 (x1 + nI 1) x2 N_23 _ _ hP hD hS ls (lv_sub hl [1, 0, 2] rfl) hrun
      have kJ_91 : ∀ (x1 x2 y0 : Int32) (M : Ob) , ∀ (H : Heap) (locs : List Loc), va_P G.1 vwCl (wMod G am M) H → va_D A (wMod G am M) → va_S A s.heap H locs → ∀ (ls : Array Slot), lv_has ls 3 [(0, .ref (am 0)), (1, .int x1), (2, .int x2)] → p_X4_read_91 (p_X4_read_14 n) x1 x2 y0 M = some (r0, M0) → W p l e (headSpec wsX4_read rmX4_read).room s m ([.ref (am 0)] : List Value).toArray below meth c H locs 0 0 (MQ below (QI G r0 (wMod G am M0) A) ([.ref (am 0)] : List Value).toArray s 0 0 A) (F0 m 91 ls [.int y0, .ref (am 1)]) := by
        intro x1 x2 y0 M H locs hP hD hS ls hl hrun
        rw [p_X4_read_91] at hrun
        refine lv_iconst (v := nI 0) hx hb dX4_read_91 (by decide) ?_
        exact kJ_92 x1 x2 (nI 0) y0 M _ _ hP hD hS ls (lv_sub hl [0, 1, 2] rfl) hrun
      have kJ_61 : ∀ (x1 x2 y0 y1 : Int32) (M : Ob) , ∀ (H : Heap) (locs : List Loc), va_P G.1 vwCl (wMod G am M) H → va_D A (wMod G am M) → va_S A s.heap H locs → ∀ (ls : Array Slot), lv_has ls 3 [(0, .ref (am 0)), (1, .int x1), (2, .int x2)] → p_X4_read_61 (p_X4_read_14 n) x1 x2 y0 y1 M = some (r0, M0) → W p l e (headSpec wsX4_read rmX4_read).room s m ([.ref (am 0)] : List Value).toArray below meth c H locs 0 0 (MQ below (QI G r0 (wMod G am M0) A) ([.ref (am 0)] : List Value).toArray s 0 0 A) (F0 m 61 ls [.int y0, .int y1, .ref (am 1)]) := by
        intro x1 x2 y0 y1 M H locs hP hD hS ls hl hrun
        rw [p_X4_read_61] at hrun
        obtain ⟨N_17, e_18, hrun⟩ := bd hrun
        replace e_18 := stO_spec e_18
        refine va_iast hx hb hK hP hD hS 1 0 rfl rfl e_18.1 dX4_read_61 (fun H locs hP hD hS => ?_)
        replace hP : va_P G.1 vwCl (wMod G am N_17) H := by rw [← e_18.2]; exact hP
        replace hD : va_D A (wMod G am N_17) := by rw [← e_18.2]; exact hD
        refine lv_aload_n hx hb dX4_read_62 rfl (lv_at hl 0 rfl) ?_
        refine va_get (D := G.1) (ci := 4) (v := .ref (am 1)) (C := RX4) (T := TX4) (N := 12) hx hb hts iwX4 hown hK hP 0 rfl rfl 0 (by decide) ha1 (fun _ h9 => h9) rfl dX4_read_63 ?_
        refine lv_bipush (v := nI 60) hx hb dX4_read_66 (by decide) ?_
        refine lv_iload_n hx hb dX4_read_68 rfl (lv_at hl 1 rfl) ?_
        refine lv_iadd hx hb dX4_read_69 ?_
        refine lv_iload_n hx hb dX4_read_70 rfl (lv_at hl 2 rfl) ?_
        refine lv_if_le (tgt := 91) hx hb dX4_read_71 (by decide) (fun c_19 => ?_) (fun c_19 => ?_)
        · replace hrun := it_pos c_19 hrun
          exact kJ_91 x1 x2 ((nI 60) + x1) N_17 _ _ hP hD hS ls (lv_sub hl [0, 1, 2] rfl) hrun
        · replace hrun := it_neg c_19 hrun
          refine lv_aload_n hx hb dX4_read_74 rfl (lv_at hl 0 rfl) ?_
          refine va_get (D := G.1) (ci := 4) (v := .ref (am 4)) (C := RX4) (T := TX4) (N := 12) hx hb hts iwX4 hown hK hP 0 rfl rfl 3 (by decide) ha2 (fun _ h9 => h9) rfl dX4_read_75 ?_
          refine lv_iload_n hx hb dX4_read_78 rfl (lv_at hl 2 rfl) ?_
          refine lv_iconst (v := nI 1) hx hb dX4_read_79 (by decide) ?_
          refine lv_isub hx hb dX4_read_80 ?_
          obtain ⟨v_20, e_21, hrun⟩ := bd hrun
          refine y_ald hx hb hK hP 4 0 rfl rfl e_21 dX4_read_81 ?_
          refine lv_bipush (v := nI 47) hx hb dX4_read_82 (by decide) ?_
          refine lv_icmp_ne (tgt := 91) hx hb dX4_read_84 (by decide) (fun c_22 => ?_) (fun c_22 => ?_)
          · replace hrun := it_neg c_22 hrun
            exact kJ_91 x1 x2 ((nI 60) + x1) N_17 _ _ hP hD hS ls (lv_sub hl [0, 1, 2] rfl) hrun
          · replace hrun := it_pos c_22 hrun
            refine lv_iconst (v := nI 1) hx hb dX4_read_87 (by decide) ?_
            refine lv_goto (tgt := 92) hx hb dX4_read_88 (by decide) ?_
            exact kJ_92 x1 x2 (nI 1) ((nI 60) + x1) N_17 _ _ hP hD hS ls (lv_sub hl [0, 1, 2] rfl) hrun
      intro x1 x2 M H locs hP hD hS ls hl hrun
      rw [p_X4_read_14] at hrun
      refine lv_iload_n hx hb dX4_read_14 rfl (lv_at hl 2 rfl) ?_
      refine lv_aload_n hx hb dX4_read_15 rfl (lv_at hl 0 rfl) ?_
      refine va_get (D := G.1) (ci := 4) (v := .int (M 4 0)) (C := RX4) (T := TX4) (N := 12) hx hb hts iwX4 hown hK hP 0 rfl rfl 4 (by decide) ha0 (fun _ h9 => h9) rfl dX4_read_16 ?_
      refine lv_icmp_ge (tgt := 102) hx hb dX4_read_19 (by decide) (fun c_4 => ?_) (fun c_4 => ?_)
      · replace hrun := it_pos c_4 hrun
        refine lv_aload_n hx hb dX4_read_102 rfl (lv_at hl 0 rfl) ?_
        refine va_get (D := G.1) (ci := 4) (v := .ref (am 1)) (C := RX4) (T := TX4) (N := 12) hx hb hts iwX4 hown hK hP 0 rfl rfl 0 (by decide) ha1 (fun _ h9 => h9) rfl dX4_read_103 ?_
        refine lv_bipush (v := nI 120) hx hb dX4_read_106 (by decide) ?_
        refine lv_iload_n hx hb dX4_read_108 rfl (lv_at hl 1 rfl) ?_
        obtain ⟨N_5, e_6, hrun⟩ := bd hrun
        replace e_6 := stO_spec e_6
        refine va_iast hx hb hK hP hD hS 1 0 rfl rfl e_6.1 dX4_read_109 (fun H locs hP hD hS => ?_)
        replace hP : va_P G.1 vwCl (wMod G am N_5) H := by rw [← e_6.2]; exact hP
        replace hD : va_D A (wMod G am N_5) := by rw [← e_6.2]; exact hD
        refine lv_aload_n hx hb dX4_read_110 rfl (lv_at hl 0 rfl) ?_
        refine lv_iconst (v := nI 0) hx hb dX4_read_111 (by decide) ?_
        obtain ⟨M_7, e_8, hrun⟩ := bd hrun
        replace e_8 := si e_8
        refine va_put (D := G.1) (ci := 4) (v := .int (nI 0)) (ty := .int) (C := RX4) (T := TX4) (N := 12) hx hb hts iwX4 tyX4 tyX4_ok nmX4 hown hK hP hD hS 0 rfl rfl 4 (by decide) ha0 (fun _ h9 => h9) rfl (by decide +kernel) rfl rfl (Nat.le_of_ble_eq_true rfl) dX4_read_112 (fun H locs hP hD hS => ?_)
        replace hP : va_P G.1 vwCl (wMod G am M_7) H := by rw [← e_8]; exact hP
        replace hD : va_D A (wMod G am M_7) := by rw [← e_8]; exact hD
        refine lv_iload_n hx hb dX4_read_115 rfl (lv_at hl 1 rfl) ?_
        obtain ⟨hr1, hr2⟩ := si2 hrun
        exact W.iret (v := x1) hx hb hr (fun t ht hW => ⟨⟨x1, (), rfl, hr1, by rw [ht, ← hr2]; exact hP, by rw [← hr2]; exact hD⟩, hS.F ht⟩) hS.2.2 dX4_read_116
      · replace hrun := it_neg c_4 hrun
        refine lv_aload_n hx hb dX4_read_22 rfl (lv_at hl 0 rfl) ?_
        refine va_get (D := G.1) (ci := 4) (v := .ref (am 4)) (C := RX4) (T := TX4) (N := 12) hx hb hts iwX4 hown hK hP 0 rfl rfl 3 (by decide) ha2 (fun _ h9 => h9) rfl dX4_read_23 ?_
        refine lv_iload_n hx hb dX4_read_26 rfl (lv_at hl 2 rfl) ?_
        obtain ⟨v_9, e_10, hrun⟩ := bd hrun
        refine y_ald hx hb hK hP 4 0 rfl rfl e_10 dX4_read_27 ?_
        refine lv_bipush (v := nI 47) hx hb dX4_read_28 (by decide) ?_
        refine lv_icmp_eq (tgt := 96) hx hb dX4_read_30 (by decide) (fun c_11 => ?_) (fun c_11 => ?_)
        · replace hrun := it_pos c_11 hrun
          exact kJ_96 x1 x2 M _ _ hP hD hS ls (lv_sub hl [0, 1, 2] rfl) hrun
        · replace hrun := it_neg c_11 hrun
          refine lv_aload_n hx hb dX4_read_33 rfl (lv_at hl 0 rfl) ?_
          refine va_get (D := G.1) (ci := 4) (v := .ref (am 1)) (C := RX4) (T := TX4) (N := 12) hx hb hts iwX4 hown hK hP 0 rfl rfl 0 (by decide) ha1 (fun _ h9 => h9) rfl dX4_read_34 ?_
          refine lv_iconst (v := nI 0) hx hb dX4_read_37 (by decide) ?_
          refine lv_iload_n hx hb dX4_read_38 rfl (lv_at hl 1 rfl) ?_
          refine lv_iadd hx hb dX4_read_39 ?_
          refine lv_aload_n hx hb dX4_read_40 rfl (lv_at hl 0 rfl) ?_
          refine va_get (D := G.1) (ci := 4) (v := .ref (am 4)) (C := RX4) (T := TX4) (N := 12) hx hb hts iwX4 hown hK hP 0 rfl rfl 3 (by decide) ha2 (fun _ h9 => h9) rfl dX4_read_41 ?_
          refine lv_iload_n hx hb dX4_read_44 rfl (lv_at hl 2 rfl) ?_
          obtain ⟨v_12, e_13, hrun⟩ := bd hrun
          refine y_ald hx hb hK hP 4 0 rfl rfl e_13 dX4_read_45 ?_
          refine lv_bipush (v := nI 46) hx hb dX4_read_46 (by decide) ?_
          refine lv_icmp_ne (tgt := 55) hx hb dX4_read_48 (by decide) (fun c_14 => ?_) (fun c_14 => ?_)
          · replace hrun := it_neg c_14 hrun
            refine lv_aload_n hx hb dX4_read_55 rfl (lv_at hl 0 rfl) ?_
            refine va_get (D := G.1) (ci := 4) (v := .ref (am 4)) (C := RX4) (T := TX4) (N := 12) hx hb hts iwX4 hown hK hP 0 rfl rfl 3 (by decide) ha2 (fun _ h9 => h9) rfl dX4_read_56 ?_
            refine lv_iload_n hx hb dX4_read_59 rfl (lv_at hl 2 rfl) ?_
            obtain ⟨v_15, e_16, hrun⟩ := bd hrun
            refine y_ald hx hb hK hP 4 0 rfl rfl e_16 dX4_read_60 ?_
            exact kJ_61 x1 x2 v_15 ((nI 0) + x1) M _ _ hP hD hS ls (lv_sub hl [0, 1, 2] rfl) hrun
          · replace hrun := it_pos c_14 hrun
            refine lv_iconst (v := nI 0) hx hb dX4_read_51 (by decide) ?_
            refine lv_goto (tgt := 61) hx hb dX4_read_52 (by decide) ?_
            exact kJ_61 x1 x2 (nI 0) ((nI 0) + x1) M _ _ hP hD hS ls (lv_sub hl [0, 1, 2] rfl) hrun
  have hl := lv_entry [.ref (am 0)] (n := 3) (Nat.le_of_ble_eq_true rfl)
  rw [lg_entry_eq]
  generalize (lg_sl [.ref (am 0)] ++ List.replicate (3 - (lg_sl [.ref (am 0)]).length) Slot.unset).toArray = ls at hl ⊢
  have hl : lv_has ls 3 [(0, .ref (am 0))] := hl
  rw [p_X4_read] at hrun
  refine lv_aload_n hx hb dX4_read_0 rfl (lv_at hl 0 rfl) ?_
  obtain ⟨v_1, e_2, hrun⟩ := bd hrun
  refine y_ro (va_runV (As := []) (rest := []) ⟨hx, hb, hml, hown, hts⟩ (c_X4_fault l G am M  v_1 e_2) (cwV 0 hts gX4_read_X4_fault rfl rfl rfl (by decide +kernel) ⟨Nat.le_of_ble_eq_true rfl, Nat.le_of_ble_eq_true rfl⟩) ⟨PreR.blind, va_recv hK hP (ci := 4) (q0 := 0) rfl rfl, y_preR hC hP⟩ rfl rfl hl.1 rfl (lv_room (Nat.le_of_ble_eq_true rfl)) dX4_read_1 ⟨Nat.zero_le _, Nat.zero_le _⟩) ?_
  refine lv_if_lt (tgt := 10) hx hb dX4_read_4 (by decide) (fun c_3 => ?_) (fun c_3 => ?_)
  · replace hrun := it_pos c_3 hrun
    refine lv_iconst (v := nI 0) hx hb dX4_read_10 (by decide) ?_
    refine lv_istore_n (lv' := [(1, .int (nI 0)), (0, .ref (am 0))]) hx hb dX4_read_11 rfl hl (by decide) rfl (fun ls hl => ?_)
    refine lv_iconst (v := nI 0) hx hb dX4_read_12 (by decide) ?_
    refine lv_istore_n (lv' := [(2, .int (nI 0)), (1, .int (nI 0)), (0, .ref (am 0))]) hx hb dX4_read_13 rfl hl (by decide) rfl (fun ls hl => ?_)
    exact kH_14 200 (nI 0) (nI 0) M _ _ hP hD hS ls (lv_sub hl [2, 1, 0] rfl) hrun
  · replace hrun := it_neg c_3 hrun
    refine lv_bipush (v := -7) hx hb dX4_read_7 (by decide) ?_
    obtain ⟨hr1, hr2⟩ := si2 hrun
    exact W.iret (v := (-7)) hx hb hr (fun t ht hW => ⟨⟨(-7), (), rfl, hr1, by rw [ht, ← hr2]; exact hP, by rw [← hr2]; exact hD⟩, hS.F ht⟩) hS.2.2 dX4_read_9
def p_X4_rule_62  (x1 : Int32) (x2 : Int32) (M : Ob) : Option (Int32 × Ob) := ((ldI (M 0) 130 ((nI 121) + x1)).bind fun v_21 => ((stO M 0 130 ((nI 121) + x1) x2).bind fun N_23 => (some (v_21, N_23))))
def p_X4_rule_43  (x1 : Int32) (x2 : Int32) (M : Ob) : Option (Int32 × Ob) := (if x1 = (nI 2) then ((ldI (M 0) 130 (nI 121)).bind fun v_18 => (if x2 < v_18 then p_X4_rule_62 x1 x2 M else (some ((-2), M)))) else p_X4_rule_62 x1 x2 M)
def p_X4_rule  (u1 : Int32) (u2 : Int32) (M : Ob) : Option (Int32 × Ob) := ((p_X4_in u1 (nI 0) (nI 8)).bind fun v_1 => (if v_1 = nI 0 then (some ((-2), M)) else ((p_X4_least u1).bind fun v_5 => ((p_X4_most u1).bind fun v_7 => ((p_X4_in u2 v_5 v_7).bind fun v_9 => (if v_9 = nI 0 then (some ((-2), M)) else (if u1 = nI 0 then ((ldI (M 0) 130 (nI 123)).bind fun v_14 => (if u2 ≤ v_14 then (some ((-2), M)) else p_X4_rule_43 u1 u2 M)) else p_X4_rule_43 u1 u2 M)))))))
abbrev rmX4_rule : Room := { frames := 1, cells := 0, slots := 0, locals := 22 }
set_option maxHeartbeats 4000000 in
set_option maxRecDepth 100000 in
theorem c_X4_rule (l : Launch) (G : GT) (am : Nat → Nat) (M : Ob) (u1 u2 : Int32) (sz : Nat) (r0 : Int32) (M0 : Ob) (hrun : p_X4_rule u1 u2 M = some (r0, M0)) : Met l yX4_rule wsX4_rule rmX4_rule (PreW G [.ref (am 0), .int u1, .int u2] (wMod G am M) sz) (QI G r0 (wMod G am M0) (va_A (wMod G am M) sz)) 0 0 (va_A (wMod G am M) sz) := by
  refine Met.ofW (cc := cX4_rule) (maxL := 4) (ret := (some .int)) (by decide) rfl ?_
  intro p e s m args below meth c s₁ Bd hml hv
  obtain ⟨rfl, hsz, hP, hC, hD0⟩ := hv
  have hx := Bd.exec
  have hb := Bd.bytes
  have hr := Bd.returns
  have hts := atoms_spec (ws := wsX4_rule) Bd.pre
  have hown : s.vm.findClass RX4 = some m.cls := findClass_of_methodNamed Bd.named
  have hlocks := Bd.notSynchronized
  have hK := hC.1
  have iwX4 : ∀ w ∈ wsX40, w ∈ wsX4_rule := by decide +kernel
  have ha0 := hts (.fieldLink RX4 7 "HeadMarksModel" "state" "[I") (by decide +kernel)
  subst hsz
  have hD := hD0.self (sz := s.heap.size)
  generalize hAe : va_A (wMod G am M) s.heap.size = A at hD ⊢
  have hA : ∀ q : Nat, s.heap.size ≤ q → A q := fun q h => by rw [← hAe]; exact Or.inr h
  have hS : va_S A s.heap s.heap [] := va_S.rf
  have kJ_62 : ∀ (x1 x2 : Int32) (M : Ob) , ∀ (H : Heap) (locs : List Loc), va_P G.1 vwCl (wMod G am M) H → va_D A (wMod G am M) → va_S A s.heap H locs → ∀ (ls : Array Slot), lv_has ls 4 [(0, .ref (am 0)), (1, .int x1), (2, .int x2)] → p_X4_rule_62 x1 x2 M = some (r0, M0) → W p l e (headSpec wsX4_rule rmX4_rule).room s m ([.ref (am 0), .int u1, .int u2] : List Value).toArray below meth c H locs 0 0 (MQ below (QI G r0 (wMod G am M0) A) ([.ref (am 0), .int u1, .int u2] : List Value).toArray s 0 0 A) (F0 m 62 ls []) := by
    intro x1 x2 M H locs hP hD hS ls hl hrun
    rw [p_X4_rule_62] at hrun
    refine lv_aload_n hx hb dX4_rule_62 rfl (lv_at hl 0 rfl) ?_
    refine va_get (D := G.1) (ci := 4) (v := .ref (am 1)) (C := RX4) (T := TX4) (N := 12) hx hb hts iwX4 hown hK hP 0 rfl rfl 0 (by decide) ha0 (fun _ h9 => h9) rfl dX4_rule_63 ?_
    refine lv_bipush (v := nI 121) hx hb dX4_rule_66 (by decide) ?_
    refine lv_iload_n hx hb dX4_rule_68 rfl (lv_at hl 1 rfl) ?_
    refine lv_iadd hx hb dX4_rule_69 ?_
    obtain ⟨v_21, e_22, hrun⟩ := bd hrun
    refine y_ald hx hb hK hP 1 0 rfl rfl e_22 dX4_rule_70 ?_
    refine lv_istore_n (lv' := [(3, .int v_21), (0, .ref (am 0)), (1, .int x1), (2, .int x2)]) hx hb dX4_rule_71 rfl hl (by decide) rfl (fun ls hl => ?_)
    refine lv_aload_n hx hb dX4_rule_72 rfl (lv_at hl 1 rfl) ?_
    refine va_get (D := G.1) (ci := 4) (v := .ref (am 1)) (C := RX4) (T := TX4) (N := 12) hx hb hts iwX4 hown hK hP 0 rfl rfl 0 (by decide) ha0 (fun _ h9 => h9) rfl dX4_rule_73 ?_
    refine lv_bipush (v := nI 121) hx hb dX4_rule_76 (by decide) ?_
    refine lv_iload_n hx hb dX4_rule_78 rfl (lv_at hl 2 rfl) ?_
    refine lv_iadd hx hb dX4_rule_79 ?_
    refine lv_iload_n hx hb dX4_rule_80 rfl (lv_at hl 3 rfl) ?_
    obtain ⟨N_23, e_24, hrun⟩ := bd hrun
    replace e_24 := stO_spec e_24
    refine va_iast hx hb hK hP hD hS 1 0 rfl rfl e_24.1 dX4_rule_81 (fun H locs hP hD hS => ?_)
    replace hP : va_P G.1 vwCl (wMod G am N_23) H := by rw [← e_24.2]; exact hP
    replace hD : va_D A (wMod G am N_23) := by rw [← e_24.2]; exact hD
    refine lv_iload_n hx hb dX4_rule_82 rfl (lv_at hl 0 rfl) ?_
    obtain ⟨hr1, hr2⟩ := si2 hrun
    exact W.iret (v := v_21) hx hb hr (fun t ht hW => ⟨⟨v_21, (), rfl, hr1, by rw [ht, ← hr2]; exact hP, by rw [← hr2]; exact hD⟩, hS.F ht⟩) hS.2.2 dX4_rule_83
  have kJ_43 : ∀ (x1 x2 : Int32) (M : Ob) , ∀ (H : Heap) (locs : List Loc), va_P G.1 vwCl (wMod G am M) H → va_D A (wMod G am M) → va_S A s.heap H locs → ∀ (ls : Array Slot), lv_has ls 4 [(0, .ref (am 0)), (1, .int x1), (2, .int x2)] → p_X4_rule_43 x1 x2 M = some (r0, M0) → W p l e (headSpec wsX4_rule rmX4_rule).room s m ([.ref (am 0), .int u1, .int u2] : List Value).toArray below meth c H locs 0 0 (MQ below (QI G r0 (wMod G am M0) A) ([.ref (am 0), .int u1, .int u2] : List Value).toArray s 0 0 A) (F0 m 43 ls []) := by
    intro x1 x2 M H locs hP hD hS ls hl hrun
    rw [p_X4_rule_43] at hrun
    refine lv_iload_n hx hb dX4_rule_43 rfl (lv_at hl 1 rfl) ?_
    refine lv_iconst (v := nI 2) hx hb dX4_rule_44 (by decide) ?_
    refine lv_icmp_ne (tgt := 62) hx hb dX4_rule_45 (by decide) (fun c_17 => ?_) (fun c_17 => ?_)
    · replace hrun := it_neg c_17 hrun
      exact kJ_62 x1 x2 M _ _ hP hD hS ls (lv_sub hl [0, 1, 2] rfl) hrun
    · replace hrun := it_pos c_17 hrun
      refine lv_iload_n hx hb dX4_rule_48 rfl (lv_at hl 2 rfl) ?_
      refine lv_aload_n hx hb dX4_rule_49 rfl (lv_at hl 0 rfl) ?_
      refine va_get (D := G.1) (ci := 4) (v := .ref (am 1)) (C := RX4) (T := TX4) (N := 12) hx hb hts iwX4 hown hK hP 0 rfl rfl 0 (by decide) ha0 (fun _ h9 => h9) rfl dX4_rule_50 ?_
      refine lv_bipush (v := nI 121) hx hb dX4_rule_53 (by decide) ?_
      obtain ⟨v_18, e_19, hrun⟩ := bd hrun
      refine y_ald hx hb hK hP 1 0 rfl rfl e_19 dX4_rule_55 ?_
      refine lv_icmp_lt (tgt := 62) hx hb dX4_rule_56 (by decide) (fun c_20 => ?_) (fun c_20 => ?_)
      · replace hrun := it_pos c_20 hrun
        exact kJ_62 x1 x2 M _ _ hP hD hS ls (lv_sub hl [0, 1, 2] rfl) hrun
      · replace hrun := it_neg c_20 hrun
        refine lv_bipush (v := -2) hx hb dX4_rule_59 (by decide) ?_
        obtain ⟨hr1, hr2⟩ := si2 hrun
        exact W.iret (v := (-2)) hx hb hr (fun t ht hW => ⟨⟨(-2), (), rfl, hr1, by rw [ht, ← hr2]; exact hP, by rw [← hr2]; exact hD⟩, hS.F ht⟩) hS.2.2 dX4_rule_61
  have hl := lv_entry [.ref (am 0), .int u1, .int u2] (n := 4) (Nat.le_of_ble_eq_true rfl)
  rw [lg_entry_eq]
  generalize (lg_sl [.ref (am 0), .int u1, .int u2] ++ List.replicate (4 - (lg_sl [.ref (am 0), .int u1, .int u2]).length) Slot.unset).toArray = ls at hl ⊢
  have hl : lv_has ls 4 [(0, .ref (am 0)), (1, .int u1), (2, .int u2)] := hl
  rw [p_X4_rule] at hrun
  refine lv_iload_n hx hb dX4_rule_0 rfl (lv_at hl 1 rfl) ?_
  refine lv_iconst (v := nI 0) hx hb dX4_rule_1 (by decide) ?_
  refine lv_bipush (v := nI 8) hx hb dX4_rule_2 (by decide) ?_
  obtain ⟨v_1, e_2, hrun⟩ := bd hrun
  refine y_roz (va_runS (As := [.int u1, .int (nI 0), .int (nI 8)]) (rest := []) ⟨hx, hb, hml, hown, hts⟩ (c_X4_in l G   u1 (nI 0) (nI 8) v_1 e_2) (cwS 3 hts gX4_rule_X4_in rfl rfl rfl (by decide +kernel) ⟨Nat.le_of_ble_eq_true rfl, Nat.le_of_ble_eq_true rfl⟩) ⟨PreR.blind, y_preR hC (fun _ _ h => by cases h)⟩ rfl rfl hl.1 rfl (lv_room (Nat.le_of_ble_eq_true rfl)) dX4_rule_4 ⟨Nat.zero_le _, Nat.zero_le _⟩) (fun z_3 => ?_)
  refine lv_if_eq (tgt := 25) hx hb dX4_rule_7 (by decide) (fun c_4 => ?_) (fun c_4 => ?_)
  · replace hrun := it_pos c_4 hrun
    refine lv_bipush (v := -2) hx hb dX4_rule_25 (by decide) ?_
    obtain ⟨hr1, hr2⟩ := si2 hrun
    exact W.iret (v := (-2)) hx hb hr (fun t ht hW => ⟨⟨(-2), (), rfl, hr1, by rw [ht, ← hr2]; exact hP, by rw [← hr2]; exact hD⟩, hS.F ht⟩) hS.2.2 dX4_rule_27
  · replace hrun := it_neg c_4 hrun
    refine lv_iload_n hx hb dX4_rule_10 rfl (lv_at hl 2 rfl) ?_
    refine lv_iload_n hx hb dX4_rule_11 rfl (lv_at hl 1 rfl) ?_
    obtain ⟨v_5, e_6, hrun⟩ := bd hrun
    refine y_ro (va_runS (As := [.int u1]) (rest := [.int u2]) ⟨hx, hb, hml, hown, hts⟩ (c_X4_least l G   u1 v_5 e_6) (cwS 1 hts gX4_rule_X4_least rfl rfl rfl (by decide +kernel) ⟨Nat.le_of_ble_eq_true rfl, Nat.le_of_ble_eq_true rfl⟩) ⟨PreR.blind, y_preR hC (fun _ _ h => by cases h)⟩ rfl rfl hl.1 rfl (lv_room (Nat.le_of_ble_eq_true rfl)) dX4_rule_12 ⟨Nat.zero_le _, Nat.zero_le _⟩) ?_
    refine lv_iload_n hx hb dX4_rule_15 rfl (lv_at hl 1 rfl) ?_
    obtain ⟨v_7, e_8, hrun⟩ := bd hrun
    refine y_ro (va_runS (As := [.int u1]) (rest := [.int v_5, .int u2]) ⟨hx, hb, hml, hown, hts⟩ (c_X4_most l G   u1 v_7 e_8) (cwS 1 hts gX4_rule_X4_most rfl rfl rfl (by decide +kernel) ⟨Nat.le_of_ble_eq_true rfl, Nat.le_of_ble_eq_true rfl⟩) ⟨PreR.blind, y_preR hC (fun _ _ h => by cases h)⟩ rfl rfl hl.1 rfl (lv_room (Nat.le_of_ble_eq_true rfl)) dX4_rule_16 ⟨Nat.zero_le _, Nat.zero_le _⟩) ?_
    obtain ⟨v_9, e_10, hrun⟩ := bd hrun
    refine y_roz (va_runS (As := [.int u2, .int v_5, .int v_7]) (rest := []) ⟨hx, hb, hml, hown, hts⟩ (c_X4_in l G   u2 v_5 v_7 v_9 e_10) (cwS 3 hts gX4_rule_X4_in rfl rfl rfl (by decide +kernel) ⟨Nat.le_of_ble_eq_true rfl, Nat.le_of_ble_eq_true rfl⟩) ⟨PreR.blind, y_preR hC (fun _ _ h => by cases h)⟩ rfl rfl hl.1 rfl (lv_room (Nat.le_of_ble_eq_true rfl)) dX4_rule_19 ⟨Nat.zero_le _, Nat.zero_le _⟩) (fun z_11 => ?_)
    refine lv_if_ne (tgt := 28) hx hb dX4_rule_22 (by decide) (fun c_12 => ?_) (fun c_12 => ?_)
    · replace hrun := it_neg c_12 hrun
      refine lv_iload_n hx hb dX4_rule_28 rfl (lv_at hl 1 rfl) ?_
      refine lv_if_ne (tgt := 43) hx hb dX4_rule_29 (by decide) (fun c_13 => ?_) (fun c_13 => ?_)
      · replace hrun := it_neg c_13 hrun
        exact kJ_43 u1 u2 M _ _ hP hD hS ls (lv_sub hl [0, 1, 2] rfl) hrun
      · replace hrun := it_pos c_13 hrun
        refine lv_iload_n hx hb dX4_rule_32 rfl (lv_at hl 2 rfl) ?_
        refine lv_aload_n hx hb dX4_rule_33 rfl (lv_at hl 0 rfl) ?_
        refine va_get (D := G.1) (ci := 4) (v := .ref (am 1)) (C := RX4) (T := TX4) (N := 12) hx hb hts iwX4 hown hK hP 0 rfl rfl 0 (by decide) ha0 (fun _ h9 => h9) rfl dX4_rule_34 ?_
        refine lv_bipush (v := nI 123) hx hb dX4_rule_37 (by decide) ?_
        obtain ⟨v_14, e_15, hrun⟩ := bd hrun
        refine y_ald hx hb hK hP 1 0 rfl rfl e_15 dX4_rule_39 ?_
        refine lv_icmp_le (tgt := 59) hx hb dX4_rule_40 (by decide) (fun c_16 => ?_) (fun c_16 => ?_)
        · replace hrun := it_pos c_16 hrun
          refine lv_bipush (v := -2) hx hb dX4_rule_59 (by decide) ?_
          obtain ⟨hr1, hr2⟩ := si2 hrun
          exact W.iret (v := (-2)) hx hb hr (fun t ht hW => ⟨⟨(-2), (), rfl, hr1, by rw [ht, ← hr2]; exact hP, by rw [← hr2]; exact hD⟩, hS.F ht⟩) hS.2.2 dX4_rule_61
        · replace hrun := it_neg c_16 hrun
          exact kJ_43 u1 u2 M _ _ hP hD hS ls (lv_sub hl [0, 1, 2] rfl) hrun
    · replace hrun := it_pos c_12 hrun
      refine lv_bipush (v := -2) hx hb dX4_rule_25 (by decide) ?_
      obtain ⟨hr1, hr2⟩ := si2 hrun
      exact W.iret (v := (-2)) hx hb hr (fun t ht hW => ⟨⟨(-2), (), rfl, hr1, by rw [ht, ← hr2]; exact hP, by rw [← hr2]; exact hD⟩, hS.F ht⟩) hS.2.2 dX4_rule_27
