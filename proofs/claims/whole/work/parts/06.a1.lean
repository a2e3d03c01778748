def p_X3_classOf_14  (x0 : Int32)  : Option (Int32) := (if x0 < (nI 97) then (some (-6)) else (if (nI 104) < x0 then (some (-6)) else (some (nI 1))))
def p_X3_classOf  (u0 : Int32)  : Option (Int32) := (if u0 < (nI 65) then p_X3_classOf_14 u0 else (if (nI 72) < u0 then p_X3_classOf_14 u0 else (some (nI 0))))
abbrev rmX3_classOf : Room := { frames := 0, cells := 0, slots := 0, locals := 0 }
set_option maxHeartbeats 4000000 in
set_option maxRecDepth 100000 in
theorem c_X3_classOf (l : Launch) (G : GT) (u0 : Int32) (r0 : Int32) (hrun : p_X3_classOf u0 = some r0) : Met l yX3_classOf wsX3_classOf rmX3_classOf (PreR G [.int u0] ([])) (Ri r0) 0 0 (fun _ => False) := by
  refine Met.ofW (cc := cX3_classOf) (maxL := 1) (ret := (some .int)) (by decide) rfl ?_
  intro p e s m args below meth c s₁ Bd hml hv
  obtain ⟨rfl, hP, hC⟩ := hv
  have hx := Bd.exec
  have hb := Bd.bytes
  have hr := Bd.returns
  have hts := atoms_spec (ws := wsX3_classOf) Bd.pre
  have hown : s.vm.findClass RX3 = some m.cls := findClass_of_methodNamed Bd.named
  have hlocks := Bd.notSynchronized
  have hK := hC.1
  have kJ_14 : ∀ (x0 : Int32) , ∀ (ls : Array Slot), lv_has ls 1 [(0, .int x0)] → p_X3_classOf_14 x0 = some r0 → W p l e (headSpec wsX3_classOf rmX3_classOf).room s m ([.int u0] : List Value).toArray below meth c s.heap [] 0 0 (MQ below (Ri r0) ([.int u0] : List Value).toArray s 0 0 (fun _ => False)) (F0 m 14 ls []) := by
    intro x0 ls hl hrun
    rw [p_X3_classOf_14] at hrun
    refine lv_iload_n hx hb dX3_classOf_14 rfl (lv_at hl 0 rfl) ?_
    refine lv_bipush (v := nI 97) hx hb dX3_classOf_15 (by decide) ?_
    refine lv_icmp_lt (tgt := 30) hx hb dX3_classOf_17 (by decide) (fun c_3 => ?_) (fun c_3 => ?_)
    · replace hrun := it_pos c_3 hrun
      refine lv_bipush (v := -6) hx hb dX3_classOf_30 (by decide) ?_
      exact W.iret (v := (-6)) hx hb hr (fun t ht hW => ⟨(-6), rfl, si hrun, ht⟩) (fun _ h => absurd h List.not_mem_nil) dX3_classOf_32
    · replace hrun := it_neg c_3 hrun
      refine lv_iload_n hx hb dX3_classOf_20 rfl (lv_at hl 0 rfl) ?_
      refine lv_bipush (v := nI 104) hx hb dX3_classOf_21 (by decide) ?_
      refine lv_icmp_gt (tgt := 30) hx hb dX3_classOf_23 (by decide) (fun c_4 => ?_) (fun c_4 => ?_)
      · replace hrun := it_pos c_4 hrun
        refine lv_bipush (v := -6) hx hb dX3_classOf_30 (by decide) ?_
        exact W.iret (v := (-6)) hx hb hr (fun t ht hW => ⟨(-6), rfl, si hrun, ht⟩) (fun _ h => absurd h List.not_mem_nil) dX3_classOf_32
      · replace hrun := it_neg c_4 hrun
        refine lv_iconst (v := nI 1) hx hb dX3_classOf_26 (by decide) ?_
        refine lv_goto (tgt := 32) hx hb dX3_classOf_27 (by decide) ?_
        exact W.iret (v := (nI 1)) hx hb hr (fun t ht hW => ⟨(nI 1), rfl, si hrun, ht⟩) (fun _ h => absurd h List.not_mem_nil) dX3_classOf_32
  have hl := lv_entry [.int u0] (n := 1) (Nat.le_of_ble_eq_true rfl)
  rw [lg_entry_eq]
  generalize (lg_sl [.int u0] ++ List.replicate (1 - (lg_sl [.int u0]).length) Slot.unset).toArray = ls at hl ⊢
  have hl : lv_has ls 1 [(0, .int u0)] := hl
  rw [p_X3_classOf] at hrun
  refine lv_iload_n hx hb dX3_classOf_0 rfl (lv_at hl 0 rfl) ?_
  refine lv_bipush (v := nI 65) hx hb dX3_classOf_1 (by decide) ?_
  refine lv_icmp_lt (tgt := 14) hx hb dX3_classOf_3 (by decide) (fun c_1 => ?_) (fun c_1 => ?_)
  · replace hrun := it_pos c_1 hrun
    exact kJ_14 u0  ls (lv_sub hl [0] rfl) hrun
  · replace hrun := it_neg c_1 hrun
    refine lv_iload_n hx hb dX3_classOf_6 rfl (lv_at hl 0 rfl) ?_
    refine lv_bipush (v := nI 72) hx hb dX3_classOf_7 (by decide) ?_
    refine lv_icmp_gt (tgt := 14) hx hb dX3_classOf_9 (by decide) (fun c_2 => ?_) (fun c_2 => ?_)
    · replace hrun := it_pos c_2 hrun
      exact kJ_14 u0  ls (lv_sub hl [0] rfl) hrun
    · replace hrun := it_neg c_2 hrun
      refine lv_iconst (v := nI 0) hx hb dX3_classOf_12 (by decide) ?_
      exact W.iret (v := (nI 0)) hx hb hr (fun t ht hW => ⟨(nI 0), rfl, si hrun, ht⟩) (fun _ h => absurd h List.not_mem_nil) dX3_classOf_13
def p_X2_append  (u1 : Int32) (P : Ob) : Option (Ob) := (if (nI 60) ≤ (P 1 0) then (some P) else ((stO P 0 60 (P 1 0) u1).bind fun N_2 => ((some (puO N_2 1 ((N_2 1 0) + (nI 1)))).bind fun P_4 => (some P_4))))
abbrev rmX2_append : Room := { frames := 0, cells := 0, slots := 0, locals := 0 }
set_option maxHeartbeats 4000000 in
set_option maxRecDepth 100000 in
theorem c_X2_append (l : Launch) (G : GT) (ap : Nat → Nat) (P : Ob) (u1 : Int32) (sz : Nat) (P0 : Ob) (hrun : p_X2_append u1 P = some P0) : Met l yX2_append wsX2_append rmX2_append (PreW G [.ref (ap 0), .int u1] (wPad G ap P) sz) (QV G (wPad G ap P0) (va_A (wPad G ap P) sz)) 0 0 (va_A (wPad G ap P) sz) := by
  refine Met.ofW (cc := cX2_append) (maxL := 2) (ret := none) (by decide) rfl ?_
  intro p e s m args below meth c s₁ Bd hml hv
  obtain ⟨rfl, hsz, hP, hC, hD0⟩ := hv
  have hx := Bd.exec
  have hb := Bd.bytes
  have hr := Bd.returns
  have hts := atoms_spec (ws := wsX2_append) Bd.pre
  have hown : s.vm.findClass RX2 = some m.cls := findClass_of_methodNamed Bd.named
  have hlocks := Bd.notSynchronized
  have hK := hC.1
  have iwX2 : ∀ w ∈ wsX20, w ∈ wsX2_append := by decide +kernel
  have ha0 := hts (.fieldLink RX2 15 "HeadMarks$Pad" "size" "I") (by decide +kernel)
  have ha1 := hts (.fieldLink RX2 9 "HeadMarks$Pad" "signs" "[I") (by decide +kernel)
  subst hsz
  have hD := hD0.self (sz := s.heap.size)
  generalize hAe : va_A (wPad G ap P) s.heap.size = A at hD ⊢
  have hA : ∀ q : Nat, s.heap.size ≤ q → A q := fun q h => by rw [← hAe]; exact Or.inr h
  have hS : va_S A s.heap s.heap [] := va_S.rf
  have hl := lv_entry [.ref (ap 0), .int u1] (n := 2) (Nat.le_of_ble_eq_true rfl)
  rw [lg_entry_eq]
  generalize (lg_sl [.ref (ap 0), .int u1] ++ List.replicate (2 - (lg_sl [.ref (ap 0), .int u1]).length) Slot.unset).toArray = ls at hl ⊢
  have hl : lv_has ls 2 [(0, .ref (ap 0)), (1, .int u1)] := hl
  rw [p_X2_append] at hrun
  refine lv_aload_n hx hb dX2_append_0 rfl (lv_at hl 0 rfl) ?_
  refine va_get (D := G.1) (ci := 2) (v := .int (P 1 0)) (C := RX2) (T := TX2) (N := 2) hx hb hts iwX2 hown hK hP 0 rfl rfl 1 (by decide) ha0 (fun _ h9 => h9) rfl dX2_append_1 ?_
  refine lv_bipush (v := nI 60) hx hb dX2_append_4 (by decide) ?_
  refine lv_icmp_ge (tgt := 29) hx hb dX2_append_6 (by decide) (fun c_1 => ?_) (fun c_1 => ?_)
  · replace hrun := it_pos c_1 hrun
    have hr2 := si hrun
    exact W.vret hx hb hr (fun t ht hW => ⟨⟨(), rfl, trivial, by rw [ht, ← hr2]; exact hP, by rw [← hr2]; exact hD⟩, hS.F ht⟩) hS.2.2 dX2_append_29
  · replace hrun := it_neg c_1 hrun
    refine lv_aload_n hx hb dX2_append_9 rfl (lv_at hl 0 rfl) ?_
    refine va_get (D := G.1) (ci := 2) (v := .ref (ap 1)) (C := RX2) (T := TX2) (N := 2) hx hb hts iwX2 hown hK hP 0 rfl rfl 0 (by decide) ha1 (fun _ h9 => h9) rfl dX2_append_10 ?_
    refine lv_aload_n hx hb dX2_append_13 rfl (lv_at hl 0 rfl) ?_
    refine va_get (D := G.1) (ci := 2) (v := .int (P 1 0)) (C := RX2) (T := TX2) (N := 2) hx hb hts iwX2 hown hK hP 0 rfl rfl 1 (by decide) ha0 (fun _ h9 => h9) rfl dX2_append_14 ?_
    refine lv_iload_n hx hb dX2_append_17 rfl (lv_at hl 1 rfl) ?_
    obtain ⟨N_2, e_3, hrun⟩ := bd hrun
    replace e_3 := stO_spec e_3
    refine va_iast hx hb hK hP hD hS 1 0 rfl rfl e_3.1 dX2_append_18 (fun H locs hP hD hS => ?_)
    replace hP : va_P G.1 vwCl (wPad G ap N_2) H := by rw [← e_3.2]; exact hP
    replace hD : va_D A (wPad G ap N_2) := by rw [← e_3.2]; exact hD
    refine lv_aload_n hx hb dX2_append_19 rfl (lv_at hl 0 rfl) ?_
    refine lv_dup hx hb dX2_append_20 rfl ?_
    refine va_get (D := G.1) (ci := 2) (v := .int (N_2 1 0)) (C := RX2) (T := TX2) (N := 2) hx hb hts iwX2 hown hK hP 0 rfl rfl 1 (by decide) ha0 (fun _ h9 => h9) rfl dX2_append_21 ?_
    refine lv_iconst (v := nI 1) hx hb dX2_append_24 (by decide) ?_
    refine lv_iadd hx hb dX2_append_25 ?_
    obtain ⟨P_4, e_5, hrun⟩ := bd hrun
    replace e_5 := si e_5
    refine va_put (D := G.1) (ci := 2) (v := .int ((N_2 1 0) + (nI 1))) (ty := .int) (C := RX2) (T := TX2) (N := 2) hx hb hts iwX2 tyX2 tyX2_ok nmX2 hown hK hP hD hS 0 rfl rfl 1 (by decide) ha0 (fun _ h9 => h9) rfl (by decide +kernel) rfl rfl (Nat.le_of_ble_eq_true rfl) dX2_append_26 (fun H locs hP hD hS => ?_)
    replace hP : va_P G.1 vwCl (wPad G ap P_4) H := by rw [← e_5]; exact hP
    replace hD : va_D A (wPad G ap P_4) := by rw [← e_5]; exact hD
    have hr2 := si hrun
    exact W.vret hx hb hr (fun t ht hW => ⟨⟨(), rfl, trivial, by rw [ht, ← hr2]; exact hP, by rw [← hr2]; exact hD⟩, hS.F ht⟩) hS.2.2 dX2_append_29
def p_X2_faultPlace_79 (P : Ob) (K : Int32 → Int32 → Option (Int32)) (x2 : Int32) (x3 : Int32)  : Option (Int32) := K x3 (x2 + nI 1)
def p_X2_faultPlace_59 (P : Ob) (K : Int32 → Int32 → Option (Int32)) (x1 : Int32) (x2 : Int32) (x3 : Int32) (y0 : Int32)  : Option (Int32) := (if x3 = nI 0 then (if y0 = nI 0 then (some x2) else p_X2_faultPlace_79 P K x2 x3) else (if x1 = nI 0 then p_X2_faultPlace_79 P K x2 x3 else (some x2)))
def p_X2_faultPlace_54 (P : Ob) (K : Int32 → Int32 → Option (Int32)) (x1 : Int32) (x2 : Int32) (x3 : Int32)  : Option (Int32) := p_X2_faultPlace_59 P K x1 x2 x3 (nI 1)
def p_X2_faultPlace_28 (P : Ob) (K : Int32 → Int32 → Option (Int32)) (x1 : Int32) (x2 : Int32) (y0 : Int32)  : Option (Int32) := ((ldI (P 0) 60 x2).bind fun v_7 => (if v_7 = (nI 46) then p_X2_faultPlace_54 P K x1 x2 y0 else ((ldI (P 0) 60 x2).bind fun v_10 => ((p_X3_classOf v_10).bind fun v_12 => (if v_12 = (-6) then p_X2_faultPlace_59 P K x1 x2 y0 (nI 0) else p_X2_faultPlace_54 P K x1 x2 y0)))))
def p_X2_faultPlace_4 (P : Ob) : Nat → Int32 → Int32 → Option (Int32)
  | 0, _, _ => none
  | n + 1, x1, x2 => (if (P 1 0) ≤ x2 then (if (P 1 0) ≤ nI 0 then (some (-6)) else (if x1 = nI 0 then (some (-6)) else (some (P 1 0)))) else ((ldI (P 0) 60 x2).bind fun v_4 => (if v_4 = (nI 47) then p_X2_faultPlace_28 P (p_X2_faultPlace_4 P n) x1 x2 (nI 1) else p_X2_faultPlace_28 P (p_X2_faultPlace_4 P n) x1 x2 (nI 0))))
def p_X2_faultPlace (P : Ob)   : Option (Int32) := p_X2_faultPlace_4 P 200 (nI 1) (nI 0)
abbrev rmX2_faultPlace : Room := { frames := 1, cells := 0, slots := 0, locals := 20 }
set_option maxHeartbeats 4000000 in
set_option maxRecDepth 100000 in
theorem c_X2_faultPlace (l : Launch) (G : GT) (ap : Nat → Nat) (P : Ob) (r0 : Int32) (hrun : p_X2_faultPlace P = some r0) : Met l yX2_faultPlace wsX2_faultPlace rmX2_faultPlace (PreR G [.ref (ap 0)] (wPad G ap P)) (Ri r0) 0 0 (fun _ => False) := by
  refine Met.ofW (cc := cX2_faultPlace) (maxL := 5) (ret := (some .int)) (by decide) rfl ?_
  intro p e s m args below meth c s₁ Bd hml hv
  obtain ⟨rfl, hP, hC⟩ := hv
  have hx := Bd.exec
  have hb := Bd.bytes
  have hr := Bd.returns
  have hts := atoms_spec (ws := wsX2_faultPlace) Bd.pre
  have hown : s.vm.findClass RX2 = some m.cls := findClass_of_methodNamed Bd.named
  have hlocks := Bd.notSynchronized
  have hK := hC.1
  have iwX2 : ∀ w ∈ wsX20, w ∈ wsX2_faultPlace := by decide +kernel
  have ha0 := hts (.fieldLink RX2 15 "HeadMarks$Pad" "size" "I") (by decide +kernel)
  have ha1 := hts (.fieldLink RX2 9 "HeadMarks$Pad" "signs" "[I") (by decide +kernel)
  have ha2 := hts (.initialized RX3) (by decide +kernel)
  have ha3 := hts (.static yX3_classOf) (by decide +kernel)
  have kH_4 : ∀ (n : Nat) (x1 x2 : Int32) , ∀ (ls : Array Slot), lv_has ls 5 [(0, .ref (ap 0)), (1, .int x1), (2, .int x2)] → p_X2_faultPlace_4 P n x1 x2 = some r0 → W p l e (headSpec wsX2_faultPlace rmX2_faultPlace).room s m ([.ref (ap 0)] : List Value).toArray below meth c s.heap [] 0 0 (MQ below (Ri r0) ([.ref (ap 0)] : List Value).toArray s 0 0 (fun _ => False)) (F0 m 4 ls []) := by
    intro n
    induction n with
    | zero => intro x1 x2 ls hl hrun; exact absurd (hrun : (none : Option (Int32)) = some r0) (fun h => by cases h)
    | succ n ih =>
      have kJ_79 : ∀ (x2 x3 : Int32) , ∀ (ls : Array Slot), lv_has ls 5 [(0, .ref (ap 0)), (2, .int x2), (3, .int x3)] → p_X2_faultPlace_79 P (p_X2_faultPlace_4 P n) x2 x3 = some r0 → W p l e (headSpec wsX2_faultPlace rmX2_faultPlace).room s m ([.ref (ap 0)] : List Value).toArray below meth c s.heap [] 0 0 (MQ below (Ri r0) ([.ref (ap 0)] : List Value).toArray s 0 0 (fun _ => False)) (F0 m 79 ls []) := by
        intro x2 x3 ls hl hrun
        rw [p_X2_faultPlace_79] at hrun
        refine lv_iload_n hx hb dX2_faultPlace_79 rfl (lv_at hl 2 rfl) ?_
        refine lv_istore_n (lv' := [(1, .int x3), (0, .ref (ap 0)), (2, .int x2), (3, .int x3)]) hx hb dX2_faultPlace_80 rfl hl (by decide) rfl (fun ls hl => ?_)
        refine lv_iinc (v := (x2 + nI 1)) (lv' := [(2, .int (x2 + nI 1)), (1, .int x3), (0, .ref (ap 0)), (3, .int x3)]) hx hb dX2_faultPlace_81 hl (k := 2) rfl rfl (by decide) rfl (fun ls hl => ?_)
        refine lv_goto (tgt := 4) hx hb dX2_faultPlace_84 (by decide) ?_
        exact ih x3 (x2 + nI 1)  ls (lv_sub hl [2, 1, 0] rfl) hrun
      have kJ_59 : ∀ (x1 x2 x3 y0 : Int32) , ∀ (ls : Array Slot), lv_has ls 5 [(0, .ref (ap 0)), (1, .int x1), (2, .int x2), (3, .int x3)] → p_X2_faultPlace_59 P (p_X2_faultPlace_4 P n) x1 x2 x3 y0 = some r0 → W p l e (headSpec wsX2_faultPlace rmX2_faultPlace).room s m ([.ref (ap 0)] : List Value).toArray below meth c s.heap [] 0 0 (MQ below (Ri r0) ([.ref (ap 0)] : List Value).toArray s 0 0 (fun _ => False)) (F0 m 59 ls [.int y0]) := by
        intro x1 x2 x3 y0 ls hl hrun
        rw [p_X2_faultPlace_59] at hrun
        refine lv_istore (lv' := [(4, .int y0), (0, .ref (ap 0)), (1, .int x1), (2, .int x2), (3, .int x3)]) hx hb dX2_faultPlace_59 hl (by decide) rfl (fun ls hl => ?_)
        refine lv_iload_n hx hb dX2_faultPlace_61 rfl (lv_at hl 4 rfl) ?_
        refine lv_if_eq (tgt := 72) hx hb dX2_faultPlace_62 (by decide) (fun c_15 => ?_) (fun c_15 => ?_)
        · replace hrun := it_pos c_15 hrun
          refine lv_iload hx hb dX2_faultPlace_72 (lv_at hl 0 rfl) ?_
          refine lv_if_ne (tgt := 79) hx hb dX2_faultPlace_74 (by decide) (fun c_16 => ?_) (fun c_16 => ?_)
          · replace hrun := it_neg c_16 hrun
            exact kJ_79 x2 x3  ls (lv_sub hl [1, 3, 4] rfl) hrun
          · replace hrun := it_pos c_16 hrun
            refine lv_iload_n hx hb dX2_faultPlace_77 rfl (lv_at hl 3 rfl) ?_
            exact W.iret (v := x2) hx hb hr (fun t ht hW => ⟨x2, rfl, si hrun, ht⟩) (fun _ h => absurd h List.not_mem_nil) dX2_faultPlace_78
        · replace hrun := it_neg c_15 hrun
          refine lv_iload_n hx hb dX2_faultPlace_65 rfl (lv_at hl 2 rfl) ?_
          refine lv_if_eq (tgt := 79) hx hb dX2_faultPlace_66 (by decide) (fun c_17 => ?_) (fun c_17 => ?_)
          · replace hrun := it_pos c_17 hrun
            exact kJ_79 x2 x3  ls (lv_sub hl [1, 3, 4] rfl) hrun
          · replace hrun := it_neg c_17 hrun
            refine lv_goto (tgt := 77) hx hb dX2_faultPlace_69 (by decide) ?_
            refine lv_iload_n hx hb dX2_faultPlace_77 rfl (lv_at hl 3 rfl) ?_
            exact W.iret (v := x2) hx hb hr (fun t ht hW => ⟨x2, rfl, si hrun, ht⟩) (fun _ h => absurd h List.not_mem_nil) dX2_faultPlace_78
      have kJ_54 : ∀ (x1 x2 x3 : Int32) , ∀ (ls : Array Slot), lv_has ls 5 [(0, .ref (ap 0)), (1, .int x1), (2, .int x2), (3, .int x3)] → p_X2_faultPlace_54 P (p_X2_faultPlace_4 P n) x1 x2 x3 = some r0 → W p l e (headSpec wsX2_faultPlace rmX2_faultPlace).room s m ([.ref (ap 0)] : List Value).toArray below meth c s.heap [] 0 0 (MQ below (Ri r0) ([.ref (ap 0)] : List Value).toArray s 0 0 (fun _ => False)) (F0 m 54 ls []) := by
        intro x1 x2 x3 ls hl hrun
        rw [p_X2_faultPlace_54] at hrun
        refine lv_iconst (v := nI 1) hx hb dX2_faultPlace_54 (by decide) ?_
        refine lv_goto (tgt := 59) hx hb dX2_faultPlace_55 (by decide) ?_
        exact kJ_59 x1 x2 x3 (nI 1)  ls (lv_sub hl [0, 1, 2, 3] rfl) hrun
      have kJ_28 : ∀ (x1 x2 y0 : Int32) , ∀ (ls : Array Slot), lv_has ls 5 [(0, .ref (ap 0)), (1, .int x1), (2, .int x2)] → p_X2_faultPlace_28 P (p_X2_faultPlace_4 P n) x1 x2 y0 = some r0 → W p l e (headSpec wsX2_faultPlace rmX2_faultPlace).room s m ([.ref (ap 0)] : List Value).toArray below meth c s.heap [] 0 0 (MQ below (Ri r0) ([.ref (ap 0)] : List Value).toArray s 0 0 (fun _ => False)) (F0 m 28 ls [.int y0]) := by
        intro x1 x2 y0 ls hl hrun
        rw [p_X2_faultPlace_28] at hrun
        refine lv_istore_n (lv' := [(3, .int y0), (0, .ref (ap 0)), (1, .int x1), (2, .int x2)]) hx hb dX2_faultPlace_28 rfl hl (by decide) rfl (fun ls hl => ?_)
        refine lv_aload_n hx hb dX2_faultPlace_29 rfl (lv_at hl 1 rfl) ?_
        refine va_get (D := G.1) (ci := 2) (v := .ref (ap 1)) (C := RX2) (T := TX2) (N := 2) hx hb hts iwX2 hown hK hP 0 rfl rfl 0 (by decide) ha1 (fun _ h9 => h9) rfl dX2_faultPlace_30 ?_
        refine lv_iload_n hx hb dX2_faultPlace_33 rfl (lv_at hl 3 rfl) ?_
        obtain ⟨v_7, e_8, hrun⟩ := bd hrun
        refine y_ald hx hb hK hP 1 0 rfl rfl e_8 dX2_faultPlace_34 ?_
        refine lv_bipush (v := nI 46) hx hb dX2_faultPlace_35 (by decide) ?_
        refine lv_icmp_eq (tgt := 54) hx hb dX2_faultPlace_37 (by decide) (fun c_9 => ?_) (fun c_9 => ?_)
        · replace hrun := it_pos c_9 hrun
          exact kJ_54 x1 x2 y0  ls (lv_sub hl [1, 2, 3, 0] rfl) hrun
        · replace hrun := it_neg c_9 hrun
          refine lv_aload_n hx hb dX2_faultPlace_40 rfl (lv_at hl 1 rfl) ?_
          refine va_get (D := G.1) (ci := 2) (v := .ref (ap 1)) (C := RX2) (T := TX2) (N := 2) hx hb hts iwX2 hown hK hP 0 rfl rfl 0 (by decide) ha1 (fun _ h9 => h9) rfl dX2_faultPlace_41 ?_
          refine lv_iload_n hx hb dX2_faultPlace_44 rfl (lv_at hl 3 rfl) ?_
          obtain ⟨v_10, e_11, hrun⟩ := bd hrun
          refine y_ald hx hb hK hP 1 0 rfl rfl e_11 dX2_faultPlace_45 ?_
          obtain ⟨v_12, e_13, hrun⟩ := bd hrun
          refine y_ro (va_runSN (As := [.int v_10]) (rest := []) ⟨hx, hb, hml, hown, hts⟩ (c_X3_classOf l G   v_10 v_12 e_13) ⟨va_cnB 1 hts ggX2_faultPlace_X3_classOf rfl rfl rfl hC.2.1 ha2 (by decide +kernel) ⟨Nat.le_of_ble_eq_true rfl, Nat.le_of_ble_eq_true rfl⟩, ha3, trivial⟩ ⟨PreR.blind, y_preR hC (fun _ _ h => by cases h)⟩ rfl rfl hl.1 rfl (lv_room (Nat.le_of_ble_eq_true rfl)) dX2_faultPlace_46 ⟨Nat.zero_le _, Nat.zero_le _⟩) ?_
          refine lv_bipush (v := -6) hx hb dX2_faultPlace_49 (by decide) ?_
          refine lv_icmp_eq (tgt := 58) hx hb dX2_faultPlace_51 (by decide) (fun c_14 => ?_) (fun c_14 => ?_)
          · replace hrun := it_pos c_14 hrun
            refine lv_iconst (v := nI 0) hx hb dX2_faultPlace_58 (by decide) ?_
            exact kJ_59 x1 x2 y0 (nI 0)  ls (lv_sub hl [1, 2, 3, 0] rfl) hrun
          · replace hrun := it_neg c_14 hrun
            exact kJ_54 x1 x2 y0  ls (lv_sub hl [1, 2, 3, 0] rfl) hrun
      intro x1 x2 ls hl hrun
      rw [p_X2_faultPlace_4] at hrun
      refine lv_iload_n hx hb dX2_faultPlace_4 rfl (lv_at hl 2 rfl) ?_
      refine lv_aload_n hx hb dX2_faultPlace_5 rfl (lv_at hl 0 rfl) ?_
      refine va_get (D := G.1) (ci := 2) (v := .int (P 1 0)) (C := RX2) (T := TX2) (N := 2) hx hb hts iwX2 hown hK hP 0 rfl rfl 1 (by decide) ha0 (fun _ h9 => h9) rfl dX2_faultPlace_6 ?_
      refine lv_icmp_ge (tgt := 87) hx hb dX2_faultPlace_9 (by decide) (fun c_1 => ?_) (fun c_1 => ?_)
      · replace hrun := it_pos c_1 hrun
        refine lv_aload_n hx hb dX2_faultPlace_87 rfl (lv_at hl 0 rfl) ?_
        refine va_get (D := G.1) (ci := 2) (v := .int (P 1 0)) (C := RX2) (T := TX2) (N := 2) hx hb hts iwX2 hown hK hP 0 rfl rfl 1 (by decide) ha0 (fun _ h9 => h9) rfl dX2_faultPlace_88 ?_
        refine lv_if_le (tgt := 105) hx hb dX2_faultPlace_91 (by decide) (fun c_2 => ?_) (fun c_2 => ?_)
        · replace hrun := it_pos c_2 hrun
          refine lv_bipush (v := -6) hx hb dX2_faultPlace_105 (by decide) ?_
          exact W.iret (v := (-6)) hx hb hr (fun t ht hW => ⟨(-6), rfl, si hrun, ht⟩) (fun _ h => absurd h List.not_mem_nil) dX2_faultPlace_107
        · replace hrun := it_neg c_2 hrun
          refine lv_iload_n hx hb dX2_faultPlace_94 rfl (lv_at hl 1 rfl) ?_
          refine lv_if_eq (tgt := 105) hx hb dX2_faultPlace_95 (by decide) (fun c_3 => ?_) (fun c_3 => ?_)
          · replace hrun := it_pos c_3 hrun
            refine lv_bipush (v := -6) hx hb dX2_faultPlace_105 (by decide) ?_
            exact W.iret (v := (-6)) hx hb hr (fun t ht hW => ⟨(-6), rfl, si hrun, ht⟩) (fun _ h => absurd h List.not_mem_nil) dX2_faultPlace_107
          · replace hrun := it_neg c_3 hrun
            refine lv_aload_n hx hb dX2_faultPlace_98 rfl (lv_at hl 0 rfl) ?_
            refine va_get (D := G.1) (ci := 2) (v := .int (P 1 0)) (C := RX2) (T := TX2) (N := 2) hx hb hts iwX2 hown hK hP 0 rfl rfl 1 (by decide) ha0 (fun _ h9 => h9) rfl dX2_faultPlace_99 ?_
            refine lv_goto (tgt := 107) hx hb dX2_faultPlace_102 (by decide) ?_
            exact W.iret (v := (P 1 0)) hx hb hr (fun t ht hW => ⟨(P 1 0), rfl, si hrun, ht⟩) (fun _ h => absurd h List.not_mem_nil) dX2_faultPlace_107
      · replace hrun := it_neg c_1 hrun
        refine lv_aload_n hx hb dX2_faultPlace_12 rfl (lv_at hl 0 rfl) ?_
        refine va_get (D := G.1) (ci := 2) (v := .ref (ap 1)) (C := RX2) (T := TX2) (N := 2) hx hb hts iwX2 hown hK hP 0 rfl rfl 0 (by decide) ha1 (fun _ h9 => h9) rfl dX2_faultPlace_13 ?_
        refine lv_iload_n hx hb dX2_faultPlace_16 rfl (lv_at hl 2 rfl) ?_
        obtain ⟨v_4, e_5, hrun⟩ := bd hrun
        refine y_ald hx hb hK hP 1 0 rfl rfl e_5 dX2_faultPlace_17 ?_
        refine lv_bipush (v := nI 47) hx hb dX2_faultPlace_18 (by decide) ?_
        refine lv_icmp_ne (tgt := 27) hx hb dX2_faultPlace_20 (by decide) (fun c_6 => ?_) (fun c_6 => ?_)
        · replace hrun := it_neg c_6 hrun
          refine lv_iconst (v := nI 0) hx hb dX2_faultPlace_27 (by decide) ?_
          exact kJ_28 x1 x2 (nI 0)  ls (lv_sub hl [0, 1, 2] rfl) hrun
        · replace hrun := it_pos c_6 hrun
          refine lv_iconst (v := nI 1) hx hb dX2_faultPlace_23 (by decide) ?_
          refine lv_goto (tgt := 28) hx hb dX2_faultPlace_24 (by decide) ?_
          exact kJ_28 x1 x2 (nI 1)  ls (lv_sub hl [0, 1, 2] rfl) hrun
  have hl := lv_entry [.ref (ap 0)] (n := 5) (Nat.le_of_ble_eq_true rfl)
  rw [lg_entry_eq]
  generalize (lg_sl [.ref (ap 0)] ++ List.replicate (5 - (lg_sl [.ref (ap 0)]).length) Slot.unset).toArray = ls at hl ⊢
  have hl : lv_has ls 5 [(0, .ref (ap 0))] := hl
  rw [p_X2_faultPlace] at hrun
  refine lv_iconst (v := nI 1) hx hb dX2_faultPlace_0 (by decide) ?_
  refine lv_istore_n (lv' := [(1, .int (nI 1)), (0, .ref (ap 0))]) hx hb dX2_faultPlace_1 rfl hl (by decide) rfl (fun ls hl => ?_)
  refine lv_iconst (v := nI 0) hx hb dX2_faultPlace_2 (by decide) ?_
  refine lv_istore_n (lv' := [(2, .int (nI 0)), (1, .int (nI 1)), (0, .ref (ap 0))]) hx hb dX2_faultPlace_3 rfl hl (by decide) rfl (fun ls hl => ?_)
  exact kH_4 200 (nI 1) (nI 0)  ls (lv_sub hl [2, 1, 0] rfl) hrun
def p_X0_takeText_70 (P : Ob) (K : Int32 → Int32 → Ob → Option (Ob)) (x2 : Int32) (x3 : Int32) (B : Ob) : Option (Ob) := K x2 (x3 + nI 1) B
def p_X0_takeText_9 (P : Ob) : Nat → Int32 → Int32 → Ob → Option (Ob)
  | 0, _, _, _ => none
  | n + 1, x2, x3, B => (if (P 1 0) ≤ x3 then (some B) else ((ldI (P 0) 60 x3).bind fun v_4 => (if v_4 = (nI 47) then p_X0_takeText_70 P (p_X0_takeText_9 P n) (nI 1) x3 B else ((ldI (P 0) 60 x3).bind fun v_7 => ((stO B 0 60 (B 3 0) v_7).bind fun N_9 => ((stO N_9 1 60 (N_9 3 0) x2).bind fun N_11 => ((some (puO N_11 3 ((N_11 3 0) + (nI 1)))).bind fun B_13 => p_X0_takeText_70 P (p_X0_takeText_9 P n) (nI 0) x3 B_13)))))))
def p_X0_takeText (P : Ob)  (B : Ob) : Option (Ob) := ((some (puO B 3 (nI 0))).bind fun B_1 => p_X0_takeText_9 P 200 (nI 0) (nI 0) B_1)
abbrev rmX0_takeText : Room := { frames := 0, cells := 0, slots := 0, locals := 0 }
set_option maxHeartbeats 4000000 in
set_option maxRecDepth 100000 in
theorem c_X0_takeText (l : Launch) (G : GT) (ab ap : Nat → Nat) (B P : Ob) (sz : Nat) (B0 : Ob) (hrun : p_X0_takeText P B = some B0) : Met l yX0_takeText wsX0_takeText rmX0_takeText (PreW G [.ref (ab 0), .ref (ap 0)] (wBook G ab B ++ wPad G ap P) sz) (QV G (wBook G ab B0 ++ wPad G ap P) (va_A (wBook G ab B ++ wPad G ap P) sz)) 0 0 (va_A (wBook G ab B ++ wPad G ap P) sz) := by
  refine Met.ofW (cc := cX0_takeText) (maxL := 4) (ret := none) (by decide) rfl ?_
  intro p e s m args below meth c s₁ Bd hml hv
  obtain ⟨rfl, hsz, hP, hC, hD0⟩ := hv
  have hx := Bd.exec
  have hb := Bd.bytes
  have hr := Bd.returns
  have hts := atoms_spec (ws := wsX0_takeText) Bd.pre
  have hown : s.vm.findClass RX0 = some m.cls := findClass_of_methodNamed Bd.named
  have hlocks := Bd.notSynchronized
  have hK := hC.1
  have iwX0 : ∀ w ∈ wsX00, w ∈ wsX0_takeText := by decide +kernel
  have iwX2 : ∀ w ∈ wsX20, w ∈ wsX0_takeText := by decide +kernel
  have ha0 := hts (.fieldLink RX0 29 "HeadMarks$Book" "lines" "I") (by decide +kernel)
  have ha1 := hts (.fieldLink RX0 33 "HeadMarks$Pad" "size" "I") (by decide +kernel)
  have ha2 := hts (.fieldLink RX0 38 "HeadMarks$Pad" "signs" "[I") (by decide +kernel)
  have ha3 := hts (.fieldLink RX0 9 "HeadMarks$Book" "signs" "[I") (by decide +kernel)
  have ha4 := hts (.fieldLink RX0 15 "HeadMarks$Book" "broken" "[I") (by decide +kernel)
  subst hsz
  have hD := hD0.self (sz := s.heap.size)
  generalize hAe : va_A (wBook G ab B ++ wPad G ap P) s.heap.size = A at hD ⊢
  have hA : ∀ q : Nat, s.heap.size ≤ q → A q := fun q h => by rw [← hAe]; exact Or.inr h
  have hS : va_S A s.heap s.heap [] := va_S.rf
  have kH_9 : ∀ (n : Nat) (x2 x3 : Int32) (B : Ob) , ∀ (H : Heap) (locs : List Loc), va_P G.1 vwCl (wBook G ab B ++ wPad G ap P) H → va_D A (wBook G ab B ++ wPad G ap P) → va_S A s.heap H locs → ∀ (ls : Array Slot), lv_has ls 4 [(0, .ref (ab 0)), (1, .ref (ap 0)), (2, .int x2), (3, .int x3)] → p_X0_takeText_9 P n x2 x3 B = some B0 → W p l e (headSpec wsX0_takeText rmX0_takeText).room s m ([.ref (ab 0), .ref (ap 0)] : List Value).toArray below meth c H locs 0 0 (MQ below (QV G (wBook G ab B0 ++ wPad G ap P) A) ([.ref (ab 0), .ref (ap 0)] : List Value).toArray s 0 0 A) (F0 m 9 ls []) := by
    intro n
    induction n with
    | zero => intro x2 x3 B H locs hP hD hS ls hl hrun; exact absurd (hrun : (none : Option (Ob)) = some B0) (fun h => by cases h)
    | succ n ih =>
      have kJ_70 : ∀ (x2 x3 : Int32) (B : Ob) , ∀ (H : Heap) (locs : List Loc), va_P G.1 vwCl (wBook G ab B ++ wPad G ap P) H → va_D A (wBook G ab B ++ wPad G ap P) → va_S A s.heap H locs → ∀ (ls : Array Slot), lv_has ls 4 [(0, .ref (ab 0)), (1, .ref (ap 0)), (2, .int x2), (3, .int x3)] → p_X0_takeText_70 P (p_X0_takeText_9 P n) x2 x3 B = some B0 → W p l e (headSpec wsX0_takeText rmX0_takeText).room s m ([.ref (ab 0), .ref (ap 0)] : List Value).toArray below meth c H locs 0 0 (MQ below (QV G (wBook G ab B0 ++ wPad G ap P) A) ([.ref (ab 0), .ref (ap 0)] : List Value).toArray s 0 0 A) (F0 m 70 ls []) := by
        intro x2 x3 B H locs hP hD hS ls hl hrun
        rw [p_X0_takeText_70] at hrun
        refine lv_iinc (v := (x3 + nI 1)) (lv' := [(3, .int (x3 + nI 1)), (0, .ref (ab 0)), (1, .ref (ap 0)), (2, .int x2)]) hx hb dX0_takeText_70 hl (k := 3) rfl rfl (by decide) rfl (fun ls hl => ?_)
        refine lv_goto (tgt := 9) hx hb dX0_takeText_73 (by decide) ?_
        exact ih x2 (x3 + nI 1) B _ _ hP hD hS ls (lv_sub hl [1, 2, 3, 0] rfl) hrun
      intro x2 x3 B H locs hP hD hS ls hl hrun
      rw [p_X0_takeText_9] at hrun
      refine lv_iload_n hx hb dX0_takeText_9 rfl (lv_at hl 3 rfl) ?_
      refine lv_aload_n hx hb dX0_takeText_10 rfl (lv_at hl 1 rfl) ?_
      refine va_get (D := G.1) (ci := 2) (v := .int (P 1 0)) (C := RX2) (T := TX2) (N := 2) hx hb hts iwX2 hown hK hP 4 rfl rfl 1 (by decide) ha1 (fun _ h9 => h9) rfl dX0_takeText_11 ?_
      refine lv_icmp_ge (tgt := 76) hx hb dX0_takeText_14 (by decide) (fun c_3 => ?_) (fun c_3 => ?_)
      · replace hrun := it_pos c_3 hrun
        have hr2 := si hrun
        exact W.vret hx hb hr (fun t ht hW => ⟨⟨(), rfl, trivial, by rw [ht, ← hr2]; exact hP, by rw [← hr2]; exact hD⟩, hS.F ht⟩) hS.2.2 dX0_takeText_76
      · replace hrun := it_neg c_3 hrun
        refine lv_aload_n hx hb dX0_takeText_17 rfl (lv_at hl 1 rfl) ?_
        refine va_get (D := G.1) (ci := 2) (v := .ref (ap 1)) (C := RX2) (T := TX2) (N := 2) hx hb hts iwX2 hown hK hP 4 rfl rfl 0 (by decide) ha2 (fun _ h9 => h9) rfl dX0_takeText_18 ?_
        refine lv_iload_n hx hb dX0_takeText_21 rfl (lv_at hl 3 rfl) ?_
        obtain ⟨v_4, e_5, hrun⟩ := bd hrun
        refine y_ald hx hb hK hP 5 0 rfl rfl e_5 dX0_takeText_22 ?_
        refine lv_bipush (v := nI 47) hx hb dX0_takeText_23 (by decide) ?_
        refine lv_icmp_ne (tgt := 33) hx hb dX0_takeText_25 (by decide) (fun c_6 => ?_) (fun c_6 => ?_)
        · replace hrun := it_neg c_6 hrun
          refine lv_aload_n hx hb dX0_takeText_33 rfl (lv_at hl 0 rfl) ?_
          refine va_get (D := G.1) (ci := 0) (v := .ref (ab 1)) (C := RX0) (T := TX0) (N := 4) hx hb hts iwX0 hown hK hP 0 rfl rfl 0 (by decide) ha3 (fun _ h9 => h9) rfl dX0_takeText_34 ?_
          refine lv_aload_n hx hb dX0_takeText_37 rfl (lv_at hl 0 rfl) ?_
          refine va_get (D := G.1) (ci := 0) (v := .int (B 3 0)) (C := RX0) (T := TX0) (N := 4) hx hb hts iwX0 hown hK hP 0 rfl rfl 3 (by decide) ha0 (fun _ h9 => h9) rfl dX0_takeText_38 ?_
          refine lv_aload_n hx hb dX0_takeText_41 rfl (lv_at hl 1 rfl) ?_
          refine va_get (D := G.1) (ci := 2) (v := .ref (ap 1)) (C := RX2) (T := TX2) (N := 2) hx hb hts iwX2 hown hK hP 4 rfl rfl 0 (by decide) ha2 (fun _ h9 => h9) rfl dX0_takeText_42 ?_
          refine lv_iload_n hx hb dX0_takeText_45 rfl (lv_at hl 3 rfl) ?_
          obtain ⟨v_7, e_8, hrun⟩ := bd hrun
          refine y_ald hx hb hK hP 5 0 rfl rfl e_8 dX0_takeText_46 ?_
          obtain ⟨N_9, e_10, hrun⟩ := bd hrun
          replace e_10 := stO_spec e_10
          refine va_iast hx hb hK hP hD hS 1 0 rfl rfl e_10.1 dX0_takeText_47 (fun H locs hP hD hS => ?_)
          replace hP : va_P G.1 vwCl (wBook G ab N_9 ++ wPad G ap P) H := by rw [← e_10.2]; exact hP
          replace hD : va_D A (wBook G ab N_9 ++ wPad G ap P) := by rw [← e_10.2]; exact hD
          refine lv_aload_n hx hb dX0_takeText_48 rfl (lv_at hl 0 rfl) ?_
          refine va_get (D := G.1) (ci := 0) (v := .ref (ab 2)) (C := RX0) (T := TX0) (N := 4) hx hb hts iwX0 hown hK hP 0 rfl rfl 1 (by decide) ha4 (fun _ h9 => h9) rfl dX0_takeText_49 ?_
          refine lv_aload_n hx hb dX0_takeText_52 rfl (lv_at hl 0 rfl) ?_
          refine va_get (D := G.1) (ci := 0) (v := .int (N_9 3 0)) (C := RX0) (T := TX0) (N := 4) hx hb hts iwX0 hown hK hP 0 rfl rfl 3 (by decide) ha0 (fun _ h9 => h9) rfl dX0_takeText_53 ?_
          refine lv_iload_n hx hb dX0_takeText_56 rfl (lv_at hl 2 rfl) ?_
          obtain ⟨N_11, e_12, hrun⟩ := bd hrun
          replace e_12 := stO_spec e_12
          refine va_iast hx hb hK hP hD hS 2 0 rfl rfl e_12.1 dX0_takeText_57 (fun H locs hP hD hS => ?_)
          replace hP : va_P G.1 vwCl (wBook G ab N_11 ++ wPad G ap P) H := by rw [← e_12.2]; exact hP
          replace hD : va_D A (wBook G ab N_11 ++ wPad G ap P) := by rw [← e_12.2]; exact hD
          refine lv_aload_n hx hb dX0_takeText_58 rfl (lv_at hl 0 rfl) ?_
          refine lv_dup hx hb dX0_takeText_59 rfl ?_
          refine va_get (D := G.1) (ci := 0) (v := .int (N_11 3 0)) (C := RX0) (T := TX0) (N := 4) hx hb hts iwX0 hown hK hP 0 rfl rfl 3 (by decide) ha0 (fun _ h9 => h9) rfl dX0_takeText_60 ?_
          refine lv_iconst (v := nI 1) hx hb dX0_takeText_63 (by decide) ?_
          refine lv_iadd hx hb dX0_takeText_64 ?_
          obtain ⟨B_13, e_14, hrun⟩ := bd hrun
          replace e_14 := si e_14
          refine va_put (D := G.1) (ci := 0) (v := .int ((N_11 3 0) + (nI 1))) (ty := .int) (C := RX0) (T := TX0) (N := 4) hx hb hts iwX0 tyX0 tyX0_ok nmX0 hown hK hP hD hS 0 rfl rfl 3 (by decide) ha0 (fun _ h9 => h9) rfl (by decide +kernel) rfl rfl (Nat.le_of_ble_eq_true rfl) dX0_takeText_65 (fun H locs hP hD hS => ?_)
          replace hP : va_P G.1 vwCl (wBook G ab B_13 ++ wPad G ap P) H := by rw [← e_14]; exact hP
          replace hD : va_D A (wBook G ab B_13 ++ wPad G ap P) := by rw [← e_14]; exact hD
          refine lv_iconst (v := nI 0) hx hb dX0_takeText_68 (by decide) ?_
          refine lv_istore_n (lv' := [(2, .int (nI 0)), (0, .ref (ab 0)), (1, .ref (ap 0)), (3, .int x3)]) hx hb dX0_takeText_69 rfl hl (by decide) rfl (fun ls hl => ?_)
          exact kJ_70 (nI 0) x3 B_13 _ _ hP hD hS ls (lv_sub hl [1, 2, 0, 3] rfl) hrun
        · replace hrun := it_pos c_6 hrun
          refine lv_iconst (v := nI 1) hx hb dX0_takeText_28 (by decide) ?_
          refine lv_istore_n (lv' := [(2, .int (nI 1)), (0, .ref (ab 0)), (1, .ref (ap 0)), (3, .int x3)]) hx hb dX0_takeText_29 rfl hl (by decide) rfl (fun ls hl => ?_)
          refine lv_goto (tgt := 70) hx hb dX0_takeText_30 (by decide) ?_
          exact kJ_70 (nI 1) x3 B _ _ hP hD hS ls (lv_sub hl [1, 2, 0, 3] rfl) hrun
  have hl := lv_entry [.ref (ab 0), .ref (ap 0)] (n := 4) (Nat.le_of_ble_eq_true rfl)
  rw [lg_entry_eq]
  generalize (lg_sl [.ref (ab 0), .ref (ap 0)] ++ List.replicate (4 - (lg_sl [.ref (ab 0), .ref (ap 0)]).length) Slot.unset).toArray = ls at hl ⊢
  have hl : lv_has ls 4 [(0, .ref (ab 0)), (1, .ref (ap 0))] := hl
  rw [p_X0_takeText] at hrun
  refine lv_aload_n hx hb dX0_takeText_0 rfl (lv_at hl 0 rfl) ?_
  refine lv_iconst (v := nI 0) hx hb dX0_takeText_1 (by decide) ?_
  obtain ⟨B_1, e_2, hrun⟩ := bd hrun
  replace e_2 := si e_2
  refine va_put (D := G.1) (ci := 0) (v := .int (nI 0)) (ty := .int) (C := RX0) (T := TX0) (N := 4) hx hb hts iwX0 tyX0 tyX0_ok nmX0 hown hK hP hD hS 0 rfl rfl 3 (by decide) ha0 (fun _ h9 => h9) rfl (by decide +kernel) rfl rfl (Nat.le_of_ble_eq_true rfl) dX0_takeText_2 (fun H locs hP hD hS => ?_)
  replace hP : va_P G.1 vwCl (wBook G ab B_1 ++ wPad G ap P) H := by rw [← e_2]; exact hP
  replace hD : va_D A (wBook G ab B_1 ++ wPad G ap P) := by rw [← e_2]; exact hD
  refine lv_iconst (v := nI 0) hx hb dX0_takeText_5 (by decide) ?_
  refine lv_istore_n (lv' := [(2, .int (nI 0)), (0, .ref (ab 0)), (1, .ref (ap 0))]) hx hb dX0_takeText_6 rfl hl (by decide) rfl (fun ls hl => ?_)
  refine lv_iconst (v := nI 0) hx hb dX0_takeText_7 (by decide) ?_
  refine lv_istore_n (lv' := [(3, .int (nI 0)), (2, .int (nI 0)), (0, .ref (ab 0)), (1, .ref (ap 0))]) hx hb dX0_takeText_8 rfl hl (by decide) rfl (fun ls hl => ?_)
  exact kH_9 200 (nI 0) (nI 0) B_1 _ _ hP hD hS ls (lv_sub hl [2, 3, 1, 0] rfl) hrun
def p_X0_copyFrom (C : Ob)  (B : Ob) : Option (Ob) := ((some (va_up B 0 (va_cpy (C 0) (B 0) 0 0 60))).bind fun B_1 => ((some (va_up B_1 1 (va_cpy (C 1) (B_1 1) 0 0 60))).bind fun B_3 => ((some (va_up B_3 2 (va_cpy (C 2) (B_3 2) 0 0 9))).bind fun B_5 => ((some (puO B_5 3 (C 3 0))).bind fun B_7 => (some B_7)))))
abbrev rmX0_copyFrom : Room := { frames := 1, cells := 0, slots := 0, locals := 60 }
set_option maxHeartbeats 4000000 in
set_option maxRecDepth 100000 in
theorem c_X0_copyFrom (l : Launch) (G : GT) (ab ac : Nat → Nat) (B C : Ob) (sz : Nat) (B0 : Ob) (hrun : p_X0_copyFrom C B = some B0) : Met l yX0_copyFrom wsX0_copyFrom rmX0_copyFrom (PreW G [.ref (ab 0), .ref (ac 0)] (wBook G ab B ++ wBook G ac C) sz) (QV G (wBook G ab B0 ++ wBook G ac C) (va_A (wBook G ab B ++ wBook G ac C) sz)) 0 0 (va_A (wBook G ab B ++ wBook G ac C) sz) := by
  refine Met.ofW (cc := cX0_copyFrom) (maxL := 2) (ret := none) (by decide) rfl ?_
  intro p e s m args below meth c s₁ Bd hml hv
  obtain ⟨rfl, hsz, hP, hC, hD0⟩ := hv
  have hx := Bd.exec
  have hb := Bd.bytes
  have hr := Bd.returns
  have hts := atoms_spec (ws := wsX0_copyFrom) Bd.pre
  have hown : s.vm.findClass RX0 = some m.cls := findClass_of_methodNamed Bd.named
  have hlocks := Bd.notSynchronized
  have hK := hC.1
  have iwX0 : ∀ w ∈ wsX00, w ∈ wsX0_copyFrom := by decide +kernel
  have ha0 := hts (.fieldLink RX0 9 "HeadMarks$Book" "signs" "[I") (by decide +kernel)
  have ha1 := hts (.methodLink RX0 39 arraycopyName) (by decide +kernel)
  have ha2 := hts (.native arraycopyName) (by decide +kernel)
  have ha3 := hts (.static arraycopyName) (by decide +kernel)
  have ha4 := hts (.initialized "java/lang/System") (by decide +kernel)
  have ha5 := hts (.fieldLink RX0 15 "HeadMarks$Book" "broken" "[I") (by decide +kernel)
  have ha6 := hts (.fieldLink RX0 26 "HeadMarks$Book" "rules" "[I") (by decide +kernel)
  have ha7 := hts (.fieldLink RX0 29 "HeadMarks$Book" "lines" "I") (by decide +kernel)
  subst hsz
  have hD := hD0.self (sz := s.heap.size)
  generalize hAe : va_A (wBook G ab B ++ wBook G ac C) s.heap.size = A at hD ⊢
  have hA : ∀ q : Nat, s.heap.size ≤ q → A q := fun q h => by rw [← hAe]; exact Or.inr h
  have hS : va_S A s.heap s.heap [] := va_S.rf
  have hl := lv_entry [.ref (ab 0), .ref (ac 0)] (n := 2) (Nat.le_of_ble_eq_true rfl)
  rw [lg_entry_eq]
  generalize (lg_sl [.ref (ab 0), .ref (ac 0)] ++ List.replicate (2 - (lg_sl [.ref (ab 0), .ref (ac 0)]).length) Slot.unset).toArray = ls at hl ⊢
  have hl : lv_has ls 2 [(0, .ref (ab 0)), (1, .ref (ac 0))] := hl
  rw [p_X0_copyFrom] at hrun
  refine lv_aload_n hx hb dX0_copyFrom_0 rfl (lv_at hl 1 rfl) ?_
  refine va_get (D := G.1) (ci := 0) (v := .ref (ac 1)) (C := RX0) (T := TX0) (N := 4) hx hb hts iwX0 hown hK hP 4 rfl rfl 0 (by decide) ha0 (fun _ h9 => h9) rfl dX0_copyFrom_1 ?_
  refine lv_iconst (v := nI 0) hx hb dX0_copyFrom_4 (by decide) ?_
  refine lv_aload_n hx hb dX0_copyFrom_5 rfl (lv_at hl 0 rfl) ?_
  refine va_get (D := G.1) (ci := 0) (v := .ref (ab 1)) (C := RX0) (T := TX0) (N := 4) hx hb hts iwX0 hown hK hP 0 rfl rfl 0 (by decide) ha0 (fun _ h9 => h9) rfl dX0_copyFrom_6 ?_
  refine lv_iconst (v := nI 0) hx hb dX0_copyFrom_9 (by decide) ?_
  refine lv_bipush (v := nI 60) hx hb dX0_copyFrom_10 (by decide) ?_
  obtain ⟨B_1, e_2, hrun⟩ := bd hrun
  replace e_2 := si e_2
  refine va_copyi hx hb (by rw [hml]; exact hl.1.symm) hown ha1 ha2 ha3 ha4 hK hP hD hS 5 1 0 0 rfl rfl rfl rfl rfl (by decide) (by decide) (by decide) (by decide) (by decide) (fun _ _ => rfl) (Nat.le_of_ble_eq_true rfl) (Nat.le_of_ble_eq_true rfl) dX0_copyFrom_12 (fun H locs hP hD hS => ?_)
  replace hP : va_P G.1 vwCl (wBook G ab B_1 ++ wBook G ac C) H := by rw [← e_2]; exact hP
  replace hD : va_D A (wBook G ab B_1 ++ wBook G ac C) := by rw [← e_2]; exact hD
  refine lv_aload_n hx hb dX0_copyFrom_15 rfl (lv_at hl 1 rfl) ?_
  refine va_get (D := G.1) (ci := 0) (v := .ref (ac 2)) (C := RX0) (T := TX0) (N := 4) hx hb hts iwX0 hown hK hP 4 rfl rfl 1 (by decide) ha5 (fun _ h9 => h9) rfl dX0_copyFrom_16 ?_
  refine lv_iconst (v := nI 0) hx hb dX0_copyFrom_19 (by decide) ?_
  refine lv_aload_n hx hb dX0_copyFrom_20 rfl (lv_at hl 0 rfl) ?_
  refine va_get (D := G.1) (ci := 0) (v := .ref (ab 2)) (C := RX0) (T := TX0) (N := 4) hx hb hts iwX0 hown hK hP 0 rfl rfl 1 (by decide) ha5 (fun _ h9 => h9) rfl dX0_copyFrom_21 ?_
  refine lv_iconst (v := nI 0) hx hb dX0_copyFrom_24 (by decide) ?_
  refine lv_bipush (v := nI 60) hx hb dX0_copyFrom_25 (by decide) ?_
  obtain ⟨B_3, e_4, hrun⟩ := bd hrun
  replace e_4 := si e_4
  refine va_copyi hx hb (by rw [hml]; exact hl.1.symm) hown ha1 ha2 ha3 ha4 hK hP hD hS 6 2 0 0 rfl rfl rfl rfl rfl (by decide) (by decide) (by decide) (by decide) (by decide) (fun _ _ => rfl) (Nat.le_of_ble_eq_true rfl) (Nat.le_of_ble_eq_true rfl) dX0_copyFrom_27 (fun H locs hP hD hS => ?_)
  replace hP : va_P G.1 vwCl (wBook G ab B_3 ++ wBook G ac C) H := by rw [← e_4]; exact hP
  replace hD : va_D A (wBook G ab B_3 ++ wBook G ac C) := by rw [← e_4]; exact hD
  refine lv_aload_n hx hb dX0_copyFrom_30 rfl (lv_at hl 1 rfl) ?_
  refine va_get (D := G.1) (ci := 0) (v := .ref (ac 3)) (C := RX0) (T := TX0) (N := 4) hx hb hts iwX0 hown hK hP 4 rfl rfl 2 (by decide) ha6 (fun _ h9 => h9) rfl dX0_copyFrom_31 ?_
  refine lv_iconst (v := nI 0) hx hb dX0_copyFrom_34 (by decide) ?_
  refine lv_aload_n hx hb dX0_copyFrom_35 rfl (lv_at hl 0 rfl) ?_
  refine va_get (D := G.1) (ci := 0) (v := .ref (ab 3)) (C := RX0) (T := TX0) (N := 4) hx hb hts iwX0 hown hK hP 0 rfl rfl 2 (by decide) ha6 (fun _ h9 => h9) rfl dX0_copyFrom_36 ?_
  refine lv_iconst (v := nI 0) hx hb dX0_copyFrom_39 (by decide) ?_
  refine lv_bipush (v := nI 9) hx hb dX0_copyFrom_40 (by decide) ?_
  obtain ⟨B_5, e_6, hrun⟩ := bd hrun
  replace e_6 := si e_6
  refine va_copyi hx hb (by rw [hml]; exact hl.1.symm) hown ha1 ha2 ha3 ha4 hK hP hD hS 7 3 0 0 rfl rfl rfl rfl rfl (by decide) (by decide) (by decide) (by decide) (by decide) (fun _ _ => rfl) (Nat.le_of_ble_eq_true rfl) (Nat.le_of_ble_eq_true rfl) dX0_copyFrom_42 (fun H locs hP hD hS => ?_)
  replace hP : va_P G.1 vwCl (wBook G ab B_5 ++ wBook G ac C) H := by rw [← e_6]; exact hP
  replace hD : va_D A (wBook G ab B_5 ++ wBook G ac C) := by rw [← e_6]; exact hD
  refine lv_aload_n hx hb dX0_copyFrom_45 rfl (lv_at hl 0 rfl) ?_
  refine lv_aload_n hx hb dX0_copyFrom_46 rfl (lv_at hl 1 rfl) ?_
  refine va_get (D := G.1) (ci := 0) (v := .int (C 3 0)) (C := RX0) (T := TX0) (N := 4) hx hb hts iwX0 hown hK hP 4 rfl rfl 3 (by decide) ha7 (fun _ h9 => h9) rfl dX0_copyFrom_47 ?_
  obtain ⟨B_7, e_8, hrun⟩ := bd hrun
  replace e_8 := si e_8
  refine va_put (D := G.1) (ci := 0) (v := .int (C 3 0)) (ty := .int) (C := RX0) (T := TX0) (N := 4) hx hb hts iwX0 tyX0 tyX0_ok nmX0 hown hK hP hD hS 0 rfl rfl 3 (by decide) ha7 (fun _ h9 => h9) rfl (by decide +kernel) rfl rfl (Nat.le_of_ble_eq_true rfl) dX0_copyFrom_50 (fun H locs hP hD hS => ?_)
  replace hP : va_P G.1 vwCl (wBook G ab B_7 ++ wBook G ac C) H := by rw [← e_8]; exact hP
  replace hD : va_D A (wBook G ab B_7 ++ wBook G ac C) := by rw [← e_8]; exact hD
  have hr2 := si hrun
  exact W.vret hx hb hr (fun t ht hW => ⟨⟨(), rfl, trivial, by rw [ht, ← hr2]; exact hP, by rw [← hr2]; exact hD⟩, hS.F ht⟩) hS.2.2 dX0_copyFrom_53
def p_X0_mayRule_50 (B : Ob) (x3 : Int32) (y0 : Int32)  : Option (Int32) := (if x3 ≤ y0 then (some (nI 0)) else (some (nI 1)))
def p_X0_mayRule_34 (B : Ob) (x1 : Int32) (x2 : Int32) (y0 : Int32)  : Option (Int32) := (if x1 = (nI 2) then p_X0_mayRule_50 B y0 x2 else ((ldI (B 2) 9 (nI 2)).bind fun v_11 => p_X0_mayRule_50 B y0 v_11))
def p_X0_mayRule (B : Ob) (u1 : Int32) (u2 : Int32)  : Option (Int32) := ((ldI tLeast 9 u1).bind fun v_1 => (if u2 < v_1 then (some (nI 0)) else ((ldI tMost 9 u1).bind fun v_4 => (if u2 ≤ v_4 then (if u1 = nI 0 then p_X0_mayRule_34 B u1 u2 u2 else ((ldI (B 2) 9 (nI 0)).bind fun v_8 => p_X0_mayRule_34 B u1 u2 v_8)) else (some (nI 0))))))
abbrev rmX0_mayRule : Room := { frames := 0, cells := 0, slots := 0, locals := 0 }
set_option maxHeartbeats 4000000 in
set_option maxRecDepth 100000 in
theorem c_X0_mayRule (l : Launch) (G : GT) (t : Nat → Nat) (ab : Nat → Nat) (B : Ob) (u1 u2 : Int32) (r0 : Int32) (hrun : p_X0_mayRule B u1 u2 = some r0) : Met l yX0_mayRule wsX0_mayRule rmX0_mayRule (PreT G t [.ref (ab 0), .int u1, .int u2] (wBook G ab B)) (Rz r0) 0 0 (fun _ => False) := by
  refine Met.ofW (cc := cX0_mayRule) (maxL := 5) (ret := (some .boolean)) (by decide) rfl ?_
  intro p e s m args below meth c s₁ Bd hml hv
  obtain ⟨rfl, hP, hC, hT1, hT2⟩ := hv
  have hx := Bd.exec
  have hb := Bd.bytes
  have hr := Bd.returns
  have hts := atoms_spec (ws := wsX0_mayRule) Bd.pre
  have hown : s.vm.findClass RX0 = some m.cls := findClass_of_methodNamed Bd.named
  have hlocks := Bd.notSynchronized
  have hK := hC.1
  have iwX0 : ∀ w ∈ wsX00, w ∈ wsX0_mayRule := by decide +kernel
  have ha0 := hts (.fieldLink RX0 26 "HeadMarks$Book" "rules" "[I") (by decide +kernel)
  have kJ_50 : ∀ (x3 y0 : Int32) , ∀ (ls : Array Slot), lv_has ls 5 [(3, .int x3)] → p_X0_mayRule_50 B x3 y0 = some r0 → W p l e (headSpec wsX0_mayRule rmX0_mayRule).room s m ([.ref (ab 0), .int u1, .int u2] : List Value).toArray below meth c s.heap [] 0 0 (MQ below (Rz r0) ([.ref (ab 0), .int u1, .int u2] : List Value).toArray s 0 0 (fun _ => False)) (F0 m 50 ls [.int y0]) := by
    intro x3 y0 ls hl hrun
    rw [p_X0_mayRule_50] at hrun
    refine lv_istore (lv' := [(4, .int y0), (3, .int x3)]) hx hb dX0_mayRule_50 hl (by decide) rfl (fun ls hl => ?_)
    refine lv_iload hx hb dX0_mayRule_52 (lv_at hl 0 rfl) ?_
    refine lv_iload_n hx hb dX0_mayRule_54 rfl (lv_at hl 1 rfl) ?_
    refine lv_icmp_ge (tgt := 62) hx hb dX0_mayRule_55 (by decide) (fun c_13 => ?_) (fun c_13 => ?_)
    · replace hrun := it_pos c_13 hrun
      refine lv_iconst (v := nI 0) hx hb dX0_mayRule_62 (by decide) ?_
      exact W.zret (v := (nI 0)) hx hb hr (by rfl) (fun t ht hW => ⟨(nI 0), rfl, ⟨si hrun, by rfl⟩, ht⟩) (fun _ h => absurd h List.not_mem_nil) dX0_mayRule_63
    · replace hrun := it_neg c_13 hrun
      refine lv_iconst (v := nI 1) hx hb dX0_mayRule_58 (by decide) ?_
      refine lv_goto (tgt := 63) hx hb dX0_mayRule_59 (by decide) ?_
      exact W.zret (v := (nI 1)) hx hb hr (by rfl) (fun t ht hW => ⟨(nI 1), rfl, ⟨si hrun, by rfl⟩, ht⟩) (fun _ h => absurd h List.not_mem_nil) dX0_mayRule_63
  have kJ_34 : ∀ (x1 x2 y0 : Int32) , ∀ (ls : Array Slot), lv_has ls 5 [(0, .ref (ab 0)), (1, .int x1), (2, .int x2)] → p_X0_mayRule_34 B x1 x2 y0 = some r0 → W p l e (headSpec wsX0_mayRule rmX0_mayRule).room s m ([.ref (ab 0), .int u1, .int u2] : List Value).toArray below meth c s.heap [] 0 0 (MQ below (Rz r0) ([.ref (ab 0), .int u1, .int u2] : List Value).toArray s 0 0 (fun _ => False)) (F0 m 34 ls [.int y0]) := by
    intro x1 x2 y0 ls hl hrun
    rw [p_X0_mayRule_34] at hrun
    refine lv_istore_n (lv' := [(3, .int y0), (0, .ref (ab 0)), (1, .int x1), (2, .int x2)]) hx hb dX0_mayRule_34 rfl hl (by decide) rfl (fun ls hl => ?_)
    refine lv_iload_n hx hb dX0_mayRule_35 rfl (lv_at hl 2 rfl) ?_
    refine lv_iconst (v := nI 2) hx hb dX0_mayRule_36 (by decide) ?_
    refine lv_icmp_ne (tgt := 44) hx hb dX0_mayRule_37 (by decide) (fun c_10 => ?_) (fun c_10 => ?_)
    · replace hrun := it_neg c_10 hrun
      refine lv_aload_n hx hb dX0_mayRule_44 rfl (lv_at hl 1 rfl) ?_
      refine va_get (D := G.1) (ci := 0) (v := .ref (ab 3)) (C := RX0) (T := TX0) (N := 4) hx hb hts iwX0 hown hK hP 0 rfl rfl 2 (by decide) ha0 (fun _ h9 => h9) rfl dX0_mayRule_45 ?_
      refine lv_iconst (v := nI 2) hx hb dX0_mayRule_48 (by decide) ?_
      obtain ⟨v_11, e_12, hrun⟩ := bd hrun
      refine y_ald hx hb hK hP 3 0 rfl rfl e_12 dX0_mayRule_49 ?_
      exact kJ_50 y0 v_11  ls (lv_sub hl [0] rfl) hrun
    · replace hrun := it_pos c_10 hrun
      refine lv_iload_n hx hb dX0_mayRule_40 rfl (lv_at hl 3 rfl) ?_
      refine lv_goto (tgt := 50) hx hb dX0_mayRule_41 (by decide) ?_
      exact kJ_50 y0 x2  ls (lv_sub hl [0] rfl) hrun
  have hl := lv_entry [.ref (ab 0), .int u1, .int u2] (n := 5) (Nat.le_of_ble_eq_true rfl)
  rw [lg_entry_eq]
  generalize (lg_sl [.ref (ab 0), .int u1, .int u2] ++ List.replicate (5 - (lg_sl [.ref (ab 0), .int u1, .int u2]).length) Slot.unset).toArray = ls at hl ⊢
  have hl : lv_has ls 5 [(0, .ref (ab 0)), (1, .int u1), (2, .int u2)] := hl
  rw [p_X0_mayRule] at hrun
  refine lv_iload_n hx hb dX0_mayRule_0 rfl (lv_at hl 2 rfl) ?_
  refine va_getsN hx hb hT1.1 va_S.rf hown (va_Nw.use rfl hC.2.2.2.2.1) (fun _ h9 => h9) dX0_mayRule_1 ?_
  refine lv_iload_n hx hb dX0_mayRule_4 rfl (lv_at hl 1 rfl) ?_
  obtain ⟨v_1, e_2, hrun⟩ := bd hrun
  refine y_tab hx hb hT1.2 va_S.rf e_2 dX0_mayRule_5 ?_
  refine lv_icmp_lt (tgt := 18) hx hb dX0_mayRule_6 (by decide) (fun c_3 => ?_) (fun c_3 => ?_)
  · replace hrun := it_pos c_3 hrun
    refine lv_iconst (v := nI 0) hx hb dX0_mayRule_18 (by decide) ?_
    exact W.zret (v := (nI 0)) hx hb hr (by rfl) (fun t ht hW => ⟨(nI 0), rfl, ⟨si hrun, by rfl⟩, ht⟩) (fun _ h => absurd h List.not_mem_nil) dX0_mayRule_19
  · replace hrun := it_neg c_3 hrun
    refine lv_iload_n hx hb dX0_mayRule_9 rfl (lv_at hl 2 rfl) ?_
    refine va_getsN hx hb hT2.1 va_S.rf hown (va_Nw.use rfl hC.2.2.2.2.2) (fun _ h9 => h9) dX0_mayRule_10 ?_
    refine lv_iload_n hx hb dX0_mayRule_13 rfl (lv_at hl 1 rfl) ?_
    obtain ⟨v_4, e_5, hrun⟩ := bd hrun
    refine y_tab hx hb hT2.2 va_S.rf e_5 dX0_mayRule_14 ?_
    refine lv_icmp_le (tgt := 20) hx hb dX0_mayRule_15 (by decide) (fun c_6 => ?_) (fun c_6 => ?_)
    · replace hrun := it_pos c_6 hrun
      refine lv_iload_n hx hb dX0_mayRule_20 rfl (lv_at hl 1 rfl) ?_
      refine lv_if_ne (tgt := 28) hx hb dX0_mayRule_21 (by decide) (fun c_7 => ?_) (fun c_7 => ?_)
      · replace hrun := it_neg c_7 hrun
        refine lv_aload_n hx hb dX0_mayRule_28 rfl (lv_at hl 0 rfl) ?_
        refine va_get (D := G.1) (ci := 0) (v := .ref (ab 3)) (C := RX0) (T := TX0) (N := 4) hx hb hts iwX0 hown hK hP 0 rfl rfl 2 (by decide) ha0 (fun _ h9 => h9) rfl dX0_mayRule_29 ?_
        refine lv_iconst (v := nI 0) hx hb dX0_mayRule_32 (by decide) ?_
        obtain ⟨v_8, e_9, hrun⟩ := bd hrun
        refine y_ald hx hb hK hP 3 0 rfl rfl e_9 dX0_mayRule_33 ?_
        exact kJ_34 u1 u2 v_8  ls (lv_sub hl [0, 1, 2] rfl) hrun
      · replace hrun := it_pos c_7 hrun
        refine lv_iload_n hx hb dX0_mayRule_24 rfl (lv_at hl 2 rfl) ?_
        refine lv_goto (tgt := 34) hx hb dX0_mayRule_25 (by decide) ?_
        exact kJ_34 u1 u2 u2  ls (lv_sub hl [0, 1, 2] rfl) hrun
    · replace hrun := it_neg c_6 hrun
      refine lv_iconst (v := nI 0) hx hb dX0_mayRule_18 (by decide) ?_
      exact W.zret (v := (nI 0)) hx hb hr (by rfl) (fun t ht hW => ⟨(nI 0), rfl, ⟨si hrun, by rfl⟩, ht⟩) (fun _ h => absurd h List.not_mem_nil) dX0_mayRule_19
def p_X0_canBreakAhead (B : Ob) (u1 : Int32)  : Option (Int32) := (if u1 < (nI 1) then (some (nI 0)) else (if (B 3 0) ≤ u1 then (some (nI 0)) else (some (nI 1))))
abbrev rmX0_canBreakAhead : Room := { frames := 0, cells := 0, slots := 0, locals := 0 }
set_option maxHeartbeats 4000000 in
set_option maxRecDepth 100000 in
theorem c_X0_canBreakAhead (l : Launch) (G : GT) (ab : Nat → Nat) (B : Ob) (u1 : Int32) (r0 : Int32) (hrun : p_X0_canBreakAhead B u1 = some r0) : Met l yX0_canBreakAhead wsX0_canBreakAhead rmX0_canBreakAhead (PreR G [.ref (ab 0), .int u1] (wBook G ab B)) (Rz r0) 0 0 (fun _ => False) := by
  refine Met.ofW (cc := cX0_canBreakAhead) (maxL := 2) (ret := (some .boolean)) (by decide) rfl ?_
  intro p e s m args below meth c s₁ Bd hml hv
  obtain ⟨rfl, hP, hC⟩ := hv
  have hx := Bd.exec
  have hb := Bd.bytes
  have hr := Bd.returns
  have hts := atoms_spec (ws := wsX0_canBreakAhead) Bd.pre
  have hown : s.vm.findClass RX0 = some m.cls := findClass_of_methodNamed Bd.named
  have hlocks := Bd.notSynchronized
  have hK := hC.1
  have iwX0 : ∀ w ∈ wsX00, w ∈ wsX0_canBreakAhead := by decide +kernel
  have ha0 := hts (.fieldLink RX0 29 "HeadMarks$Book" "lines" "I") (by decide +kernel)
  have hl := lv_entry [.ref (ab 0), .int u1] (n := 2) (Nat.le_of_ble_eq_true rfl)
  rw [lg_entry_eq]
  generalize (lg_sl [.ref (ab 0), .int u1] ++ List.replicate (2 - (lg_sl [.ref (ab 0), .int u1]).length) Slot.unset).toArray = ls at hl ⊢
  have hl : lv_has ls 2 [(0, .ref (ab 0)), (1, .int u1)] := hl
  rw [p_X0_canBreakAhead] at hrun
  refine lv_iload_n hx hb dX0_canBreakAhead_0 rfl (lv_at hl 1 rfl) ?_
  refine lv_iconst (v := nI 1) hx hb dX0_canBreakAhead_1 (by decide) ?_
  refine lv_icmp_lt (tgt := 17) hx hb dX0_canBreakAhead_2 (by decide) (fun c_1 => ?_) (fun c_1 => ?_)
  · replace hrun := it_pos c_1 hrun
    refine lv_iconst (v := nI 0) hx hb dX0_canBreakAhead_17 (by decide) ?_
    exact W.zret (v := (nI 0)) hx hb hr (by rfl) (fun t ht hW => ⟨(nI 0), rfl, ⟨si hrun, by rfl⟩, ht⟩) (fun _ h => absurd h List.not_mem_nil) dX0_canBreakAhead_18
  · replace hrun := it_neg c_1 hrun
    refine lv_iload_n hx hb dX0_canBreakAhead_5 rfl (lv_at hl 1 rfl) ?_
    refine lv_aload_n hx hb dX0_canBreakAhead_6 rfl (lv_at hl 0 rfl) ?_
    refine va_get (D := G.1) (ci := 0) (v := .int (B 3 0)) (C := RX0) (T := TX0) (N := 4) hx hb hts iwX0 hown hK hP 0 rfl rfl 3 (by decide) ha0 (fun _ h9 => h9) rfl dX0_canBreakAhead_7 ?_
    refine lv_icmp_ge (tgt := 17) hx hb dX0_canBreakAhead_10 (by decide) (fun c_2 => ?_) (fun c_2 => ?_)
    · replace hrun := it_pos c_2 hrun
      refine lv_iconst (v := nI 0) hx hb dX0_canBreakAhead_17 (by decide) ?_
      exact W.zret (v := (nI 0)) hx hb hr (by rfl) (fun t ht hW => ⟨(nI 0), rfl, ⟨si hrun, by rfl⟩, ht⟩) (fun _ h => absurd h List.not_mem_nil) dX0_canBreakAhead_18
    · replace hrun := it_neg c_2 hrun
      refine lv_iconst (v := nI 1) hx hb dX0_canBreakAhead_13 (by decide) ?_
      refine lv_goto (tgt := 18) hx hb dX0_canBreakAhead_14 (by decide) ?_
      exact W.zret (v := (nI 1)) hx hb hr (by rfl) (fun t ht hW => ⟨(nI 1), rfl, ⟨si hrun, by rfl⟩, ht⟩) (fun _ h => absurd h List.not_mem_nil) dX0_canBreakAhead_18
def p_X0_countBreaks_4 (B : Ob) : Nat → Int32 → Int32 → Option (Int32)
  | 0, _, _ => none
  | n + 1, x1, x2 => (if (B 3 0) ≤ x2 then (some x1) else ((ldI (B 1) 60 x2).bind fun v_2 => p_X0_countBreaks_4 B n (x1 + v_2) (x2 + nI 1)))
def p_X0_countBreaks (B : Ob)   : Option (Int32) := p_X0_countBreaks_4 B 200 (nI 0) (nI 0)
abbrev rmX0_countBreaks : Room := { frames := 0, cells := 0, slots := 0, locals := 0 }
set_option maxHeartbeats 4000000 in
set_option maxRecDepth 100000 in
theorem c_X0_countBreaks (l : Launch) (G : GT) (ab : Nat → Nat) (B : Ob) (r0 : Int32) (hrun : p_X0_countBreaks B = some r0) : Met l yX0_countBreaks wsX0_countBreaks rmX0_countBreaks (PreR G [.ref (ab 0)] (wBook G ab B)) (Ri r0) 0 0 (fun _ => False) := by
  refine Met.ofW (cc := cX0_countBreaks) (maxL := 3) (ret := (some .int)) (by decide) rfl ?_
  intro p e s m args below meth c s₁ Bd hml hv
  obtain ⟨rfl, hP, hC⟩ := hv
  have hx := Bd.exec
  have hb := Bd.bytes
  have hr := Bd.returns
  have hts := atoms_spec (ws := wsX0_countBreaks) Bd.pre
  have hown : s.vm.findClass RX0 = some m.cls := findClass_of_methodNamed Bd.named
  have hlocks := Bd.notSynchronized
  have hK := hC.1
  have iwX0 : ∀ w ∈ wsX00, w ∈ wsX0_countBreaks := by decide +kernel
  have ha0 := hts (.fieldLink RX0 29 "HeadMarks$Book" "lines" "I") (by decide +kernel)
  have ha1 := hts (.fieldLink RX0 15 "HeadMarks$Book" "broken" "[I") (by decide +kernel)
  have kH_4 : ∀ (n : Nat) (x1 x2 : Int32) , ∀ (ls : Array Slot), lv_has ls 3 [(0, .ref (ab 0)), (1, .int x1), (2, .int x2)] → p_X0_countBreaks_4 B n x1 x2 = some r0 → W p l e (headSpec wsX0_countBreaks rmX0_countBreaks).room s m ([.ref (ab 0)] : List Value).toArray below meth c s.heap [] 0 0 (MQ below (Ri r0) ([.ref (ab 0)] : List Value).toArray s 0 0 (fun _ => False)) (F0 m 4 ls []) := by
    intro n
    induction n with
    | zero => intro x1 x2 ls hl hrun; exact absurd (hrun : (none : Option (Int32)) = some r0) (fun h => by cases h)
    | succ n ih =>
      intro x1 x2 ls hl hrun
      rw [p_X0_countBreaks_4] at hrun
      refine lv_iload_n hx hb dX0_countBreaks_4 rfl (lv_at hl 2 rfl) ?_
      refine lv_aload_n hx hb dX0_countBreaks_5 rfl (lv_at hl 0 rfl) ?_
      refine va_get (D := G.1) (ci := 0) (v := .int (B 3 0)) (C := RX0) (T := TX0) (N := 4) hx hb hts iwX0 hown hK hP 0 rfl rfl 3 (by decide) ha0 (fun _ h9 => h9) rfl dX0_countBreaks_6 ?_
      refine lv_icmp_ge (tgt := 27) hx hb dX0_countBreaks_9 (by decide) (fun c_1 => ?_) (fun c_1 => ?_)
      · replace hrun := it_pos c_1 hrun
        refine lv_iload_n hx hb dX0_countBreaks_27 rfl (lv_at hl 1 rfl) ?_
        exact W.iret (v := x1) hx hb hr (fun t ht hW => ⟨x1, rfl, si hrun, ht⟩) (fun _ h => absurd h List.not_mem_nil) dX0_countBreaks_28
      · replace hrun := it_neg c_1 hrun
        refine lv_iload_n hx hb dX0_countBreaks_12 rfl (lv_at hl 1 rfl) ?_
        refine lv_aload_n hx hb dX0_countBreaks_13 rfl (lv_at hl 0 rfl) ?_
        refine va_get (D := G.1) (ci := 0) (v := .ref (ab 2)) (C := RX0) (T := TX0) (N := 4) hx hb hts iwX0 hown hK hP 0 rfl rfl 1 (by decide) ha1 (fun _ h9 => h9) rfl dX0_countBreaks_14 ?_
        refine lv_iload_n hx hb dX0_countBreaks_17 rfl (lv_at hl 2 rfl) ?_
        obtain ⟨v_2, e_3, hrun⟩ := bd hrun
        refine y_ald hx hb hK hP 2 0 rfl rfl e_3 dX0_countBreaks_18 ?_
        refine lv_iadd hx hb dX0_countBreaks_19 ?_
        refine lv_istore_n (lv' := [(1, .int (x1 + v_2)), (0, .ref (ab 0)), (2, .int x2)]) hx hb dX0_countBreaks_20 rfl hl (by decide) rfl (fun ls hl => ?_)
        refine lv_iinc (v := (x2 + nI 1)) (lv' := [(2, .int (x2 + nI 1)), (1, .int (x1 + v_2)), (0, .ref (ab 0))]) hx hb dX0_countBreaks_21 hl (k := 2) rfl rfl (by decide) rfl (fun ls hl => ?_)
        refine lv_goto (tgt := 4) hx hb dX0_countBreaks_24 (by decide) ?_
        exact ih (x1 + v_2) (x2 + nI 1)  ls (lv_sub hl [2, 1, 0] rfl) hrun
  have hl := lv_entry [.ref (ab 0)] (n := 3) (Nat.le_of_ble_eq_true rfl)
  rw [lg_entry_eq]
  generalize (lg_sl [.ref (ab 0)] ++ List.replicate (3 - (lg_sl [.ref (ab 0)]).length) Slot.unset).toArray = ls at hl ⊢
  have hl : lv_has ls 3 [(0, .ref (ab 0))] := hl
  rw [p_X0_countBreaks] at hrun
  refine lv_iconst (v := nI 0) hx hb dX0_countBreaks_0 (by decide) ?_
  refine lv_istore_n (lv' := [(1, .int (nI 0)), (0, .ref (ab 0))]) hx hb dX0_countBreaks_1 rfl hl (by decide) rfl (fun ls hl => ?_)
  refine lv_iconst (v := nI 0) hx hb dX0_countBreaks_2 (by decide) ?_
  refine lv_istore_n (lv' := [(2, .int (nI 0)), (1, .int (nI 0)), (0, .ref (ab 0))]) hx hb dX0_countBreaks_3 rfl hl (by decide) rfl (fun ls hl => ?_)
  exact kH_4 200 (nI 0) (nI 0)  ls (lv_sub hl [2, 1, 0] rfl) hrun
