def p_X0_countSections_28 (B : Ob) (K : Int32 → Int32 → Int32 → Option (Int32)) (x2 : Int32) (x3 : Int32) (x4 : Int32)  : Option (Int32) := K x2 x3 (x4 + nI 1)
def p_X0_countSections_5 (B : Ob) : Nat → Int32 → Int32 → Int32 → Option (Int32)
  | 0, _, _, _ => none
  | n + 1, x2, x3, x4 => (if x2 < x4 then (some x3) else ((ldI (B 0) 60 x4).bind fun v_2 => ((p_X3_classOf v_2).bind fun v_4 => (if v_4 = (nI 1) then p_X0_countSections_28 B (p_X0_countSections_5 B n) x2 (x3 + nI 1) x4 else p_X0_countSections_28 B (p_X0_countSections_5 B n) x2 x3 x4))))
def p_X0_countSections (B : Ob) (u1 : Int32) (u2 : Int32)  : Option (Int32) := p_X0_countSections_5 B 200 u2 (nI 0) u1
abbrev rmX0_countSections : Room := { frames := 1, cells := 0, slots := 0, locals := 20 }
set_option maxHeartbeats 4000000 in
set_option maxRecDepth 100000 in
theorem c_X0_countSections (l : Launch) (G : GT) (ab : Nat → Nat) (B : Ob) (u1 u2 : Int32) (r0 : Int32) (hrun : p_X0_countSections B u1 u2 = some r0) : Met l yX0_countSections wsX0_countSections rmX0_countSections (PreR G [.ref (ab 0), .int u1, .int u2] (wBook G ab B)) (Ri r0) 0 0 (fun _ => False) := by
  refine Met.ofW (cc := cX0_countSections) (maxL := 5) (ret := (some .int)) (by decide) rfl ?_
  intro p e s m args below meth c s₁ Bd hml hv
  obtain ⟨rfl, hP, hC⟩ := hv
  have hx := Bd.exec
  have hb := Bd.bytes
  have hr := Bd.returns
  have hts := atoms_spec (ws := wsX0_countSections) Bd.pre
  have hown : s.vm.findClass RX0 = some m.cls := findClass_of_methodNamed Bd.named
  have hlocks := Bd.notSynchronized
  have hK := hC.1
  have iwX0 : ∀ w ∈ wsX00, w ∈ wsX0_countSections := by decide +kernel
  have ha0 := hts (.fieldLink RX0 9 "HeadMarks$Book" "signs" "[I") (by decide +kernel)
  have ha1 := hts (.initialized RX3) (by decide +kernel)
  have ha2 := hts (.static yX3_classOf) (by decide +kernel)
  have kH_5 : ∀ (n : Nat) (x2 x3 x4 : Int32) , ∀ (ls : Array Slot), lv_has ls 5 [(0, .ref (ab 0)), (2, .int x2), (3, .int x3), (4, .int x4)] → p_X0_countSections_5 B n x2 x3 x4 = some r0 → W p l e (headSpec wsX0_countSections rmX0_countSections).room s m ([.ref (ab 0), .int u1, .int u2] : List Value).toArray below meth c s.heap [] 0 0 (MQ below (Ri r0) ([.ref (ab 0), .int u1, .int u2] : List Value).toArray s 0 0 (fun _ => False)) (F0 m 5 ls []) := by
    intro n
    induction n with
    | zero => intro x2 x3 x4 ls hl hrun; exact absurd (hrun : (none : Option (Int32)) = some r0) (fun h => by cases h)
    | succ n ih =>
      have kJ_28 : ∀ (x2 x3 x4 : Int32) , ∀ (ls : Array Slot), lv_has ls 5 [(0, .ref (ab 0)), (2, .int x2), (3, .int x3), (4, .int x4)] → p_X0_countSections_28 B (p_X0_countSections_5 B n) x2 x3 x4 = some r0 → W p l e (headSpec wsX0_countSections rmX0_countSections).room s m ([.ref (ab 0), .int u1, .int u2] : List Value).toArray below meth c s.heap [] 0 0 (MQ below (Ri r0) ([.ref (ab 0), .int u1, .int u2] : List Value).toArray s 0 0 (fun _ => False)) (F0 m 28 ls []) := by
        intro x2 x3 x4 ls hl hrun
        rw [p_X0_countSections_28] at hrun
        refine lv_iinc (v := (x4 + nI 1)) (lv' := [(4, .int (x4 + nI 1)), (0, .ref (ab 0)), (2, .int x2), (3, .int x3)]) hx hb dX0_countSections_28 hl (k := 3) rfl rfl (by decide) rfl (fun ls hl => ?_)
        refine lv_goto (tgt := 5) hx hb dX0_countSections_31 (by decide) ?_
        exact ih x2 x3 (x4 + nI 1)  ls (lv_sub hl [1, 2, 3, 0] rfl) hrun
      intro x2 x3 x4 ls hl hrun
      rw [p_X0_countSections_5] at hrun
      refine lv_iload hx hb dX0_countSections_5 (lv_at hl 3 rfl) ?_
      refine lv_iload_n hx hb dX0_countSections_7 rfl (lv_at hl 1 rfl) ?_
      refine lv_icmp_gt (tgt := 34) hx hb dX0_countSections_8 (by decide) (fun c_1 => ?_) (fun c_1 => ?_)
      · replace hrun := it_pos c_1 hrun
        refine lv_iload_n hx hb dX0_countSections_34 rfl (lv_at hl 2 rfl) ?_
        exact W.iret (v := x3) hx hb hr (fun t ht hW => ⟨x3, rfl, si hrun, ht⟩) (fun _ h => absurd h List.not_mem_nil) dX0_countSections_35
      · replace hrun := it_neg c_1 hrun
        refine lv_aload_n hx hb dX0_countSections_11 rfl (lv_at hl 0 rfl) ?_
        refine va_get (D := G.1) (ci := 0) (v := .ref (ab 1)) (C := RX0) (T := TX0) (N := 4) hx hb hts iwX0 hown hK hP 0 rfl rfl 0 (by decide) ha0 (fun _ h9 => h9) rfl dX0_countSections_12 ?_
        refine lv_iload hx hb dX0_countSections_15 (lv_at hl 3 rfl) ?_
        obtain ⟨v_2, e_3, hrun⟩ := bd hrun
        refine y_ald hx hb hK hP 1 0 rfl rfl e_3 dX0_countSections_17 ?_
        obtain ⟨v_4, e_5, hrun⟩ := bd hrun
        refine y_ro (va_runSN (As := [.int v_2]) (rest := []) ⟨hx, hb, hml, hown, hts⟩ (c_X3_classOf l G   v_2 v_4 e_5) ⟨va_cnB 1 hts ggX0_countSections_X3_classOf rfl rfl rfl hC.2.2.2.1 ha1 (by decide +kernel) ⟨Nat.le_of_ble_eq_true rfl, Nat.le_of_ble_eq_true rfl⟩, ha2, trivial⟩ ⟨PreR.blind, y_preR hC (fun _ _ h => by cases h)⟩ rfl rfl hl.1 rfl (lv_room (Nat.le_of_ble_eq_true rfl)) dX0_countSections_18 ⟨Nat.zero_le _, Nat.zero_le _⟩) ?_
        refine lv_iconst (v := nI 1) hx hb dX0_countSections_21 (by decide) ?_
        refine lv_icmp_ne (tgt := 28) hx hb dX0_countSections_22 (by decide) (fun c_6 => ?_) (fun c_6 => ?_)
        · replace hrun := it_neg c_6 hrun
          exact kJ_28 x2 x3 x4  ls (lv_sub hl [0, 1, 2, 3] rfl) hrun
        · replace hrun := it_pos c_6 hrun
          refine lv_iinc (v := (x3 + nI 1)) (lv' := [(3, .int (x3 + nI 1)), (0, .ref (ab 0)), (2, .int x2), (4, .int x4)]) hx hb dX0_countSections_25 hl (k := 2) rfl rfl (by decide) rfl (fun ls hl => ?_)
          exact kJ_28 x2 (x3 + nI 1) x4  ls (lv_sub hl [1, 2, 0, 3] rfl) hrun
  have hl := lv_entry [.ref (ab 0), .int u1, .int u2] (n := 5) (Nat.le_of_ble_eq_true rfl)
  rw [lg_entry_eq]
  generalize (lg_sl [.ref (ab 0), .int u1, .int u2] ++ List.replicate (5 - (lg_sl [.ref (ab 0), .int u1, .int u2]).length) Slot.unset).toArray = ls at hl ⊢
  have hl : lv_has ls 5 [(0, .ref (ab 0)), (1, .int u1), (2, .int u2)] := hl
  rw [p_X0_countSections] at hrun
  refine lv_iconst (v := nI 0) hx hb dX0_countSections_0 (by decide) ?_
  refine lv_istore_n (lv' := [(3, .int (nI 0)), (0, .ref (ab 0)), (1, .int u1), (2, .int u2)]) hx hb dX0_countSections_1 rfl hl (by decide) rfl (fun ls hl => ?_)
  refine lv_iload_n hx hb dX0_countSections_2 rfl (lv_at hl 2 rfl) ?_
  refine lv_istore (lv' := [(4, .int u1), (3, .int (nI 0)), (0, .ref (ab 0)), (1, .int u1), (2, .int u2)]) hx hb dX0_countSections_3 hl (by decide) rfl (fun ls hl => ?_)
  exact kH_5 200 u2 (nI 0) u1  ls (lv_sub hl [2, 4, 1, 0] rfl) hrun
