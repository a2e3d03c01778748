def p_X1_putLine_47 (B : Ob) : Nat → Int32 → Int32 → Ob → Option (Ob)
  | 0, _, _, _ => none
  | n + 1, x2, x3, L => (if (nI 2) ≤ x3 then ((ldI (B 0) 60 x2).bind fun v_13 => ((p_X3_classOf v_13).bind fun v_15 => (if v_15 = (-6) then (some L) else ((p_X1_putMark B x2 v_15 L).bind fun N_19 => (some N_19))))) else (if x3 = nI 0 then ((p_X1_forceBehind L x3 x2).bind fun v_22 => ((stO L 2 60 x2 v_22).bind fun N_24 => p_X1_putLine_47 B n x2 (x3 + nI 1) N_24)) else (if x3 = nI 1 then ((p_X1_forceBehind L x3 x2).bind fun v_26 => ((stO L 3 60 x2 v_26).bind fun N_28 => p_X1_putLine_47 B n x2 (x3 + nI 1) N_28)) else none)))
def p_X1_putLine_44 (B : Ob) (x2 : Int32) (y0 : Int32) (y1 : Int32) (L : Ob) : Option (Ob) := ((stO L 1 60 y1 y0).bind fun N_10 => p_X1_putLine_47 B 200 x2 (nI 0) N_10)
def p_X1_putLine (B : Ob) (u2 : Int32) (L : Ob) : Option (Ob) := ((stO L 0 60 u2 (L 10 0)).bind fun N_1 => ((ldI (N_1 5) 120 (N_1 10 0)).bind fun v_3 => ((stO N_1 5 120 (N_1 10 0) (v_3 + (nI 1))).bind fun N_5 => (if u2 = nI 0 then p_X1_putLine_44 B u2 (-1) u2 N_5 else ((ldI (N_5 1) 60 (u2 - (nI 1))).bind fun v_8 => p_X1_putLine_44 B u2 v_8 u2 N_5)))))
abbrev rmX1_putLine : Room := { frames := 1, cells := 0, slots := 0, locals := 23 }
set_option maxHeartbeats 4000000 in
set_option maxRecDepth 100000 in
theorem c_X1_putLine (l : Launch) (G : GT) (al ab : Nat → Nat) (L B : Ob) (u2 : Int32) (sz : Nat) (L0 : Ob) (hrun : p_X1_putLine B u2 L = some L0) : Met l yX1_putLine wsX1_putLine rmX1_putLine (PreW G [.ref (al 0), .ref (ab 0), .int u2] (wLay G al L ++ wBook G ab B) sz) (QV G (wLay G al L0 ++ wBook G ab B) (va_A (wLay G al L ++ wBook G ab B) sz)) 0 0 (va_A (wLay G al L ++ wBook G ab B) sz) := by
  refine Met.ofW (cc := cX1_putLine) (maxL := 4) (ret := none) (by decide) rfl ?_
  intro p e s m args below meth c s₁ Bd hml hv
  obtain ⟨rfl, hsz, hP, hC, hD0⟩ := hv
  have hx := Bd.exec
  have hb := Bd.bytes
  have hr := Bd.returns
  have hts := atoms_spec (ws := wsX1_putLine) Bd.pre
  have hown : s.vm.findClass RX1 = some m.cls := findClass_of_methodNamed Bd.named
  have hlocks := Bd.notSynchronized
  have hK := hC.1
  have iwX0 : ∀ w ∈ wsX00, w ∈ wsX1_putLine := by decide +kernel
  have iwX1 : ∀ w ∈ wsX10, w ∈ wsX1_putLine := by decide +kernel
  have ha0 := hts (.fieldLink RX1 9 "HeadMarks$Layout" "pageOf" "[I") (by decide +kernel)
  have ha1 := hts (.fieldLink RX1 39 "HeadMarks$Layout" "pages" "I") (by decide +kernel)
  have ha2 := hts (.fieldLink RX1 26 "HeadMarks$Layout" "linesOn" "[I") (by decide +kernel)
  have ha3 := hts (.fieldLink RX1 15 "HeadMarks$Layout" "chapterOf" "[I") (by decide +kernel)
  have ha4 := hts (.fieldLink RX1 63 "HeadMarks$Book" "signs" "[I") (by decide +kernel)
  have ha5 := hts (.initialized RX3) (by decide +kernel)
  have ha6 := hts (.static yX3_classOf) (by decide +kernel)
  have ha7 := hts (.fieldLink RX1 20 "HeadMarks$Layout" "inForce" "[[I") (by decide +kernel)
  subst hsz
  have hD := hD0.self (sz := s.heap.size)
  generalize hAe : va_A (wLay G al L ++ wBook G ab B) s.heap.size = A at hD ⊢
  have hA : ∀ q : Nat, s.heap.size ≤ q → A q := fun q h => by rw [← hAe]; exact Or.inr h
  have hS : va_S A s.heap s.heap [] := va_S.rf
  have kH_47 : ∀ (n : Nat) (x2 x3 : Int32) (L : Ob) , ∀ (H : Heap) (locs : List Loc), va_P G.1 vwCl (wLay G al L ++ wBook G ab B) H → va_D A (wLay G al L ++ wBook G ab B) → va_S A s.heap H locs → ∀ (ls : Array Slot), lv_has ls 4 [(0, .ref (al 0)), (1, .ref (ab 0)), (2, .int x2), (3, .int x3)] → p_X1_putLine_47 B n x2 x3 L = some L0 → W p l e (headSpec wsX1_putLine rmX1_putLine).room s m ([.ref (al 0), .ref (ab 0), .int u2] : List Value).toArray below meth c H locs 0 0 (MQ below (QV G (wLay G al L0 ++ wBook G ab B) A) ([.ref (al 0), .ref (ab 0), .int u2] : List Value).toArray s 0 0 A) (F0 m 47 ls []) := by
    intro n
    induction n with
    | zero => intro x2 x3 L H locs hP hD hS ls hl hrun; exact absurd (hrun : (none : Option (Ob)) = some L0) (fun h => by cases h)
    | succ n ih =>
      intro x2 x3 L H locs hP hD hS ls hl hrun
      rw [p_X1_putLine_47] at hrun
      refine lv_iload_n hx hb dX1_putLine_47 rfl (lv_at hl 3 rfl) ?_
      refine lv_iconst (v := nI 2) hx hb dX1_putLine_48 (by decide) ?_
      refine lv_icmp_ge (tgt := 72) hx hb dX1_putLine_49 (by decide) (fun c_12 => ?_) (fun c_12 => ?_)
      · replace hrun := it_pos c_12 hrun
        refine lv_aload_n hx hb dX1_putLine_72 rfl (lv_at hl 1 rfl) ?_
        refine va_get (D := G.1) (ci := 0) (v := .ref (ab 1)) (C := RX0) (T := TX0) (N := 4) hx hb hts iwX0 hown hK hP 12 rfl rfl 0 (by decide) ha4 (fun _ h9 => h9) rfl dX1_putLine_73 ?_
        refine lv_iload_n hx hb dX1_putLine_76 rfl (lv_at hl 2 rfl) ?_
        obtain ⟨v_13, e_14, hrun⟩ := bd hrun
        refine y_ald hx hb hK hP 13 0 rfl rfl e_14 dX1_putLine_77 ?_
        obtain ⟨v_15, e_16, hrun⟩ := bd hrun
        refine y_ro (va_runSN (As := [.int v_13]) (rest := []) ⟨hx, hb, hml, hown, hts⟩ (c_X3_classOf l G   v_13 v_15 e_16) ⟨va_cnB 1 hts ggX1_putLine_X3_classOf rfl rfl rfl hC.2.2.1 ha5 (by decide +kernel) ⟨Nat.le_of_ble_eq_true rfl, Nat.le_of_ble_eq_true rfl⟩, ha6, trivial⟩ ⟨PreR.blind, y_preR hC (fun _ _ h => by cases h)⟩ rfl rfl hl.1 rfl (lv_room (Nat.le_of_ble_eq_true rfl)) dX1_putLine_78 ⟨Nat.zero_le _, Nat.zero_le _⟩) ?_
        refine lv_istore_n (lv' := [(3, .int v_15), (0, .ref (al 0)), (1, .ref (ab 0)), (2, .int x2)]) hx hb dX1_putLine_81 rfl hl (by decide) rfl (fun ls hl => ?_)
        refine lv_iload_n hx hb dX1_putLine_82 rfl (lv_at hl 0 rfl) ?_
        refine lv_bipush (v := -6) hx hb dX1_putLine_83 (by decide) ?_
        refine lv_icmp_eq (tgt := 95) hx hb dX1_putLine_85 (by decide) (fun c_17 => ?_) (fun c_17 => ?_)
        · replace hrun := it_pos c_17 hrun
          have hr2 := si hrun
          exact W.vret hx hb hr (fun t ht hW => ⟨⟨(), rfl, trivial, by rw [ht, ← hr2]; exact hP, by rw [← hr2]; exact hD⟩, hS.F ht⟩) hS.2.2 dX1_putLine_95
        · replace hrun := it_neg c_17 hrun
          refine lv_aload_n hx hb dX1_putLine_88 rfl (lv_at hl 1 rfl) ?_
          refine lv_aload_n hx hb dX1_putLine_89 rfl (lv_at hl 2 rfl) ?_
          refine lv_iload_n hx hb dX1_putLine_90 rfl (lv_at hl 3 rfl) ?_
          refine lv_iload_n hx hb dX1_putLine_91 rfl (lv_at hl 0 rfl) ?_
          obtain ⟨N_19, e_18, hrun⟩ := bd hrun
          have hF := y_all hD hS hA
          refine y_rwv (va_runV (As := [.ref (ab 0), .int x2, .int v_15]) (rest := []) ⟨hx, hb, hml, hown, hts⟩ (c_X1_putMark l G al ab L B x2 v_15 _ N_19 e_18) (cwV 3 hts gX1_putLine_X1_putMark rfl rfl rfl (by decide +kernel) ⟨Nat.le_of_ble_eq_true rfl, Nat.le_of_ble_eq_true rfl⟩) ⟨PreW.blind, va_recv hK hP (ci := 1) (q0 := 0) rfl rfl, y_preW hC hP hD⟩ rfl rfl hl.1 rfl (lv_room (Nat.le_of_ble_eq_true rfl)) dX1_putLine_92 ⟨Nat.zero_le _, Nat.zero_le _⟩) hS hF (fun H locs hP1 hD1 hk1 hS => ?_)
          replace hP : va_P G.1 vwCl (wLay G al N_19 ++ wBook G ab B) H := hP1
          replace hD : va_D A (wLay G al N_19 ++ wBook G ab B) := hD1.weaken (fun _ q _ h => hF q.1 h)
          clear hP1 hD1 hk1 hF
          have hr2 := si hrun
          exact W.vret hx hb hr (fun t ht hW => ⟨⟨(), rfl, trivial, by rw [ht, ← hr2]; exact hP, by rw [← hr2]; exact hD⟩, hS.F ht⟩) hS.2.2 dX1_putLine_95
      · replace hrun := it_neg c_12 hrun
        refine lv_aload_n hx hb dX1_putLine_52 rfl (lv_at hl 0 rfl) ?_
        refine va_get (D := G.1) (ci := 1) (v := .ref (al 3)) (C := RX1) (T := TX1) (N := 9) hx hb hts iwX1 hown hK hP 0 rfl rfl 2 (by decide) ha7 (fun _ h9 => h9) rfl dX1_putLine_53 ?_
        refine lv_iload_n hx hb dX1_putLine_56 rfl (lv_at hl 3 rfl) ?_
        by_cases c_20 : x3 = nI 0
        · replace hrun := it_pos c_20 hrun
          refine y_aald (v := al 4) hx hb hK hP 3 3 rfl rfl rfl (by rw [c_20]; exact (by decide : ¬ (nI 0 < 0 ∨ 2 ≤ (nI 0).toNatClampNeg))) (by rw [c_20]; rfl) dX1_putLine_57 ?_
          refine lv_iload_n hx hb dX1_putLine_58 rfl (lv_at hl 2 rfl) ?_
          refine lv_aload_n hx hb dX1_putLine_59 rfl (lv_at hl 0 rfl) ?_
          refine lv_iload_n hx hb dX1_putLine_60 rfl (lv_at hl 3 rfl) ?_
          refine lv_iload_n hx hb dX1_putLine_61 rfl (lv_at hl 2 rfl) ?_
          obtain ⟨v_22, e_23, hrun⟩ := bd hrun
          refine y_ro (va_runV (As := [.int x3, .int x2]) (rest := [.int x2, .ref (al 4)]) ⟨hx, hb, hml, hown, hts⟩ (c_X1_forceBehind l G al L x3 x2 v_22 e_23) (cwV 2 hts gX1_putLine_X1_forceBehind rfl rfl rfl (by decide +kernel) ⟨Nat.le_of_ble_eq_true rfl, Nat.le_of_ble_eq_true rfl⟩) ⟨PreR.blind, va_recv hK hP (ci := 1) (q0 := 0) rfl rfl, y_preR hC (hP.sub (ws' := wLay G al L) [0, 1, 2, 3, 4, 5, 6, 7, 8, 9, 10, 11] rfl)⟩ rfl rfl hl.1 rfl (lv_room (Nat.le_of_ble_eq_true rfl)) dX1_putLine_62 ⟨Nat.zero_le _, Nat.zero_le _⟩) ?_
          obtain ⟨N_24, e_25, hrun⟩ := bd hrun
          replace e_25 := stO_spec e_25
          refine va_iast hx hb hK hP hD hS 4 0 rfl rfl e_25.1 dX1_putLine_65 (fun H locs hP hD hS => ?_)
          replace hP : va_P G.1 vwCl (wLay G al N_24 ++ wBook G ab B) H := by rw [← e_25.2]; exact hP
          replace hD : va_D A (wLay G al N_24 ++ wBook G ab B) := by rw [← e_25.2]; exact hD
          refine lv_iinc (v := (x3 + nI 1)) (lv' := [(3, .int (x3 + nI 1)), (0, .ref (al 0)), (1, .ref (ab 0)), (2, .int x2)]) hx hb dX1_putLine_66 hl (k := 3) rfl rfl (by decide) rfl (fun ls hl => ?_)
          refine lv_goto (tgt := 47) hx hb dX1_putLine_69 (by decide) ?_
          exact ih x2 (x3 + nI 1) N_24 _ _ hP hD hS ls (lv_sub hl [1, 2, 3, 0] rfl) hrun
        · replace hrun := it_neg c_20 hrun
          by_cases c_21 : x3 = nI 1
          · replace hrun := it_pos c_21 hrun
            refine y_aald (v := al 5) hx hb hK hP 3 3 rfl rfl rfl (by rw [c_21]; exact (by decide : ¬ (nI 1 < 0 ∨ 2 ≤ (nI 1).toNatClampNeg))) (by rw [c_21]; rfl) dX1_putLine_57 ?_
            refine lv_iload_n hx hb dX1_putLine_58 rfl (lv_at hl 2 rfl) ?_
            refine lv_aload_n hx hb dX1_putLine_59 rfl (lv_at hl 0 rfl) ?_
            refine lv_iload_n hx hb dX1_putLine_60 rfl (lv_at hl 3 rfl) ?_
            refine lv_iload_n hx hb dX1_putLine_61 rfl (lv_at hl 2 rfl) ?_
            obtain ⟨v_26, e_27, hrun⟩ := bd hrun
            refine y_ro (va_runV (As := [.int x3, .int x2]) (rest := [.int x2, .ref (al 5)]) ⟨hx, hb, hml, hown, hts⟩ (c_X1_forceBehind l G al L x3 x2 v_26 e_27) (cwV 2 hts gX1_putLine_X1_forceBehind rfl rfl rfl (by decide +kernel) ⟨Nat.le_of_ble_eq_true rfl, Nat.le_of_ble_eq_true rfl⟩) ⟨PreR.blind, va_recv hK hP (ci := 1) (q0 := 0) rfl rfl, y_preR hC (hP.sub (ws' := wLay G al L) [0, 1, 2, 3, 4, 5, 6, 7, 8, 9, 10, 11] rfl)⟩ rfl rfl hl.1 rfl (lv_room (Nat.le_of_ble_eq_true rfl)) dX1_putLine_62 ⟨Nat.zero_le _, Nat.zero_le _⟩) ?_
            obtain ⟨N_28, e_29, hrun⟩ := bd hrun
            replace e_29 := stO_spec e_29
            refine va_iast hx hb hK hP hD hS 5 0 rfl rfl e_29.1 dX1_putLine_65 (fun H locs hP hD hS => ?_)
            replace hP : va_P G.1 vwCl (wLay G al N_28 ++ wBook G ab B) H := by rw [← e_29.2]; exact hP
            replace hD : va_D A (wLay G al N_28 ++ wBook G ab B) := by rw [← e_29.2]; exact hD
            refine lv_iinc (v := (x3 + nI 1)) (lv' := [(3, .int (x3 + nI 1)), (0, .ref (al 0)), (1, .ref (ab 0)), (2, .int x2)]) hx hb dX1_putLine_66 hl (k := 3) rfl rfl (by decide) rfl (fun ls hl => ?_)
            refine lv_goto (tgt := 47) hx hb dX1_putLine_69 (by decide) ?_
            exact ih x2 (x3 + nI 1) N_28 _ _ hP hD hS ls (lv_sub hl [1, 2, 3, 0] rfl) hrun
          · replace hrun := it_neg c_21 hrun
            cases hrun
  have kJ_44 : ∀ (x2 y0 y1 : Int32) (L : Ob) , ∀ (H : Heap) (locs : List Loc), va_P G.1 vwCl (wLay G al L ++ wBook G ab B) H → va_D A (wLay G al L ++ wBook G ab B) → va_S A s.heap H locs → ∀ (ls : Array Slot), lv_has ls 4 [(0, .ref (al 0)), (1, .ref (ab 0)), (2, .int x2)] → p_X1_putLine_44 B x2 y0 y1 L = some L0 → W p l e (headSpec wsX1_putLine rmX1_putLine).room s m ([.ref (al 0), .ref (ab 0), .int u2] : List Value).toArray below meth c H locs 0 0 (MQ below (QV G (wLay G al L0 ++ wBook G ab B) A) ([.ref (al 0), .ref (ab 0), .int u2] : List Value).toArray s 0 0 A) (F0 m 44 ls [.int y0, .int y1, .ref (al 2)]) := by
    intro x2 y0 y1 L H locs hP hD hS ls hl hrun
    rw [p_X1_putLine_44] at hrun
    obtain ⟨N_10, e_11, hrun⟩ := bd hrun
    replace e_11 := stO_spec e_11
    refine va_iast hx hb hK hP hD hS 2 0 rfl rfl e_11.1 dX1_putLine_44 (fun H locs hP hD hS => ?_)
    replace hP : va_P G.1 vwCl (wLay G al N_10 ++ wBook G ab B) H := by rw [← e_11.2]; exact hP
    replace hD : va_D A (wLay G al N_10 ++ wBook G ab B) := by rw [← e_11.2]; exact hD
    refine lv_iconst (v := nI 0) hx hb dX1_putLine_45 (by decide) ?_
    refine lv_istore_n (lv' := [(3, .int (nI 0)), (0, .ref (al 0)), (1, .ref (ab 0)), (2, .int x2)]) hx hb dX1_putLine_46 rfl hl (by decide) rfl (fun ls hl => ?_)
    exact kH_47 200 x2 (nI 0) N_10 _ _ hP hD hS ls (lv_sub hl [1, 2, 3, 0] rfl) hrun
  have hl := lv_entry [.ref (al 0), .ref (ab 0), .int u2] (n := 4) (Nat.le_of_ble_eq_true rfl)
  rw [lg_entry_eq]
  generalize (lg_sl [.ref (al 0), .ref (ab 0), .int u2] ++ List.replicate (4 - (lg_sl [.ref (al 0), .ref (ab 0), .int u2]).length) Slot.unset).toArray = ls at hl ⊢
  have hl : lv_has ls 4 [(0, .ref (al 0)), (1, .ref (ab 0)), (2, .int u2)] := hl
  rw [p_X1_putLine] at hrun
  refine lv_aload_n hx hb dX1_putLine_0 rfl (lv_at hl 0 rfl) ?_
  refine va_get (D := G.1) (ci := 1) (v := .ref (al 1)) (C := RX1) (T := TX1) (N := 9) hx hb hts iwX1 hown hK hP 0 rfl rfl 0 (by decide) ha0 (fun _ h9 => h9) rfl dX1_putLine_1 ?_
  refine lv_iload_n hx hb dX1_putLine_4 rfl (lv_at hl 2 rfl) ?_
  refine lv_aload_n hx hb dX1_putLine_5 rfl (lv_at hl 0 rfl) ?_
  refine va_get (D := G.1) (ci := 1) (v := .int (L 10 0)) (C := RX1) (T := TX1) (N := 9) hx hb hts iwX1 hown hK hP 0 rfl rfl 8 (by decide) ha1 (fun _ h9 => h9) rfl dX1_putLine_6 ?_
  obtain ⟨N_1, e_2, hrun⟩ := bd hrun
  replace e_2 := stO_spec e_2
  refine va_iast hx hb hK hP hD hS 1 0 rfl rfl e_2.1 dX1_putLine_9 (fun H locs hP hD hS => ?_)
  replace hP : va_P G.1 vwCl (wLay G al N_1 ++ wBook G ab B) H := by rw [← e_2.2]; exact hP
  replace hD : va_D A (wLay G al N_1 ++ wBook G ab B) := by rw [← e_2.2]; exact hD
  refine lv_aload_n hx hb dX1_putLine_10 rfl (lv_at hl 0 rfl) ?_
  refine va_get (D := G.1) (ci := 1) (v := .ref (al 7)) (C := RX1) (T := TX1) (N := 9) hx hb hts iwX1 hown hK hP 0 rfl rfl 4 (by decide) ha2 (fun _ h9 => h9) rfl dX1_putLine_11 ?_
  refine lv_aload_n hx hb dX1_putLine_14 rfl (lv_at hl 0 rfl) ?_
  refine va_get (D := G.1) (ci := 1) (v := .int (N_1 10 0)) (C := RX1) (T := TX1) (N := 9) hx hb hts iwX1 hown hK hP 0 rfl rfl 8 (by decide) ha1 (fun _ h9 => h9) rfl dX1_putLine_15 ?_
  refine lv_dup2_11 hx hb dX1_putLine_18 rfl rfl ?_
  obtain ⟨v_3, e_4, hrun⟩ := bd hrun
  refine y_ald hx hb hK hP 7 0 rfl rfl e_4 dX1_putLine_19 ?_
  refine lv_iconst (v := nI 1) hx hb dX1_putLine_20 (by decide) ?_
  refine lv_iadd hx hb dX1_putLine_21 ?_
  obtain ⟨N_5, e_6, hrun⟩ := bd hrun
  replace e_6 := stO_spec e_6
  refine va_iast hx hb hK hP hD hS 7 0 rfl rfl e_6.1 dX1_putLine_22 (fun H locs hP hD hS => ?_)
  replace hP : va_P G.1 vwCl (wLay G al N_5 ++ wBook G ab B) H := by rw [← e_6.2]; exact hP
  replace hD : va_D A (wLay G al N_5 ++ wBook G ab B) := by rw [← e_6.2]; exact hD
  refine lv_aload_n hx hb dX1_putLine_23 rfl (lv_at hl 0 rfl) ?_
  refine va_get (D := G.1) (ci := 1) (v := .ref (al 2)) (C := RX1) (T := TX1) (N := 9) hx hb hts iwX1 hown hK hP 0 rfl rfl 1 (by decide) ha3 (fun _ h9 => h9) rfl dX1_putLine_24 ?_
  refine lv_iload_n hx hb dX1_putLine_27 rfl (lv_at hl 2 rfl) ?_
  refine lv_iload_n hx hb dX1_putLine_28 rfl (lv_at hl 2 rfl) ?_
  refine lv_if_ne (tgt := 36) hx hb dX1_putLine_29 (by decide) (fun c_7 => ?_) (fun c_7 => ?_)
  · replace hrun := it_neg c_7 hrun
    refine lv_aload_n hx hb dX1_putLine_36 rfl (lv_at hl 0 rfl) ?_
    refine va_get (D := G.1) (ci := 1) (v := .ref (al 2)) (C := RX1) (T := TX1) (N := 9) hx hb hts iwX1 hown hK hP 0 rfl rfl 1 (by decide) ha3 (fun _ h9 => h9) rfl dX1_putLine_37 ?_
    refine lv_iload_n hx hb dX1_putLine_40 rfl (lv_at hl 2 rfl) ?_
    refine lv_iconst (v := nI 1) hx hb dX1_putLine_41 (by decide) ?_
    refine lv_isub hx hb dX1_putLine_42 ?_
    obtain ⟨v_8, e_9, hrun⟩ := bd hrun
    refine y_ald hx hb hK hP 2 0 rfl rfl e_9 dX1_putLine_43 ?_
    exact kJ_44 u2 v_8 u2 N_5 _ _ hP hD hS ls (lv_sub hl [0, 1, 2] rfl) hrun
  · replace hrun := it_pos c_7 hrun
    refine lv_iconst (v := -1) hx hb dX1_putLine_32 (by decide) ?_
    refine lv_goto (tgt := 44) hx hb dX1_putLine_33 (by decide) ?_
    exact kJ_44 u2 (-1) u2 N_5 _ _ hP hD hS ls (lv_sub hl [0, 1, 2] rfl) hrun
def p_X1_lay_90 (B : Ob) (K : Int32 → Int32 → Int32 → Ob → Option (Ob)) (x2 : Int32) (x3 : Int32) (x4 : Int32) (L : Ob) : Option (Ob) := ((p_X1_putLine B x4 L).bind fun N_25 => K x2 x3 (x4 + nI 1) N_25)
def p_X1_lay_83 (B : Ob) (K : Int32 → Int32 → Int32 → Ob → Option (Ob)) (x2 : Int32) (x3 : Int32) (x4 : Int32) (L : Ob) : Option (Ob) := ((p_X1_turnPage B x4 L).bind fun N_23 => p_X1_lay_90 B K x2 x3 x4 N_23)
def p_X1_lay_60 (B : Ob) (K : Int32 → Int32 → Int32 → Ob → Option (Ob)) (x2 : Int32) (x3 : Int32) (x4 : Int32) (y0 : Int32) (L : Ob) : Option (Ob) := (if x4 = nI 0 then p_X1_lay_83 B K x2 x3 x4 L else (if y0 = nI 0 then ((p_X1_opensPage L B x4 x2).bind fun v_18 => (if v_18 = nI 0 then p_X1_lay_90 B K x2 x3 x4 L else p_X1_lay_83 B K x2 x3 x4 L)) else p_X1_lay_83 B K x2 x3 x4 L))
def p_X1_lay_52 (B : Ob) (K : Int32 → Int32 → Int32 → Ob → Option (Ob)) (x2 : Int32) (x3 : Int32) (x4 : Int32) (y0 : Int32) (y1 : Int32) (L : Ob) : Option (Ob) := (if y1 = y0 then p_X1_lay_60 B K x2 x3 x4 (nI 0) L else p_X1_lay_60 B K x2 x3 x4 (nI 1) L)
def p_X1_lay_41 (B : Ob) (K : Int32 → Int32 → Int32 → Ob → Option (Ob)) (x2 : Int32) (x3 : Int32) (x4 : Int32) (y0 : Int32) (L : Ob) : Option (Ob) := (if x4 = x3 then p_X1_lay_52 B K x2 x3 x4 (nI 1) y0 L else p_X1_lay_52 B K x2 x3 x4 (nI 0) y0 L)
def p_X1_lay_106 (B : Ob) : Nat → Int32 → Ob → Option (Ob)
  | 0, _, _ => none
  | n + 1, x4, L => (if (L 10 0) < x4 then (some L) else ((p_X1_headOf L B x4).bind fun v_10 => ((stO L 8 120 x4 v_10).bind fun N_12 => p_X1_lay_106 B n (x4 + nI 1) N_12)))
def p_X1_lay_16 (B : Ob) : Nat → Int32 → Int32 → Int32 → Ob → Option (Ob)
  | 0, _, _, _, _ => none
  | n + 1, x2, x3, x4, L => (if (L 9 0) ≤ x4 then p_X1_lay_106 B 200 (nI 1) L else ((ldI (B 1) 60 x4).bind fun v_6 => (if v_6 = (nI 1) then p_X1_lay_41 B (p_X1_lay_16 B n) x2 x3 x4 (nI 1) L else p_X1_lay_41 B (p_X1_lay_16 B n) x2 x3 x4 (nI 0) L)))
def p_X1_lay (B : Ob) (u2 : Int32) (u3 : Int32) (L : Ob) : Option (Ob) := ((some (puO L 9 (B 3 0))).bind fun L_1 => ((some (puO L_1 10 (nI 0))).bind fun L_3 => p_X1_lay_16 B 200 u2 u3 (nI 0) L_3))
abbrev rmX1_lay : Room := { frames := 3, cells := 0, slots := 0, locals := 69 }
set_option maxHeartbeats 4000000 in
set_option maxRecDepth 100000 in
theorem c_X1_lay (l : Launch) (G : GT) (al ab : Nat → Nat) (L B : Ob) (u2 u3 : Int32) (sz : Nat) (L0 : Ob) (hrun : p_X1_lay B u2 u3 L = some L0) : Met l yX1_lay wsX1_lay rmX1_lay (PreW G [.ref (al 0), .ref (ab 0), .int u2, .int u3] (wLay G al L ++ wBook G ab B) sz) (QV G (wLay G al L0 ++ wBook G ab B) (va_A (wLay G al L ++ wBook G ab B) sz)) 0 0 (va_A (wLay G al L ++ wBook G ab B) sz) := by
  refine Met.ofW (cc := cX1_lay) (maxL := 6) (ret := none) (by decide) rfl ?_
  intro p e s m args below meth c s₁ Bd hml hv
  obtain ⟨rfl, hsz, hP, hC, hD0⟩ := hv
  have hx := Bd.exec
  have hb := Bd.bytes
  have hr := Bd.returns
  have hts := atoms_spec (ws := wsX1_lay) Bd.pre
  have hown : s.vm.findClass RX1 = some m.cls := findClass_of_methodNamed Bd.named
  have hlocks := Bd.notSynchronized
  have hK := hC.1
  have iwX0 : ∀ w ∈ wsX00, w ∈ wsX1_lay := by decide +kernel
  have iwX1 : ∀ w ∈ wsX10, w ∈ wsX1_lay := by decide +kernel
  have ha0 := hts (.fieldLink RX1 42 "HeadMarks$Book" "lines" "I") (by decide +kernel)
  have ha1 := hts (.fieldLink RX1 35 "HeadMarks$Layout" "lines" "I") (by decide +kernel)
  have ha2 := hts (.fieldLink RX1 39 "HeadMarks$Layout" "pages" "I") (by decide +kernel)
  have ha3 := hts (.fieldLink RX1 45 "HeadMarks$Book" "broken" "[I") (by decide +kernel)
  have ha4 := hts (.fieldLink RX1 32 "HeadMarks$Layout" "heads" "[I") (by decide +kernel)
  subst hsz
  have hD := hD0.self (sz := s.heap.size)
  generalize hAe : va_A (wLay G al L ++ wBook G ab B) s.heap.size = A at hD ⊢
  have hA : ∀ q : Nat, s.heap.size ≤ q → A q := fun q h => by rw [← hAe]; exact Or.inr h
  have hS : va_S A s.heap s.heap [] := va_S.rf
  have kH_106 : ∀ (n : Nat) (x4 : Int32) (L : Ob) , ∀ (H : Heap) (locs : List Loc), va_P G.1 vwCl (wLay G al L ++ wBook G ab B) H → va_D A (wLay G al L ++ wBook G ab B) → va_S A s.heap H locs → ∀ (ls : Array Slot), lv_has ls 6 [(0, .ref (al 0)), (1, .ref (ab 0)), (4, .int x4)] → p_X1_lay_106 B n x4 L = some L0 → W p l e (headSpec wsX1_lay rmX1_lay).room s m ([.ref (al 0), .ref (ab 0), .int u2, .int u3] : List Value).toArray below meth c H locs 0 0 (MQ below (QV G (wLay G al L0 ++ wBook G ab B) A) ([.ref (al 0), .ref (ab 0), .int u2, .int u3] : List Value).toArray s 0 0 A) (F0 m 106 ls []) := by
    intro n
    induction n with
    | zero => intro x4 L H locs hP hD hS ls hl hrun; exact absurd (hrun : (none : Option (Ob)) = some L0) (fun h => by cases h)
    | succ n ih =>
      intro x4 L H locs hP hD hS ls hl hrun
      rw [p_X1_lay_106] at hrun
      refine lv_iload hx hb dX1_lay_106 (lv_at hl 2 rfl) ?_
      refine lv_aload_n hx hb dX1_lay_108 rfl (lv_at hl 0 rfl) ?_
      refine va_get (D := G.1) (ci := 1) (v := .int (L 10 0)) (C := RX1) (T := TX1) (N := 9) hx hb hts iwX1 hown hK hP 0 rfl rfl 8 (by decide) ha2 (fun _ h9 => h9) rfl dX1_lay_109 ?_
      refine lv_icmp_gt (tgt := 135) hx hb dX1_lay_112 (by decide) (fun c_9 => ?_) (fun c_9 => ?_)
      · replace hrun := it_pos c_9 hrun
        have hr2 := si hrun
        exact W.vret hx hb hr (fun t ht hW => ⟨⟨(), rfl, trivial, by rw [ht, ← hr2]; exact hP, by rw [← hr2]; exact hD⟩, hS.F ht⟩) hS.2.2 dX1_lay_135
      · replace hrun := it_neg c_9 hrun
        refine lv_aload_n hx hb dX1_lay_115 rfl (lv_at hl 0 rfl) ?_
        refine va_get (D := G.1) (ci := 1) (v := .ref (al 11)) (C := RX1) (T := TX1) (N := 9) hx hb hts iwX1 hown hK hP 0 rfl rfl 6 (by decide) ha4 (fun _ h9 => h9) rfl dX1_lay_116 ?_
        refine lv_iload hx hb dX1_lay_119 (lv_at hl 2 rfl) ?_
        refine lv_aload_n hx hb dX1_lay_121 rfl (lv_at hl 0 rfl) ?_
        refine lv_aload_n hx hb dX1_lay_122 rfl (lv_at hl 1 rfl) ?_
        refine lv_iload hx hb dX1_lay_123 (lv_at hl 2 rfl) ?_
        obtain ⟨v_10, e_11, hrun⟩ := bd hrun
        refine y_ro (va_runV (As := [.ref (ab 0), .int x4]) (rest := [.int x4, .ref (al 11)]) ⟨hx, hb, hml, hown, hts⟩ (c_X1_headOf l G al ab L B x4 v_10 e_11) (cwV 2 hts gX1_lay_X1_headOf rfl rfl rfl (by decide +kernel) ⟨Nat.le_of_ble_eq_true rfl, Nat.le_of_ble_eq_true rfl⟩) ⟨PreR.blind, va_recv hK hP (ci := 1) (q0 := 0) rfl rfl, y_preR hC hP⟩ rfl rfl hl.1 rfl (lv_room (Nat.le_of_ble_eq_true rfl)) dX1_lay_125 ⟨Nat.zero_le _, Nat.zero_le _⟩) ?_
        obtain ⟨N_12, e_13, hrun⟩ := bd hrun
        replace e_13 := stO_spec e_13
        refine va_iast hx hb hK hP hD hS 11 0 rfl rfl e_13.1 dX1_lay_128 (fun H locs hP hD hS => ?_)
        replace hP : va_P G.1 vwCl (wLay G al N_12 ++ wBook G ab B) H := by rw [← e_13.2]; exact hP
        replace hD : va_D A (wLay G al N_12 ++ wBook G ab B) := by rw [← e_13.2]; exact hD
        refine lv_iinc (v := (x4 + nI 1)) (lv' := [(4, .int (x4 + nI 1)), (0, .ref (al 0)), (1, .ref (ab 0))]) hx hb dX1_lay_129 hl (k := 2) rfl rfl (by decide) rfl (fun ls hl => ?_)
        refine lv_goto (tgt := 106) hx hb dX1_lay_132 (by decide) ?_
        exact ih (x4 + nI 1) N_12 _ _ hP hD hS ls (lv_sub hl [1, 2, 0] rfl) hrun
  have kH_16 : ∀ (n : Nat) (x2 x3 x4 : Int32) (L : Ob) , ∀ (H : Heap) (locs : List Loc), va_P G.1 vwCl (wLay G al L ++ wBook G ab B) H → va_D A (wLay G al L ++ wBook G ab B) → va_S A s.heap H locs → ∀ (ls : Array Slot), lv_has ls 6 [(0, .ref (al 0)), (1, .ref (ab 0)), (2, .int x2), (3, .int x3), (4, .int x4)] → p_X1_lay_16 B n x2 x3 x4 L = some L0 → W p l e (headSpec wsX1_lay rmX1_lay).room s m ([.ref (al 0), .ref (ab 0), .int u2, .int u3] : List Value).toArray below meth c H locs 0 0 (MQ below (QV G (wLay G al L0 ++ wBook G ab B) A) ([.ref (al 0), .ref (ab 0), .int u2, .int u3] : List Value).toArray s 0 0 A) (F0 m 16 ls []) := by
    intro n
    induction n with
    | zero => intro x2 x3 x4 L H locs hP hD hS ls hl hrun; exact absurd (hrun : (none : Option (Ob)) = some L0) (fun h => by cases h)
    | succ n ih =>
      have kJ_90 : ∀ (x2 x3 x4 : Int32) (L : Ob) , ∀ (H : Heap) (locs : List Loc), va_P G.1 vwCl (wLay G al L ++ wBook G ab B) H → va_D A (wLay G al L ++ wBook G ab B) → va_S A s.heap H locs → ∀ (ls : Array Slot), lv_has ls 6 [(0, .ref (al 0)), (1, .ref (ab 0)), (2, .int x2), (3, .int x3), (4, .int x4)] → p_X1_lay_90 B (p_X1_lay_16 B n) x2 x3 x4 L = some L0 → W p l e (headSpec wsX1_lay rmX1_lay).room s m ([.ref (al 0), .ref (ab 0), .int u2, .int u3] : List Value).toArray below meth c H locs 0 0 (MQ below (QV G (wLay G al L0 ++ wBook G ab B) A) ([.ref (al 0), .ref (ab 0), .int u2, .int u3] : List Value).toArray s 0 0 A) (F0 m 90 ls []) := by
        intro x2 x3 x4 L H locs hP hD hS ls hl hrun
        rw [p_X1_lay_90] at hrun
        refine lv_aload_n hx hb dX1_lay_90 rfl (lv_at hl 0 rfl) ?_
        refine lv_aload_n hx hb dX1_lay_91 rfl (lv_at hl 1 rfl) ?_
        refine lv_iload hx hb dX1_lay_92 (lv_at hl 4 rfl) ?_
        obtain ⟨N_25, e_24, hrun⟩ := bd hrun
        have hF := y_all hD hS hA
        refine y_rwv (va_runV (As := [.ref (ab 0), .int x4]) (rest := []) ⟨hx, hb, hml, hown, hts⟩ (c_X1_putLine l G al ab L B x4 _ N_25 e_24) (cwV 2 hts gX1_lay_X1_putLine rfl rfl rfl (by decide +kernel) ⟨Nat.le_of_ble_eq_true rfl, Nat.le_of_ble_eq_true rfl⟩) ⟨PreW.blind, va_recv hK hP (ci := 1) (q0 := 0) rfl rfl, y_preW hC hP hD⟩ rfl rfl hl.1 rfl (lv_room (Nat.le_of_ble_eq_true rfl)) dX1_lay_94 ⟨Nat.zero_le _, Nat.zero_le _⟩) hS hF (fun H locs hP1 hD1 hk1 hS => ?_)
        replace hP : va_P G.1 vwCl (wLay G al N_25 ++ wBook G ab B) H := hP1
        replace hD : va_D A (wLay G al N_25 ++ wBook G ab B) := hD1.weaken (fun _ q _ h => hF q.1 h)
        clear hP1 hD1 hk1 hF
        refine lv_iinc (v := (x4 + nI 1)) (lv' := [(4, .int (x4 + nI 1)), (0, .ref (al 0)), (1, .ref (ab 0)), (2, .int x2), (3, .int x3)]) hx hb dX1_lay_97 hl (k := 4) rfl rfl (by decide) rfl (fun ls hl => ?_)
        refine lv_goto (tgt := 16) hx hb dX1_lay_100 (by decide) ?_
        exact ih x2 x3 (x4 + nI 1) N_25 _ _ hP hD hS ls (lv_sub hl [1, 2, 3, 4, 0] rfl) hrun
      have kJ_83 : ∀ (x2 x3 x4 : Int32) (L : Ob) , ∀ (H : Heap) (locs : List Loc), va_P G.1 vwCl (wLay G al L ++ wBook G ab B) H → va_D A (wLay G al L ++ wBook G ab B) → va_S A s.heap H locs → ∀ (ls : Array Slot), lv_has ls 6 [(0, .ref (al 0)), (1, .ref (ab 0)), (2, .int x2), (3, .int x3), (4, .int x4)] → p_X1_lay_83 B (p_X1_lay_16 B n) x2 x3 x4 L = some L0 → W p l e (headSpec wsX1_lay rmX1_lay).room s m ([.ref (al 0), .ref (ab 0), .int u2, .int u3] : List Value).toArray below meth c H locs 0 0 (MQ below (QV G (wLay G al L0 ++ wBook G ab B) A) ([.ref (al 0), .ref (ab 0), .int u2, .int u3] : List Value).toArray s 0 0 A) (F0 m 83 ls []) := by
        intro x2 x3 x4 L H locs hP hD hS ls hl hrun
        rw [p_X1_lay_83] at hrun
        refine lv_aload_n hx hb dX1_lay_83 rfl (lv_at hl 0 rfl) ?_
        refine lv_aload_n hx hb dX1_lay_84 rfl (lv_at hl 1 rfl) ?_
        refine lv_iload hx hb dX1_lay_85 (lv_at hl 4 rfl) ?_
        obtain ⟨N_23, e_22, hrun⟩ := bd hrun
        have hF := y_all hD hS hA
        refine y_rwv (va_runV (As := [.ref (ab 0), .int x4]) (rest := []) ⟨hx, hb, hml, hown, hts⟩ (c_X1_turnPage l G al ab L B x4 _ N_23 e_22) (cwV 2 hts gX1_lay_X1_turnPage rfl rfl rfl (by decide +kernel) ⟨Nat.le_of_ble_eq_true rfl, Nat.le_of_ble_eq_true rfl⟩) ⟨PreW.blind, va_recv hK hP (ci := 1) (q0 := 0) rfl rfl, y_preW hC hP hD⟩ rfl rfl hl.1 rfl (lv_room (Nat.le_of_ble_eq_true rfl)) dX1_lay_87 ⟨Nat.zero_le _, Nat.zero_le _⟩) hS hF (fun H locs hP1 hD1 hk1 hS => ?_)
        replace hP : va_P G.1 vwCl (wLay G al N_23 ++ wBook G ab B) H := hP1
        replace hD : va_D A (wLay G al N_23 ++ wBook G ab B) := hD1.weaken (fun _ q _ h => hF q.1 h)
        clear hP1 hD1 hk1 hF
        exact kJ_90 x2 x3 x4 N_23 _ _ hP hD hS ls (lv_sub hl [0, 1, 2, 3, 4] rfl) hrun
      have kJ_60 : ∀ (x2 x3 x4 y0 : Int32) (L : Ob) , ∀ (H : Heap) (locs : List Loc), va_P G.1 vwCl (wLay G al L ++ wBook G ab B) H → va_D A (wLay G al L ++ wBook G ab B) → va_S A s.heap H locs → ∀ (ls : Array Slot), lv_has ls 6 [(0, .ref (al 0)), (1, .ref (ab 0)), (2, .int x2), (3, .int x3), (4, .int x4)] → p_X1_lay_60 B (p_X1_lay_16 B n) x2 x3 x4 y0 L = some L0 → W p l e (headSpec wsX1_lay rmX1_lay).room s m ([.ref (al 0), .ref (ab 0), .int u2, .int u3] : List Value).toArray below meth c H locs 0 0 (MQ below (QV G (wLay G al L0 ++ wBook G ab B) A) ([.ref (al 0), .ref (ab 0), .int u2, .int u3] : List Value).toArray s 0 0 A) (F0 m 60 ls [.int y0]) := by
        intro x2 x3 x4 y0 L H locs hP hD hS ls hl hrun
        rw [p_X1_lay_60] at hrun
        refine lv_istore (lv' := [(5, .int y0), (0, .ref (al 0)), (1, .ref (ab 0)), (2, .int x2), (3, .int x3), (4, .int x4)]) hx hb dX1_lay_60 hl (by decide) rfl (fun ls hl => ?_)
        refine lv_iload hx hb dX1_lay_62 (lv_at hl 5 rfl) ?_
        refine lv_if_eq (tgt := 83) hx hb dX1_lay_64 (by decide) (fun c_16 => ?_) (fun c_16 => ?_)
        · replace hrun := it_pos c_16 hrun
          exact kJ_83 x2 x3 x4 L _ _ hP hD hS ls (lv_sub hl [1, 2, 3, 4, 5] rfl) hrun
        · replace hrun := it_neg c_16 hrun
          refine lv_iload hx hb dX1_lay_67 (lv_at hl 0 rfl) ?_
          refine lv_if_ne (tgt := 83) hx hb dX1_lay_69 (by decide) (fun c_17 => ?_) (fun c_17 => ?_)
          · replace hrun := it_neg c_17 hrun
            exact kJ_83 x2 x3 x4 L _ _ hP hD hS ls (lv_sub hl [1, 2, 3, 4, 5] rfl) hrun
          · replace hrun := it_pos c_17 hrun
            refine lv_aload_n hx hb dX1_lay_72 rfl (lv_at hl 1 rfl) ?_
            refine lv_aload_n hx hb dX1_lay_73 rfl (lv_at hl 2 rfl) ?_
            refine lv_iload hx hb dX1_lay_74 (lv_at hl 5 rfl) ?_
            refine lv_iload_n hx hb dX1_lay_76 rfl (lv_at hl 3 rfl) ?_
            obtain ⟨v_18, e_19, hrun⟩ := bd hrun
            refine y_roz (va_runV (As := [.ref (ab 0), .int x4, .int x2]) (rest := []) ⟨hx, hb, hml, hown, hts⟩ (c_X1_opensPage l G al ab L B x4 x2 v_18 e_19) (cwV 3 hts gX1_lay_X1_opensPage rfl rfl rfl (by decide +kernel) ⟨Nat.le_of_ble_eq_true rfl, Nat.le_of_ble_eq_true rfl⟩) ⟨PreR.blind, va_recv hK hP (ci := 1) (q0 := 0) rfl rfl, y_preR hC hP⟩ rfl rfl hl.1 rfl (lv_room (Nat.le_of_ble_eq_true rfl)) dX1_lay_77 ⟨Nat.zero_le _, Nat.zero_le _⟩) (fun z_20 => ?_)
            refine lv_if_eq (tgt := 90) hx hb dX1_lay_80 (by decide) (fun c_21 => ?_) (fun c_21 => ?_)
            · replace hrun := it_pos c_21 hrun
              exact kJ_90 x2 x3 x4 L _ _ hP hD hS ls (lv_sub hl [1, 2, 3, 4, 5] rfl) hrun
            · replace hrun := it_neg c_21 hrun
              exact kJ_83 x2 x3 x4 L _ _ hP hD hS ls (lv_sub hl [1, 2, 3, 4, 5] rfl) hrun
      have kJ_52 : ∀ (x2 x3 x4 y0 y1 : Int32) (L : Ob) , ∀ (H : Heap) (locs : List Loc), va_P G.1 vwCl (wLay G al L ++ wBook G ab B) H → va_D A (wLay G al L ++ wBook G ab B) → va_S A s.heap H locs → ∀ (ls : Array Slot), lv_has ls 6 [(0, .ref (al 0)), (1, .ref (ab 0)), (2, .int x2), (3, .int x3), (4, .int x4)] → p_X1_lay_52 B (p_X1_lay_16 B n) x2 x3 x4 y0 y1 L = some L0 → W p l e (headSpec wsX1_lay rmX1_lay).room s m ([.ref (al 0), .ref (ab 0), .int u2, .int u3] : List Value).toArray below meth c H locs 0 0 (MQ below (QV G (wLay G al L0 ++ wBook G ab B) A) ([.ref (al 0), .ref (ab 0), .int u2, .int u3] : List Value).toArray s 0 0 A) (F0 m 52 ls [.int y0, .int y1]) := by
        intro x2 x3 x4 y0 y1 L H locs hP hD hS ls hl hrun
        rw [p_X1_lay_52] at hrun
        refine lv_icmp_eq (tgt := 59) hx hb dX1_lay_52 (by decide) (fun c_15 => ?_) (fun c_15 => ?_)
        · replace hrun := it_pos c_15 hrun
          refine lv_iconst (v := nI 0) hx hb dX1_lay_59 (by decide) ?_
          exact kJ_60 x2 x3 x4 (nI 0) L _ _ hP hD hS ls (lv_sub hl [0, 1, 2, 3, 4] rfl) hrun
        · replace hrun := it_neg c_15 hrun
          refine lv_iconst (v := nI 1) hx hb dX1_lay_55 (by decide) ?_
          refine lv_goto (tgt := 60) hx hb dX1_lay_56 (by decide) ?_
          exact kJ_60 x2 x3 x4 (nI 1) L _ _ hP hD hS ls (lv_sub hl [0, 1, 2, 3, 4] rfl) hrun
      have kJ_41 : ∀ (x2 x3 x4 y0 : Int32) (L : Ob) , ∀ (H : Heap) (locs : List Loc), va_P G.1 vwCl (wLay G al L ++ wBook G ab B) H → va_D A (wLay G al L ++ wBook G ab B) → va_S A s.heap H locs → ∀ (ls : Array Slot), lv_has ls 6 [(0, .ref (al 0)), (1, .ref (ab 0)), (2, .int x2), (3, .int x3), (4, .int x4)] → p_X1_lay_41 B (p_X1_lay_16 B n) x2 x3 x4 y0 L = some L0 → W p l e (headSpec wsX1_lay rmX1_lay).room s m ([.ref (al 0), .ref (ab 0), .int u2, .int u3] : List Value).toArray below meth c H locs 0 0 (MQ below (QV G (wLay G al L0 ++ wBook G ab B) A) ([.ref (al 0), .ref (ab 0), .int u2, .int u3] : List Value).toArray s 0 0 A) (F0 m 41 ls [.int y0]) := by
        intro x2 x3 x4 y0 L H locs hP hD hS ls hl hrun
        rw [p_X1_lay_41] at hrun
        refine lv_iload hx hb dX1_lay_41 (lv_at hl 4 rfl) ?_
        refine lv_iload_n hx hb dX1_lay_43 rfl (lv_at hl 3 rfl) ?_
        refine lv_icmp_ne (tgt := 51) hx hb dX1_lay_44 (by decide) (fun c_14 => ?_) (fun c_14 => ?_)
        · replace hrun := it_neg c_14 hrun
          refine lv_iconst (v := nI 0) hx hb dX1_lay_51 (by decide) ?_
          exact kJ_52 x2 x3 x4 (nI 0) y0 L _ _ hP hD hS ls (lv_sub hl [0, 1, 2, 3, 4] rfl) hrun
        · replace hrun := it_pos c_14 hrun
          refine lv_iconst (v := nI 1) hx hb dX1_lay_47 (by decide) ?_
          refine lv_goto (tgt := 52) hx hb dX1_lay_48 (by decide) ?_
          exact kJ_52 x2 x3 x4 (nI 1) y0 L _ _ hP hD hS ls (lv_sub hl [0, 1, 2, 3, 4] rfl) hrun
      intro x2 x3 x4 L H locs hP hD hS ls hl hrun
      rw [p_X1_lay_16] at hrun
      refine lv_iload hx hb dX1_lay_16 (lv_at hl 4 rfl) ?_
      refine lv_aload_n hx hb dX1_lay_18 rfl (lv_at hl 0 rfl) ?_
      refine va_get (D := G.1) (ci := 1) (v := .int (L 9 0)) (C := RX1) (T := TX1) (N := 9) hx hb hts iwX1 hown hK hP 0 rfl rfl 7 (by decide) ha1 (fun _ h9 => h9) rfl dX1_lay_19 ?_
      refine lv_icmp_ge (tgt := 103) hx hb dX1_lay_22 (by decide) (fun c_5 => ?_) (fun c_5 => ?_)
      · replace hrun := it_pos c_5 hrun
        refine lv_iconst (v := nI 1) hx hb dX1_lay_103 (by decide) ?_
        refine lv_istore (lv' := [(4, .int (nI 1)), (0, .ref (al 0)), (1, .ref (ab 0)), (2, .int x2), (3, .int x3)]) hx hb dX1_lay_104 hl (by decide) rfl (fun ls hl => ?_)
        exact kH_106 200 (nI 1) L _ _ hP hD hS ls (lv_sub hl [1, 2, 0] rfl) hrun
      · replace hrun := it_neg c_5 hrun
        refine lv_aload_n hx hb dX1_lay_25 rfl (lv_at hl 1 rfl) ?_
        refine va_get (D := G.1) (ci := 0) (v := .ref (ab 2)) (C := RX0) (T := TX0) (N := 4) hx hb hts iwX0 hown hK hP 12 rfl rfl 1 (by decide) ha3 (fun _ h9 => h9) rfl dX1_lay_26 ?_
        refine lv_iload hx hb dX1_lay_29 (lv_at hl 4 rfl) ?_
        obtain ⟨v_6, e_7, hrun⟩ := bd hrun
        refine y_ald hx hb hK hP 14 0 rfl rfl e_7 dX1_lay_31 ?_
        refine lv_iconst (v := nI 1) hx hb dX1_lay_32 (by decide) ?_
        refine lv_icmp_ne (tgt := 40) hx hb dX1_lay_33 (by decide) (fun c_8 => ?_) (fun c_8 => ?_)
        · replace hrun := it_neg c_8 hrun
          refine lv_iconst (v := nI 0) hx hb dX1_lay_40 (by decide) ?_
          exact kJ_41 x2 x3 x4 (nI 0) L _ _ hP hD hS ls (lv_sub hl [0, 1, 2, 3, 4] rfl) hrun
        · replace hrun := it_pos c_8 hrun
          refine lv_iconst (v := nI 1) hx hb dX1_lay_36 (by decide) ?_
          refine lv_goto (tgt := 41) hx hb dX1_lay_37 (by decide) ?_
          exact kJ_41 x2 x3 x4 (nI 1) L _ _ hP hD hS ls (lv_sub hl [0, 1, 2, 3, 4] rfl) hrun
  have hl := lv_entry [.ref (al 0), .ref (ab 0), .int u2, .int u3] (n := 6) (Nat.le_of_ble_eq_true rfl)
  rw [lg_entry_eq]
  generalize (lg_sl [.ref (al 0), .ref (ab 0), .int u2, .int u3] ++ List.replicate (6 - (lg_sl [.ref (al 0), .ref (ab 0), .int u2, .int u3]).length) Slot.unset).toArray = ls at hl ⊢
  have hl : lv_has ls 6 [(0, .ref (al 0)), (1, .ref (ab 0)), (2, .int u2), (3, .int u3)] := hl
  rw [p_X1_lay] at hrun
  refine lv_aload_n hx hb dX1_lay_0 rfl (lv_at hl 0 rfl) ?_
  refine lv_aload_n hx hb dX1_lay_1 rfl (lv_at hl 1 rfl) ?_
  refine va_get (D := G.1) (ci := 0) (v := .int (B 3 0)) (C := RX0) (T := TX0) (N := 4) hx hb hts iwX0 hown hK hP 12 rfl rfl 3 (by decide) ha0 (fun _ h9 => h9) rfl dX1_lay_2 ?_
  obtain ⟨L_1, e_2, hrun⟩ := bd hrun
  replace e_2 := si e_2
  refine va_put (D := G.1) (ci := 1) (v := .int (B 3 0)) (ty := .int) (C := RX1) (T := TX1) (N := 9) hx hb hts iwX1 tyX1 tyX1_ok nmX1 hown hK hP hD hS 0 rfl rfl 7 (by decide) ha1 (fun _ h9 => h9) rfl (by decide +kernel) rfl rfl (Nat.le_of_ble_eq_true rfl) dX1_lay_5 (fun H locs hP hD hS => ?_)
  replace hP : va_P G.1 vwCl (wLay G al L_1 ++ wBook G ab B) H := by rw [← e_2]; exact hP
  replace hD : va_D A (wLay G al L_1 ++ wBook G ab B) := by rw [← e_2]; exact hD
  refine lv_aload_n hx hb dX1_lay_8 rfl (lv_at hl 0 rfl) ?_
  refine lv_iconst (v := nI 0) hx hb dX1_lay_9 (by decide) ?_
  obtain ⟨L_3, e_4, hrun⟩ := bd hrun
  replace e_4 := si e_4
  refine va_put (D := G.1) (ci := 1) (v := .int (nI 0)) (ty := .int) (C := RX1) (T := TX1) (N := 9) hx hb hts iwX1 tyX1 tyX1_ok nmX1 hown hK hP hD hS 0 rfl rfl 8 (by decide) ha2 (fun _ h9 => h9) rfl (by decide +kernel) rfl rfl (Nat.le_of_ble_eq_true rfl) dX1_lay_10 (fun H locs hP hD hS => ?_)
  replace hP : va_P G.1 vwCl (wLay G al L_3 ++ wBook G ab B) H := by rw [← e_4]; exact hP
  replace hD : va_D A (wLay G al L_3 ++ wBook G ab B) := by rw [← e_4]; exact hD
  refine lv_iconst (v := nI 0) hx hb dX1_lay_13 (by decide) ?_
  refine lv_istore (lv' := [(4, .int (nI 0)), (0, .ref (al 0)), (1, .ref (ab 0)), (2, .int u2), (3, .int u3)]) hx hb dX1_lay_14 hl (by decide) rfl (fun ls hl => ?_)
  exact kH_16 200 u2 u3 (nI 0) L_3 _ _ hP hD hS ls (lv_sub hl [1, 2, 3, 4, 0] rfl) hrun
