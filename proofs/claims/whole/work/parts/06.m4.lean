def p_X4_cut  (u1 : Int32) (u2 : Int32) (M : Ob) : Option (Int32 × Ob) := ((p_X4_many M).bind fun v_1 => ((p_X4_in u1 (nI 1) (v_1 - (nI 1))).bind fun v_3 => (if v_3 = nI 0 then (some ((-1), M)) else ((p_X4_in u2 (nI 0) (nI 1)).bind fun v_7 => (if v_7 = nI 0 then (some ((-2), M)) else ((stO M 0 130 ((nI 60) + u1) u2).bind fun N_11 => ((p_X4_breaks N_11).bind fun v_13 => (some (v_13, N_11)))))))))
abbrev rmX4_cut : Room := { frames := 2, cells := 0, slots := 0, locals := 42 }
set_option maxHeartbeats 4000000 in
set_option maxRecDepth 100000 in
theorem c_X4_cut (l : Launch) (G : GT) (am : Nat → Nat) (M : Ob) (u1 u2 : Int32) (sz : Nat) (r0 : Int32) (M0 : Ob) (hrun : p_X4_cut u1 u2 M = some (r0, M0)) : Met l yX4_cut wsX4_cut rmX4_cut (PreW G [.ref (am 0), .int u1, .int u2] (wMod G am M) sz) (QI G r0 (wMod G am M0) (va_A (wMod G am M) sz)) 0 0 (va_A (wMod G am M) sz) := by
  refine Met.ofW (cc := cX4_cut) (maxL := 3) (ret := (some .int)) (by decide) rfl ?_
  intro p e s m args below meth c s₁ Bd hml hv
  obtain ⟨rfl, hsz, hP, hC, hD0⟩ := hv
  have hx := Bd.exec
  have hb := Bd.bytes
  have hr := Bd.returns
  have hts := atoms_spec (ws := wsX4_cut) Bd.pre
  have hown : s.vm.findClass RX4 = some m.cls := findClass_of_methodNamed Bd.named
  have hlocks := Bd.notSynchronized
  have hK := hC.1
  have iwX4 : ∀ w ∈ wsX40, w ∈ wsX4_cut := by decide +kernel
  have ha0 := hts (.fieldLink RX4 7 "HeadMarksModel" "state" "[I") (by decide +kernel)
  subst hsz
  have hD := hD0.self (sz := s.heap.size)
  generalize hAe : va_A (wMod G am M) s.heap.size = A at hD ⊢
  have hA : ∀ q : Nat, s.heap.size ≤ q → A q := fun q h => by rw [← hAe]; exact Or.inr h
  have hS : va_S A s.heap s.heap [] := va_S.rf
  have hl := lv_entry [.ref (am 0), .int u1, .int u2] (n := 3) (Nat.le_of_ble_eq_true rfl)
  rw [lg_entry_eq]
  generalize (lg_sl [.ref (am 0), .int u1, .int u2] ++ List.replicate (3 - (lg_sl [.ref (am 0), .int u1, .int u2]).length) Slot.unset).toArray = ls at hl ⊢
  have hl : lv_has ls 3 [(0, .ref (am 0)), (1, .int u1), (2, .int u2)] := hl
  rw [p_X4_cut] at hrun
  refine lv_iload_n hx hb dX4_cut_0 rfl (lv_at hl 1 rfl) ?_
  refine lv_iconst (v := nI 1) hx hb dX4_cut_1 (by decide) ?_
  refine lv_aload_n hx hb dX4_cut_2 rfl (lv_at hl 0 rfl) ?_
  obtain ⟨v_1, e_2, hrun⟩ := bd hrun
  refine y_ro (va_runV (As := []) (rest := [.int (nI 1), .int u1]) ⟨hx, hb, hml, hown, hts⟩ (c_X4_many l G am M  v_1 e_2) (cwV 0 hts gX4_cut_X4_many rfl rfl rfl (by decide +kernel) ⟨Nat.le_of_ble_eq_true rfl, Nat.le_of_ble_eq_true rfl⟩) ⟨PreR.blind, va_recv hK hP (ci := 4) (q0 := 0) rfl rfl, y_preR hC hP⟩ rfl rfl hl.1 rfl (lv_room (Nat.le_of_ble_eq_true rfl)) dX4_cut_3 ⟨Nat.zero_le _, Nat.zero_le _⟩) ?_
  refine lv_iconst (v := nI 1) hx hb dX4_cut_6 (by decide) ?_
  refine lv_isub hx hb dX4_cut_7 ?_
  obtain ⟨v_3, e_4, hrun⟩ := bd hrun
  refine y_roz (va_runS (As := [.int u1, .int (nI 1), .int (v_1 - (nI 1))]) (rest := []) ⟨hx, hb, hml, hown, hts⟩ (c_X4_in l G   u1 (nI 1) (v_1 - (nI 1)) v_3 e_4) (cwS 3 hts gX4_cut_X4_in rfl rfl rfl (by decide +kernel) ⟨Nat.le_of_ble_eq_true rfl, Nat.le_of_ble_eq_true rfl⟩) ⟨PreR.blind, y_preR hC (fun _ _ h => by cases h)⟩ rfl rfl hl.1 rfl (lv_room (Nat.le_of_ble_eq_true rfl)) dX4_cut_8 ⟨Nat.zero_le _, Nat.zero_le _⟩) (fun z_5 => ?_)
  refine lv_if_ne (tgt := 16) hx hb dX4_cut_11 (by decide) (fun c_6 => ?_) (fun c_6 => ?_)
  · replace hrun := it_neg c_6 hrun
    refine lv_iload_n hx hb dX4_cut_16 rfl (lv_at hl 2 rfl) ?_
    refine lv_iconst (v := nI 0) hx hb dX4_cut_17 (by decide) ?_
    refine lv_iconst (v := nI 1) hx hb dX4_cut_18 (by decide) ?_
    obtain ⟨v_7, e_8, hrun⟩ := bd hrun
    refine y_roz (va_runS (As := [.int u2, .int (nI 0), .int (nI 1)]) (rest := []) ⟨hx, hb, hml, hown, hts⟩ (c_X4_in l G   u2 (nI 0) (nI 1) v_7 e_8) (cwS 3 hts gX4_cut_X4_in rfl rfl rfl (by decide +kernel) ⟨Nat.le_of_ble_eq_true rfl, Nat.le_of_ble_eq_true rfl⟩) ⟨PreR.blind, y_preR hC (fun _ _ h => by cases h)⟩ rfl rfl hl.1 rfl (lv_room (Nat.le_of_ble_eq_true rfl)) dX4_cut_19 ⟨Nat.zero_le _, Nat.zero_le _⟩) (fun z_9 => ?_)
    refine lv_if_ne (tgt := 28) hx hb dX4_cut_22 (by decide) (fun c_10 => ?_) (fun c_10 => ?_)
    · replace hrun := it_neg c_10 hrun
      refine lv_aload_n hx hb dX4_cut_28 rfl (lv_at hl 0 rfl) ?_
      refine va_get (D := G.1) (ci := 4) (v := .ref (am 1)) (C := RX4) (T := TX4) (N := 12) hx hb hts iwX4 hown hK hP 0 rfl rfl 0 (by decide) ha0 (fun _ h9 => h9) rfl dX4_cut_29 ?_
      refine lv_bipush (v := nI 60) hx hb dX4_cut_32 (by decide) ?_
      refine lv_iload_n hx hb dX4_cut_34 rfl (lv_at hl 1 rfl) ?_
      refine lv_iadd hx hb dX4_cut_35 ?_
      refine lv_iload_n hx hb dX4_cut_36 rfl (lv_at hl 2 rfl) ?_
      obtain ⟨N_11, e_12, hrun⟩ := bd hrun
      replace e_12 := stO_spec e_12
      refine va_iast hx hb hK hP hD hS 1 0 rfl rfl e_12.1 dX4_cut_37 (fun H locs hP hD hS => ?_)
      replace hP : va_P G.1 vwCl (wMod G am N_11) H := by rw [← e_12.2]; exact hP
      replace hD : va_D A (wMod G am N_11) := by rw [← e_12.2]; exact hD
      refine lv_aload_n hx hb dX4_cut_38 rfl (lv_at hl 0 rfl) ?_
      obtain ⟨v_13, e_14, hrun⟩ := bd hrun
      refine y_ro (va_runV (As := []) (rest := []) ⟨hx, hb, hml, hown, hts⟩ (c_X4_breaks l G am N_11  v_13 e_14) (cwV 0 hts gX4_cut_X4_breaks rfl rfl rfl (by decide +kernel) ⟨Nat.le_of_ble_eq_true rfl, Nat.le_of_ble_eq_true rfl⟩) ⟨PreR.blind, va_recv hK hP (ci := 4) (q0 := 0) rfl rfl, y_preR hC hP⟩ rfl rfl hl.1 rfl (lv_room (Nat.le_of_ble_eq_true rfl)) dX4_cut_39 ⟨Nat.zero_le _, Nat.zero_le _⟩) ?_
      obtain ⟨hr1, hr2⟩ := si2 hrun
      exact W.iret (v := v_13) hx hb hr (fun t ht hW => ⟨⟨v_13, (), rfl, hr1, by rw [ht, ← hr2]; exact hP, by rw [← hr2]; exact hD⟩, hS.F ht⟩) hS.2.2 dX4_cut_42
    · replace hrun := it_pos c_10 hrun
      refine lv_bipush (v := -2) hx hb dX4_cut_25 (by decide) ?_
      obtain ⟨hr1, hr2⟩ := si2 hrun
      exact W.iret (v := (-2)) hx hb hr (fun t ht hW => ⟨⟨(-2), (), rfl, hr1, by rw [ht, ← hr2]; exact hP, by rw [← hr2]; exact hD⟩, hS.F ht⟩) hS.2.2 dX4_cut_27
  · replace hrun := it_pos c_6 hrun
    refine lv_iconst (v := -1) hx hb dX4_cut_14 (by decide) ?_
    obtain ⟨hr1, hr2⟩ := si2 hrun
    exact W.iret (v := (-1)) hx hb hr (fun t ht hW => ⟨⟨(-1), (), rfl, hr1, by rw [ht, ← hr2]; exact hP, by rw [← hr2]; exact hD⟩, hS.F ht⟩) hS.2.2 dX4_cut_15
def p_X4_beginPage   (M : Ob) : Option (Ob) := ((some (puO M 10 ((M 10 0) + (nI 1)))).bind fun M_1 => ((stO M_1 8 130 (M_1 10 0) (-6)).bind fun N_3 => ((stO N_3 9 130 (N_3 10 0) (nI 0)).bind fun N_5 => (some N_5))))
abbrev rmX4_beginPage : Room := { frames := 0, cells := 0, slots := 0, locals := 0 }
set_option maxHeartbeats 4000000 in
set_option maxRecDepth 100000 in
theorem c_X4_beginPage (l : Launch) (G : GT) (am : Nat → Nat) (M : Ob) (sz : Nat) (M0 : Ob) (hrun : p_X4_beginPage M = some M0) : Met l yX4_beginPage wsX4_beginPage rmX4_beginPage (PreW G [.ref (am 0)] (wMod G am M) sz) (QV G (wMod G am M0) (va_A (wMod G am M) sz)) 0 0 (va_A (wMod G am M) sz) := by
  refine Met.ofW (cc := cX4_beginPage) (maxL := 1) (ret := none) (by decide) rfl ?_
  intro p e s m args below meth c s₁ Bd hml hv
  obtain ⟨rfl, hsz, hP, hC, hD0⟩ := hv
  have hx := Bd.exec
  have hb := Bd.bytes
  have hr := Bd.returns
  have hts := atoms_spec (ws := wsX4_beginPage) Bd.pre
  have hown : s.vm.findClass RX4 = some m.cls := findClass_of_methodNamed Bd.named
  have hlocks := Bd.notSynchronized
  have hK := hC.1
  have iwX4 : ∀ w ∈ wsX40, w ∈ wsX4_beginPage := by decide +kernel
  have ha0 := hts (.fieldLink RX4 76 "HeadMarksModel" "pages" "I") (by decide +kernel)
  have ha1 := hts (.fieldLink RX4 32 "HeadMarksModel" "firstOn" "[I") (by decide +kernel)
  have ha2 := hts (.fieldLink RX4 35 "HeadMarksModel" "linesOn" "[I") (by decide +kernel)
  subst hsz
  have hD := hD0.self (sz := s.heap.size)
  generalize hAe : va_A (wMod G am M) s.heap.size = A at hD ⊢
  have hA : ∀ q : Nat, s.heap.size ≤ q → A q := fun q h => by rw [← hAe]; exact Or.inr h
  have hS : va_S A s.heap s.heap [] := va_S.rf
  have hl := lv_entry [.ref (am 0)] (n := 1) (Nat.le_of_ble_eq_true rfl)
  rw [lg_entry_eq]
  generalize (lg_sl [.ref (am 0)] ++ List.replicate (1 - (lg_sl [.ref (am 0)]).length) Slot.unset).toArray = ls at hl ⊢
  have hl : lv_has ls 1 [(0, .ref (am 0))] := hl
  rw [p_X4_beginPage] at hrun
  refine lv_aload_n hx hb dX4_beginPage_0 rfl (lv_at hl 0 rfl) ?_
  refine lv_dup hx hb dX4_beginPage_1 rfl ?_
  refine va_get (D := G.1) (ci := 4) (v := .int (M 10 0)) (C := RX4) (T := TX4) (N := 12) hx hb hts iwX4 hown hK hP 0 rfl rfl 10 (by decide) ha0 (fun _ h9 => h9) rfl dX4_beginPage_2 ?_
  refine lv_iconst (v := nI 1) hx hb dX4_beginPage_5 (by decide) ?_
  refine lv_iadd hx hb dX4_beginPage_6 ?_
  obtain ⟨M_1, e_2, hrun⟩ := bd hrun
  replace e_2 := si e_2
  refine va_put (D := G.1) (ci := 4) (v := .int ((M 10 0) + (nI 1))) (ty := .int) (C := RX4) (T := TX4) (N := 12) hx hb hts iwX4 tyX4 tyX4_ok nmX4 hown hK hP hD hS 0 rfl rfl 10 (by decide) ha0 (fun _ h9 => h9) rfl (by decide +kernel) rfl rfl (Nat.le_of_ble_eq_true rfl) dX4_beginPage_7 (fun H locs hP hD hS => ?_)
  replace hP : va_P G.1 vwCl (wMod G am M_1) H := by rw [← e_2]; exact hP
  replace hD : va_D A (wMod G am M_1) := by rw [← e_2]; exact hD
  refine lv_aload_n hx hb dX4_beginPage_10 rfl (lv_at hl 0 rfl) ?_
  refine va_get (D := G.1) (ci := 4) (v := .ref (am 8)) (C := RX4) (T := TX4) (N := 12) hx hb hts iwX4 hown hK hP 0 rfl rfl 8 (by decide) ha1 (fun _ h9 => h9) rfl dX4_beginPage_11 ?_
  refine lv_aload_n hx hb dX4_beginPage_14 rfl (lv_at hl 0 rfl) ?_
  refine va_get (D := G.1) (ci := 4) (v := .int (M_1 10 0)) (C := RX4) (T := TX4) (N := 12) hx hb hts iwX4 hown hK hP 0 rfl rfl 10 (by decide) ha0 (fun _ h9 => h9) rfl dX4_beginPage_15 ?_
  refine lv_bipush (v := -6) hx hb dX4_beginPage_18 (by decide) ?_
  obtain ⟨N_3, e_4, hrun⟩ := bd hrun
  replace e_4 := stO_spec e_4
  refine va_iast hx hb hK hP hD hS 8 0 rfl rfl e_4.1 dX4_beginPage_20 (fun H locs hP hD hS => ?_)
  replace hP : va_P G.1 vwCl (wMod G am N_3) H := by rw [← e_4.2]; exact hP
  replace hD : va_D A (wMod G am N_3) := by rw [← e_4.2]; exact hD
  refine lv_aload_n hx hb dX4_beginPage_21 rfl (lv_at hl 0 rfl) ?_
  refine va_get (D := G.1) (ci := 4) (v := .ref (am 9)) (C := RX4) (T := TX4) (N := 12) hx hb hts iwX4 hown hK hP 0 rfl rfl 9 (by decide) ha2 (fun _ h9 => h9) rfl dX4_beginPage_22 ?_
  refine lv_aload_n hx hb dX4_beginPage_25 rfl (lv_at hl 0 rfl) ?_
  refine va_get (D := G.1) (ci := 4) (v := .int (N_3 10 0)) (C := RX4) (T := TX4) (N := 12) hx hb hts iwX4 hown hK hP 0 rfl rfl 10 (by decide) ha0 (fun _ h9 => h9) rfl dX4_beginPage_26 ?_
  refine lv_iconst (v := nI 0) hx hb dX4_beginPage_29 (by decide) ?_
  obtain ⟨N_5, e_6, hrun⟩ := bd hrun
  replace e_6 := stO_spec e_6
  refine va_iast hx hb hK hP hD hS 9 0 rfl rfl e_6.1 dX4_beginPage_30 (fun H locs hP hD hS => ?_)
  replace hP : va_P G.1 vwCl (wMod G am N_5) H := by rw [← e_6.2]; exact hP
  replace hD : va_D A (wMod G am N_5) := by rw [← e_6.2]; exact hD
  have hr2 := si hrun
  exact W.vret hx hb hr (fun t ht hW => ⟨⟨(), rfl, trivial, by rw [ht, ← hr2]; exact hP, by rw [← hr2]; exact hD⟩, hS.F ht⟩) hS.2.2 dX4_beginPage_31
def p_X4_layForce_46  (K : Int32 → Int32 → Int32 → Ob → Option (Ob)) (x1 : Int32) (x2 : Int32) (x3 : Int32) (y0 : Int32) (y1 : Int32) (M : Ob) : Option (Ob) := ((stO M 7 120 y1 y0).bind fun N_23 => K x1 x2 (x3 + nI 1) N_23)
def p_X4_layForce_104  (y0 : Int32) (y1 : Int32) (M : Ob) : Option (Ob) := ((stO M 7 120 y1 y0).bind fun N_21 => (some N_21))
def p_X4_layForce_11  : Nat → Int32 → Int32 → Int32 → Ob → Option (Ob)
  | 0, _, _, _, _ => none
  | n + 1, x1, x2, x3, M => (if (nI 2) ≤ x3 then ((p_X4_isChapter x2).bind fun v_4 => (if v_4 = nI 0 then (if x2 = nI 0 then (some M) else ((stO M 7 120 (((nI 2) * x1) + (nI 1)) x2).bind fun N_9 => (some N_9))) else ((stO M 7 120 ((nI 2) * x1) x2).bind fun N_11 => ((ldI (N_11 0) 130 (nI 124)).bind fun v_13 => (if v_13 = (nI 1) then p_X4_layForce_104 (-6) (((nI 2) * x1) + (nI 1)) N_11 else ((ldI (N_11 7) 120 (((nI 2) * x1) + (nI 1))).bind fun v_16 => p_X4_layForce_104 v_16 (((nI 2) * x1) + (nI 1)) N_11)))))) else (if x1 ≤ nI 0 then p_X4_layForce_46 (p_X4_layForce_11 n) x1 x2 x3 (-6) (((nI 2) * x1) + x3) M else ((ldI (M 7) 120 ((((nI 2) * x1) - (nI 2)) + x3)).bind fun v_19 => p_X4_layForce_46 (p_X4_layForce_11 n) x1 x2 x3 v_19 (((nI 2) * x1) + x3) M)))
def p_X4_layForce  (u1 : Int32) (M : Ob) : Option (Ob) := ((ldI (M 0) 130 ((nI 0) + u1)).bind fun v_1 => p_X4_layForce_11 200 u1 v_1 (nI 0) M)
abbrev rmX4_layForce : Room := { frames := 2, cells := 0, slots := 0, locals := 42 }
set_option maxHeartbeats 4000000 in
set_option maxRecDepth 100000 in
theorem c_X4_layForce (l : Launch) (G : GT) (am : Nat → Nat) (M : Ob) (u1 : Int32) (sz : Nat) (M0 : Ob) (hrun : p_X4_layForce u1 M = some M0) : Met l yX4_layForce wsX4_layForce rmX4_layForce (PreW G [.ref (am 0), .int u1] (wMod G am M) sz) (QV G (wMod G am M0) (va_A (wMod G am M) sz)) 0 0 (va_A (wMod G am M) sz) := by
  refine Met.ofW (cc := cX4_layForce) (maxL := 4) (ret := none) (by decide) rfl ?_
  intro p e s m args below meth c s₁ Bd hml hv
  obtain ⟨rfl, hsz, hP, hC, hD0⟩ := hv
  have hx := Bd.exec
  have hb := Bd.bytes
  have hr := Bd.returns
  have hts := atoms_spec (ws := wsX4_layForce) Bd.pre
  have hown : s.vm.findClass RX4 = some m.cls := findClass_of_methodNamed Bd.named
  have hlocks := Bd.notSynchronized
  have hK := hC.1
  have iwX4 : ∀ w ∈ wsX40, w ∈ wsX4_layForce := by decide +kernel
  have ha0 := hts (.fieldLink RX4 7 "HeadMarksModel" "state" "[I") (by decide +kernel)
  have ha1 := hts (.fieldLink RX4 29 "HeadMarksModel" "force" "[I") (by decide +kernel)
  subst hsz
  have hD := hD0.self (sz := s.heap.size)
  generalize hAe : va_A (wMod G am M) s.heap.size = A at hD ⊢
  have hA : ∀ q : Nat, s.heap.size ≤ q → A q := fun q h => by rw [← hAe]; exact Or.inr h
  have hS : va_S A s.heap s.heap [] := va_S.rf
  have kJ_104 : ∀ (y0 y1 : Int32) (M : Ob) , ∀ (H : Heap) (locs : List Loc), va_P G.1 vwCl (wMod G am M) H → va_D A (wMod G am M) → va_S A s.heap H locs → ∀ (ls : Array Slot), lv_has ls 4 [] → p_X4_layForce_104 y0 y1 M = some M0 → W p l e (headSpec wsX4_layForce rmX4_layForce).room s m ([.ref (am 0), .int u1] : List Value).toArray below meth c H locs 0 0 (MQ below (QV G (wMod G am M0) A) ([.ref (am 0), .int u1] : List Value).toArray s 0 0 A) (F0 m 104 ls [.int y0, .int y1, .ref (am 7)]) := by
    intro y0 y1 M H locs hP hD hS ls hl hrun
    rw [p_X4_layForce_104] at hrun
    obtain ⟨N_21, e_22, hrun⟩ := bd hrun
    replace e_22 := stO_spec e_22
    refine va_iast hx hb hK hP hD hS 7 0 rfl rfl e_22.1 dX4_layForce_104 (fun H locs hP hD hS => ?_)
    replace hP : va_P G.1 vwCl (wMod G am N_21) H := by rw [← e_22.2]; exact hP
    replace hD : va_D A (wMod G am N_21) := by rw [← e_22.2]; exact hD
    refine lv_goto (tgt := 123) hx hb dX4_layForce_105 (by decide) ?_
    have hr2 := si hrun
    exact W.vret hx hb hr (fun t ht hW => ⟨⟨(), rfl, trivial, by rw [ht, ← hr2]; exact hP, by rw [← hr2]; exact hD⟩, hS.F ht⟩) hS.2.2 dX4_layForce_123
  have kH_11 : ∀ (n : Nat) (x1 x2 x3 : Int32) (M : Ob) , ∀ (H : Heap) (locs : List Loc), va_P G.1 vwCl (wMod G am M) H → va_D A (wMod G am M) → va_S A s.heap H locs → ∀ (ls : Array Slot), lv_has ls 4 [(0, .ref (am 0)), (1, .int x1), (2, .int x2), (3, .int x3)] → p_X4_layForce_11 n x1 x2 x3 M = some M0 → W p l e (headSpec wsX4_layForce rmX4_layForce).room s m ([.ref (am 0), .int u1] : List Value).toArray below meth c H locs 0 0 (MQ below (QV G (wMod G am M0) A) ([.ref (am 0), .int u1] : List Value).toArray s 0 0 A) (F0 m 11 ls []) := by
    intro n
    induction n with
    | zero => intro x1 x2 x3 M H locs hP hD hS ls hl hrun; exact absurd (hrun : (none : Option (Ob)) = some M0) (fun h => by cases h)
    | succ n ih =>
      have kJ_46 : ∀ (x1 x2 x3 y0 y1 : Int32) (M : Ob) , ∀ (H : Heap) (locs : List Loc), va_P G.1 vwCl (wMod G am M) H → va_D A (wMod G am M) → va_S A s.heap H locs → ∀ (ls : Array Slot), lv_has ls 4 [(0, .ref (am 0)), (1, .int x1), (2, .int x2), (3, .int x3)] → p_X4_layForce_46 (p_X4_layForce_11 n) x1 x2 x3 y0 y1 M = some M0 → W p l e (headSpec wsX4_layForce rmX4_layForce).room s m ([.ref (am 0), .int u1] : List Value).toArray below meth c H locs 0 0 (MQ below (QV G (wMod G am M0) A) ([.ref (am 0), .int u1] : List Value).toArray s 0 0 A) (F0 m 46 ls [.int y0, .int y1, .ref (am 7)]) := by
        intro x1 x2 x3 y0 y1 M H locs hP hD hS ls hl hrun
        rw [p_X4_layForce_46] at hrun
        obtain ⟨N_23, e_24, hrun⟩ := bd hrun
        replace e_24 := stO_spec e_24
        refine va_iast hx hb hK hP hD hS 7 0 rfl rfl e_24.1 dX4_layForce_46 (fun H locs hP hD hS => ?_)
        replace hP : va_P G.1 vwCl (wMod G am N_23) H := by rw [← e_24.2]; exact hP
        replace hD : va_D A (wMod G am N_23) := by rw [← e_24.2]; exact hD
        refine lv_iinc (v := (x3 + nI 1)) (lv' := [(3, .int (x3 + nI 1)), (0, .ref (am 0)), (1, .int x1), (2, .int x2)]) hx hb dX4_layForce_47 hl (k := 3) rfl rfl (by decide) rfl (fun ls hl => ?_)
        refine lv_goto (tgt := 11) hx hb dX4_layForce_50 (by decide) ?_
        exact ih x1 x2 (x3 + nI 1) N_23 _ _ hP hD hS ls (lv_sub hl [1, 2, 3, 0] rfl) hrun
      intro x1 x2 x3 M H locs hP hD hS ls hl hrun
      rw [p_X4_layForce_11] at hrun
      refine lv_iload_n hx hb dX4_layForce_11 rfl (lv_at hl 3 rfl) ?_
      refine lv_iconst (v := nI 2) hx hb dX4_layForce_12 (by decide) ?_
      refine lv_icmp_ge (tgt := 53) hx hb dX4_layForce_13 (by decide) (fun c_3 => ?_) (fun c_3 => ?_)
      · replace hrun := it_pos c_3 hrun
        refine lv_iload_n hx hb dX4_layForce_53 rfl (lv_at hl 2 rfl) ?_
        obtain ⟨v_4, e_5, hrun⟩ := bd hrun
        refine y_roz (va_runS (As := [.int x2]) (rest := []) ⟨hx, hb, hml, hown, hts⟩ (c_X4_isChapter l G   x2 v_4 e_5) (cwS 1 hts gX4_layForce_X4_isChapter rfl rfl rfl (by decide +kernel) ⟨Nat.le_of_ble_eq_true rfl, Nat.le_of_ble_eq_true rfl⟩) ⟨PreR.blind, y_preR hC (fun _ _ h => by cases h)⟩ rfl rfl hl.1 rfl (lv_room (Nat.le_of_ble_eq_true rfl)) dX4_layForce_54 ⟨Nat.zero_le _, Nat.zero_le _⟩) (fun z_6 => ?_)
        refine lv_if_eq (tgt := 108) hx hb dX4_layForce_57 (by decide) (fun c_7 => ?_) (fun c_7 => ?_)
        · replace hrun := it_pos c_7 hrun
          refine lv_iload_n hx hb dX4_layForce_108 rfl (lv_at hl 2 rfl) ?_
          refine lv_if_eq (tgt := 123) hx hb dX4_layForce_109 (by decide) (fun c_8 => ?_) (fun c_8 => ?_)
          · replace hrun := it_pos c_8 hrun
            have hr2 := si hrun
            exact W.vret hx hb hr (fun t ht hW => ⟨⟨(), rfl, trivial, by rw [ht, ← hr2]; exact hP, by rw [← hr2]; exact hD⟩, hS.F ht⟩) hS.2.2 dX4_layForce_123
          · replace hrun := it_neg c_8 hrun
            refine lv_aload_n hx hb dX4_layForce_112 rfl (lv_at hl 0 rfl) ?_
            refine va_get (D := G.1) (ci := 4) (v := .ref (am 7)) (C := RX4) (T := TX4) (N := 12) hx hb hts iwX4 hown hK hP 0 rfl rfl 7 (by decide) ha1 (fun _ h9 => h9) rfl dX4_layForce_113 ?_
            refine lv_iconst (v := nI 2) hx hb dX4_layForce_116 (by decide) ?_
            refine lv_iload_n hx hb dX4_layForce_117 rfl (lv_at hl 1 rfl) ?_
            refine lv_imul hx hb dX4_layForce_118 ?_
            refine lv_iconst (v := nI 1) hx hb dX4_layForce_119 (by decide) ?_
            refine lv_iadd hx hb dX4_layForce_120 ?_
            refine lv_iload_n hx hb dX4_layForce_121 rfl (lv_at hl 2 rfl) ?_
            obtain ⟨N_9, e_10, hrun⟩ := bd hrun
            replace e_10 := stO_spec e_10
            refine va_iast hx hb hK hP hD hS 7 0 rfl rfl e_10.1 dX4_layForce_122 (fun H locs hP hD hS => ?_)
            replace hP : va_P G.1 vwCl (wMod G am N_9) H := by rw [← e_10.2]; exact hP
            replace hD : va_D A (wMod G am N_9) := by rw [← e_10.2]; exact hD
            have hr2 := si hrun
            exact W.vret hx hb hr (fun t ht hW => ⟨⟨(), rfl, trivial, by rw [ht, ← hr2]; exact hP, by rw [← hr2]; exact hD⟩, hS.F ht⟩) hS.2.2 dX4_layForce_123
        · replace hrun := it_neg c_7 hrun
          refine lv_aload_n hx hb dX4_layForce_60 rfl (lv_at hl 0 rfl) ?_
          refine va_get (D := G.1) (ci := 4) (v := .ref (am 7)) (C := RX4) (T := TX4) (N := 12) hx hb hts iwX4 hown hK hP 0 rfl rfl 7 (by decide) ha1 (fun _ h9 => h9) rfl dX4_layForce_61 ?_
          refine lv_iconst (v := nI 2) hx hb dX4_layForce_64 (by decide) ?_
          refine lv_iload_n hx hb dX4_layForce_65 rfl (lv_at hl 1 rfl) ?_
          refine lv_imul hx hb dX4_layForce_66 ?_
          refine lv_iload_n hx hb dX4_layForce_67 rfl (lv_at hl 2 rfl) ?_
          obtain ⟨N_11, e_12, hrun⟩ := bd hrun
          replace e_12 := stO_spec e_12
          refine va_iast hx hb hK hP hD hS 7 0 rfl rfl e_12.1 dX4_layForce_68 (fun H locs hP hD hS => ?_)
          replace hP : va_P G.1 vwCl (wMod G am N_11) H := by rw [← e_12.2]; exact hP
          replace hD : va_D A (wMod G am N_11) := by rw [← e_12.2]; exact hD
          refine lv_aload_n hx hb dX4_layForce_69 rfl (lv_at hl 0 rfl) ?_
          refine va_get (D := G.1) (ci := 4) (v := .ref (am 7)) (C := RX4) (T := TX4) (N := 12) hx hb hts iwX4 hown hK hP 0 rfl rfl 7 (by decide) ha1 (fun _ h9 => h9) rfl dX4_layForce_70 ?_
          refine lv_iconst (v := nI 2) hx hb dX4_layForce_73 (by decide) ?_
          refine lv_iload_n hx hb dX4_layForce_74 rfl (lv_at hl 1 rfl) ?_
          refine lv_imul hx hb dX4_layForce_75 ?_
          refine lv_iconst (v := nI 1) hx hb dX4_layForce_76 (by decide) ?_
          refine lv_iadd hx hb dX4_layForce_77 ?_
          refine lv_aload_n hx hb dX4_layForce_78 rfl (lv_at hl 0 rfl) ?_
          refine va_get (D := G.1) (ci := 4) (v := .ref (am 1)) (C := RX4) (T := TX4) (N := 12) hx hb hts iwX4 hown hK hP 0 rfl rfl 0 (by decide) ha0 (fun _ h9 => h9) rfl dX4_layForce_79 ?_
          refine lv_bipush (v := nI 124) hx hb dX4_layForce_82 (by decide) ?_
          obtain ⟨v_13, e_14, hrun⟩ := bd hrun
          refine y_ald hx hb hK hP 1 0 rfl rfl e_14 dX4_layForce_84 ?_
          refine lv_iconst (v := nI 1) hx hb dX4_layForce_85 (by decide) ?_
          refine lv_icmp_ne (tgt := 94) hx hb dX4_layForce_86 (by decide) (fun c_15 => ?_) (fun c_15 => ?_)
          · replace hrun := it_neg c_15 hrun
            refine lv_aload_n hx hb dX4_layForce_94 rfl (lv_at hl 0 rfl) ?_
            refine va_get (D := G.1) (ci := 4) (v := .ref (am 7)) (C := RX4) (T := TX4) (N := 12) hx hb hts iwX4 hown hK hP 0 rfl rfl 7 (by decide) ha1 (fun _ h9 => h9) rfl dX4_layForce_95 ?_
            refine lv_iconst (v := nI 2) hx hb dX4_layForce_98 (by decide) ?_
            refine lv_iload_n hx hb dX4_layForce_99 rfl (lv_at hl 1 rfl) ?_
            refine lv_imul hx hb dX4_layForce_100 ?_
            refine lv_iconst (v := nI 1) hx hb dX4_layForce_101 (by decide) ?_
            refine lv_iadd hx hb dX4_layForce_102 ?_
            obtain ⟨v_16, e_17, hrun⟩ := bd hrun
            refine y_ald hx hb hK hP 7 0 rfl rfl e_17 dX4_layForce_103 ?_
            exact kJ_104 v_16 (((nI 2) * x1) + (nI 1)) N_11 _ _ hP hD hS ls (lv_sub hl [] rfl) hrun
          · replace hrun := it_pos c_15 hrun
            refine lv_bipush (v := -6) hx hb dX4_layForce_89 (by decide) ?_
            refine lv_goto (tgt := 104) hx hb dX4_layForce_91 (by decide) ?_
            exact kJ_104 (-6) (((nI 2) * x1) + (nI 1)) N_11 _ _ hP hD hS ls (lv_sub hl [] rfl) hrun
      · replace hrun := it_neg c_3 hrun
        refine lv_aload_n hx hb dX4_layForce_16 rfl (lv_at hl 0 rfl) ?_
        refine va_get (D := G.1) (ci := 4) (v := .ref (am 7)) (C := RX4) (T := TX4) (N := 12) hx hb hts iwX4 hown hK hP 0 rfl rfl 7 (by decide) ha1 (fun _ h9 => h9) rfl dX4_layForce_17 ?_
        refine lv_iconst (v := nI 2) hx hb dX4_layForce_20 (by decide) ?_
        refine lv_iload_n hx hb dX4_layForce_21 rfl (lv_at hl 1 rfl) ?_
        refine lv_imul hx hb dX4_layForce_22 ?_
        refine lv_iload_n hx hb dX4_layForce_23 rfl (lv_at hl 3 rfl) ?_
        refine lv_iadd hx hb dX4_layForce_24 ?_
        refine lv_iload_n hx hb dX4_layForce_25 rfl (lv_at hl 1 rfl) ?_
        refine lv_if_le (tgt := 44) hx hb dX4_layForce_26 (by decide) (fun c_18 => ?_) (fun c_18 => ?_)
        · replace hrun := it_pos c_18 hrun
          refine lv_bipush (v := -6) hx hb dX4_layForce_44 (by decide) ?_
          exact kJ_46 x1 x2 x3 (-6) (((nI 2) * x1) + x3) M _ _ hP hD hS ls (lv_sub hl [0, 1, 2, 3] rfl) hrun
        · replace hrun := it_neg c_18 hrun
          refine lv_aload_n hx hb dX4_layForce_29 rfl (lv_at hl 0 rfl) ?_
          refine va_get (D := G.1) (ci := 4) (v := .ref (am 7)) (C := RX4) (T := TX4) (N := 12) hx hb hts iwX4 hown hK hP 0 rfl rfl 7 (by decide) ha1 (fun _ h9 => h9) rfl dX4_layForce_30 ?_
          refine lv_iconst (v := nI 2) hx hb dX4_layForce_33 (by decide) ?_
          refine lv_iload_n hx hb dX4_layForce_34 rfl (lv_at hl 1 rfl) ?_
          refine lv_imul hx hb dX4_layForce_35 ?_
          refine lv_iconst (v := nI 2) hx hb dX4_layForce_36 (by decide) ?_
          refine lv_isub hx hb dX4_layForce_37 ?_
          refine lv_iload_n hx hb dX4_layForce_38 rfl (lv_at hl 3 rfl) ?_
          refine lv_iadd hx hb dX4_layForce_39 ?_
          obtain ⟨v_19, e_20, hrun⟩ := bd hrun
          refine y_ald hx hb hK hP 7 0 rfl rfl e_20 dX4_layForce_40 ?_
          refine lv_goto (tgt := 46) hx hb dX4_layForce_41 (by decide) ?_
          exact kJ_46 x1 x2 x3 v_19 (((nI 2) * x1) + x3) M _ _ hP hD hS ls (lv_sub hl [0, 1, 2, 3] rfl) hrun
  have hl := lv_entry [.ref (am 0), .int u1] (n := 4) (Nat.le_of_ble_eq_true rfl)
  rw [lg_entry_eq]
  generalize (lg_sl [.ref (am 0), .int u1] ++ List.replicate (4 - (lg_sl [.ref (am 0), .int u1]).length) Slot.unset).toArray = ls at hl ⊢
  have hl : lv_has ls 4 [(0, .ref (am 0)), (1, .int u1)] := hl
  rw [p_X4_layForce] at hrun
  refine lv_aload_n hx hb dX4_layForce_0 rfl (lv_at hl 0 rfl) ?_
  refine va_get (D := G.1) (ci := 4) (v := .ref (am 1)) (C := RX4) (T := TX4) (N := 12) hx hb hts iwX4 hown hK hP 0 rfl rfl 0 (by decide) ha0 (fun _ h9 => h9) rfl dX4_layForce_1 ?_
  refine lv_iconst (v := nI 0) hx hb dX4_layForce_4 (by decide) ?_
  refine lv_iload_n hx hb dX4_layForce_5 rfl (lv_at hl 1 rfl) ?_
  refine lv_iadd hx hb dX4_layForce_6 ?_
  obtain ⟨v_1, e_2, hrun⟩ := bd hrun
  refine y_ald hx hb hK hP 1 0 rfl rfl e_2 dX4_layForce_7 ?_
  refine lv_istore_n (lv' := [(2, .int v_1), (0, .ref (am 0)), (1, .int u1)]) hx hb dX4_layForce_8 rfl hl (by decide) rfl (fun ls hl => ?_)
  refine lv_iconst (v := nI 0) hx hb dX4_layForce_9 (by decide) ?_
  refine lv_istore_n (lv' := [(3, .int (nI 0)), (2, .int v_1), (0, .ref (am 0)), (1, .int u1)]) hx hb dX4_layForce_10 rfl hl (by decide) rfl (fun ls hl => ?_)
  exact kH_11 200 u1 v_1 (nI 0) M _ _ hP hD hS ls (lv_sub hl [2, 3, 1, 0] rfl) hrun
def p_X4_layPages_143  (K : Int32 → Ob → Option (Ob)) (x1 : Int32) (y0 : Int32) (y1 : Int32) (M : Ob) : Option (Ob) := ((stO M 8 130 y1 y0).bind fun N_40 => ((ldI (N_40 9) 130 (N_40 10 0)).bind fun v_42 => ((stO N_40 9 130 (N_40 10 0) (v_42 + (nI 1))).bind fun N_44 => ((p_X4_layForce x1 N_44).bind fun N_47 => K (x1 + nI 1) N_47))))
def p_X4_layPages_85  (K : Int32 → Ob → Option (Ob)) (x1 : Int32) (M : Ob) : Option (Ob) := ((stO M 5 60 x1 (M 10 0)).bind fun N_29 => ((ldI (N_29 9) 130 (N_29 10 0)).bind fun v_31 => ((stO N_29 6 60 x1 v_31).bind fun N_33 => ((ldI (N_33 9) 130 (N_33 10 0)).bind fun v_35 => (if v_35 = nI 0 then p_X4_layPages_143 K x1 x1 (N_33 10 0) N_33 else ((ldI (N_33 8) 130 (N_33 10 0)).bind fun v_38 => p_X4_layPages_143 K x1 v_38 (N_33 10 0) N_33))))))
def p_X4_layPages_7  : Nat → Int32 → Ob → Option (Ob)
  | 0, _, _ => none
  | n + 1, x1, M => ((p_X4_many M).bind fun v_3 => (if v_3 ≤ x1 then (some M) else (if x1 = nI 0 then ((p_X4_beginPage M).bind fun N_28 => p_X4_layPages_85 (p_X4_layPages_7 n) x1 N_28) else ((ldI (M 9) 130 (M 10 0)).bind fun v_7 => ((p_X4_isNew M x1 v_7).bind fun v_9 => (if v_9 = nI 0 then p_X4_layPages_85 (p_X4_layPages_7 n) x1 M else ((p_X4_beginPage M).bind fun N_14 => ((ldI (N_14 0) 130 (nI 122)).bind fun v_15 => (if v_15 = (nI 2) then ((ldI (N_14 0) 130 ((nI 0) + x1)).bind fun v_18 => ((p_X4_isChapter v_18).bind fun v_20 => (if v_20 = nI 0 then p_X4_layPages_85 (p_X4_layPages_7 n) x1 N_14 else (if ((N_14 10 0) - (N_14 10 0) / (nI 2) * (nI 2)) = nI 0 then ((p_X4_beginPage N_14).bind fun N_26 => p_X4_layPages_85 (p_X4_layPages_7 n) x1 N_26) else p_X4_layPages_85 (p_X4_layPages_7 n) x1 N_14)))) else p_X4_layPages_85 (p_X4_layPages_7 n) x1 N_14)))))))))
def p_X4_layPages   (M : Ob) : Option (Ob) := ((some (puO M 10 (nI 0))).bind fun M_1 => p_X4_layPages_7 200 (nI 0) M_1)
abbrev rmX4_layPages : Room := { frames := 3, cells := 0, slots := 0, locals := 65 }
set_option maxHeartbeats 4000000 in
set_option maxRecDepth 100000 in
theorem c_X4_layPages (l : Launch) (G : GT) (am : Nat → Nat) (M : Ob) (sz : Nat) (M0 : Ob) (hrun : p_X4_layPages M = some M0) : Met l yX4_layPages wsX4_layPages rmX4_layPages (PreW G [.ref (am 0)] (wMod G am M) sz) (QV G (wMod G am M0) (va_A (wMod G am M) sz)) 0 0 (va_A (wMod G am M) sz) := by
  refine Met.ofW (cc := cX4_layPages) (maxL := 2) (ret := none) (by decide) rfl ?_
  intro p e s m args below meth c s₁ Bd hml hv
  obtain ⟨rfl, hsz, hP, hC, hD0⟩ := hv
  have hx := Bd.exec
  have hb := Bd.bytes
  have hr := Bd.returns
  have hts := atoms_spec (ws := wsX4_layPages) Bd.pre
  have hown : s.vm.findClass RX4 = some m.cls := findClass_of_methodNamed Bd.named
  have hlocks := Bd.notSynchronized
  have hK := hC.1
  have iwX4 : ∀ w ∈ wsX40, w ∈ wsX4_layPages := by decide +kernel
  have ha0 := hts (.fieldLink RX4 76 "HeadMarksModel" "pages" "I") (by decide +kernel)
  have ha1 := hts (.fieldLink RX4 35 "HeadMarksModel" "linesOn" "[I") (by decide +kernel)
  have ha2 := hts (.fieldLink RX4 7 "HeadMarksModel" "state" "[I") (by decide +kernel)
  have ha3 := hts (.fieldLink RX4 23 "HeadMarksModel" "pageOf" "[I") (by decide +kernel)
  have ha4 := hts (.fieldLink RX4 26 "HeadMarksModel" "placeOf" "[I") (by decide +kernel)
  have ha5 := hts (.fieldLink RX4 32 "HeadMarksModel" "firstOn" "[I") (by decide +kernel)
  subst hsz
  have hD := hD0.self (sz := s.heap.size)
  generalize hAe : va_A (wMod G am M) s.heap.size = A at hD ⊢
  have hA : ∀ q : Nat, s.heap.size ≤ q → A q := fun q h => by rw [← hAe]; exact Or.inr h
  have hS : va_S A s.heap s.heap [] := va_S.rf
  have kH_7 : ∀ (n : Nat) (x1 : Int32) (M : Ob) , ∀ (H : Heap) (locs : List Loc), va_P G.1 vwCl (wMod G am M) H → va_D A (wMod G am M) → va_S A s.heap H locs → ∀ (ls : Array Slot), lv_has ls 2 [(0, .ref (am 0)), (1, .int x1)] → p_X4_layPages_7 n x1 M = some M0 → W p l e (headSpec wsX4_layPages rmX4_layPages).room s m ([.ref (am 0)] : List Value).toArray below meth c H locs 0 0 (MQ below (QV G (wMod G am M0) A) ([.ref (am 0)] : List Value).toArray s 0 0 A) (F0 m 7 ls []) := by
    intro n
    induction n with
    | zero => intro x1 M H locs hP hD hS ls hl hrun; exact absurd (hrun : (none : Option (Ob)) = some M0) (fun h => by cases h)
    | succ n ih =>
      have kJ_143 : ∀ (x1 y0 y1 : Int32) (M : Ob) , ∀ (H : Heap) (locs : List Loc), va_P G.1 vwCl (wMod G am M) H → va_D A (wMod G am M) → va_S A s.heap H locs → ∀ (ls : Array Slot), lv_has ls 2 [(0, .ref (am 0)), (1, .int x1)] → p_X4_layPages_143 (p_X4_layPages_7 n) x1 y0 y1 M = some M0 → W p l e (headSpec wsX4_layPages rmX4_layPages).room s m ([.ref (am 0)] : List Value).toArray below meth c H locs 0 0 (MQ below (QV G (wMod G am M0) A) ([.ref (am 0)] : List Value).toArray s 0 0 A) (F0 m 143 ls [.int y0, .int y1, .ref (am 8)]) := by
        intro x1 y0 y1 M H locs hP hD hS ls hl hrun
        rw [p_X4_layPages_143] at hrun
        obtain ⟨N_40, e_41, hrun⟩ := bd hrun
        replace e_41 := stO_spec e_41
        refine va_iast hx hb hK hP hD hS 8 0 rfl rfl e_41.1 dX4_layPages_143 (fun H locs hP hD hS => ?_)
        replace hP : va_P G.1 vwCl (wMod G am N_40) H := by rw [← e_41.2]; exact hP
        replace hD : va_D A (wMod G am N_40) := by rw [← e_41.2]; exact hD
        refine lv_aload_n hx hb dX4_layPages_144 rfl (lv_at hl 0 rfl) ?_
        refine va_get (D := G.1) (ci := 4) (v := .ref (am 9)) (C := RX4) (T := TX4) (N := 12) hx hb hts iwX4 hown hK hP 0 rfl rfl 9 (by decide) ha1 (fun _ h9 => h9) rfl dX4_layPages_145 ?_
        refine lv_aload_n hx hb dX4_layPages_148 rfl (lv_at hl 0 rfl) ?_
        refine va_get (D := G.1) (ci := 4) (v := .int (N_40 10 0)) (C := RX4) (T := TX4) (N := 12) hx hb hts iwX4 hown hK hP 0 rfl rfl 10 (by decide) ha0 (fun _ h9 => h9) rfl dX4_layPages_149 ?_
        refine lv_dup2_11 hx hb dX4_layPages_152 rfl rfl ?_
        obtain ⟨v_42, e_43, hrun⟩ := bd hrun
        refine y_ald hx hb hK hP 9 0 rfl rfl e_43 dX4_layPages_153 ?_
        refine lv_iconst (v := nI 1) hx hb dX4_layPages_154 (by decide) ?_
        refine lv_iadd hx hb dX4_layPages_155 ?_
        obtain ⟨N_44, e_45, hrun⟩ := bd hrun
        replace e_45 := stO_spec e_45
        refine va_iast hx hb hK hP hD hS 9 0 rfl rfl e_45.1 dX4_layPages_156 (fun H locs hP hD hS => ?_)
        replace hP : va_P G.1 vwCl (wMod G am N_44) H := by rw [← e_45.2]; exact hP
        replace hD : va_D A (wMod G am N_44) := by rw [← e_45.2]; exact hD
        refine lv_aload_n hx hb dX4_layPages_157 rfl (lv_at hl 0 rfl) ?_
        refine lv_iload_n hx hb dX4_layPages_158 rfl (lv_at hl 1 rfl) ?_
        obtain ⟨N_47, e_46, hrun⟩ := bd hrun
        have hF := y_all hD hS hA
        refine y_rwv (va_runV (As := [.int x1]) (rest := []) ⟨hx, hb, hml, hown, hts⟩ (c_X4_layForce l G am N_44 x1 _ N_47 e_46) (cwV 1 hts gX4_layPages_X4_layForce rfl rfl rfl (by decide +kernel) ⟨Nat.le_of_ble_eq_true rfl, Nat.le_of_ble_eq_true rfl⟩) ⟨PreW.blind, va_recv hK hP (ci := 4) (q0 := 0) rfl rfl, y_preW hC hP hD⟩ rfl rfl hl.1 rfl (lv_room (Nat.le_of_ble_eq_true rfl)) dX4_layPages_159 ⟨Nat.zero_le _, Nat.zero_le _⟩) hS hF (fun H locs hP1 hD1 hk1 hS => ?_)
        replace hP : va_P G.1 vwCl (wMod G am N_47) H := hP1
        replace hD : va_D A (wMod G am N_47) := hD1.weaken (fun _ q _ h => hF q.1 h)
        clear hP1 hD1 hk1 hF
        refine lv_iinc (v := (x1 + nI 1)) (lv' := [(1, .int (x1 + nI 1)), (0, .ref (am 0))]) hx hb dX4_layPages_162 hl (k := 1) rfl rfl (by decide) rfl (fun ls hl => ?_)
        refine lv_goto (tgt := 7) hx hb dX4_layPages_165 (by decide) ?_
        exact ih (x1 + nI 1) N_47 _ _ hP hD hS ls (lv_sub hl [1, 0] rfl) hrun
      have kJ_85 : ∀ (x1 : Int32) (M : Ob) , ∀ (H : Heap) (locs : List Loc), va_P G.1 vwCl (wMod G am M) H → va_D A (wMod G am M) → va_S A s.heap H locs → ∀ (ls : Array Slot), lv_has ls 2 [(0, .ref (am 0)), (1, .int x1)] → p_X4_layPages_85 (p_X4_layPages_7 n) x1 M = some M0 → W p l e (headSpec wsX4_layPages rmX4_layPages).room s m ([.ref (am 0)] : List Value).toArray below meth c H locs 0 0 (MQ below (QV G (wMod G am M0) A) ([.ref (am 0)] : List Value).toArray s 0 0 A) (F0 m 85 ls []) := by
        intro x1 M H locs hP hD hS ls hl hrun
        rw [p_X4_layPages_85] at hrun
        refine lv_aload_n hx hb dX4_layPages_85 rfl (lv_at hl 0 rfl) ?_
        refine va_get (D := G.1) (ci := 4) (v := .ref (am 5)) (C := RX4) (T := TX4) (N := 12) hx hb hts iwX4 hown hK hP 0 rfl rfl 5 (by decide) ha3 (fun _ h9 => h9) rfl dX4_layPages_86 ?_
        refine lv_iload_n hx hb dX4_layPages_89 rfl (lv_at hl 1 rfl) ?_
        refine lv_aload_n hx hb dX4_layPages_90 rfl (lv_at hl 0 rfl) ?_
        refine va_get (D := G.1) (ci := 4) (v := .int (M 10 0)) (C := RX4) (T := TX4) (N := 12) hx hb hts iwX4 hown hK hP 0 rfl rfl 10 (by decide) ha0 (fun _ h9 => h9) rfl dX4_layPages_91 ?_
        obtain ⟨N_29, e_30, hrun⟩ := bd hrun
        replace e_30 := stO_spec e_30
        refine va_iast hx hb hK hP hD hS 5 0 rfl rfl e_30.1 dX4_layPages_94 (fun H locs hP hD hS => ?_)
        replace hP : va_P G.1 vwCl (wMod G am N_29) H := by rw [← e_30.2]; exact hP
        replace hD : va_D A (wMod G am N_29) := by rw [← e_30.2]; exact hD
        refine lv_aload_n hx hb dX4_layPages_95 rfl (lv_at hl 0 rfl) ?_
        refine va_get (D := G.1) (ci := 4) (v := .ref (am 6)) (C := RX4) (T := TX4) (N := 12) hx hb hts iwX4 hown hK hP 0 rfl rfl 6 (by decide) ha4 (fun _ h9 => h9) rfl dX4_layPages_96 ?_
        refine lv_iload_n hx hb dX4_layPages_99 rfl (lv_at hl 1 rfl) ?_
        refine lv_aload_n hx hb dX4_layPages_100 rfl (lv_at hl 0 rfl) ?_
        refine va_get (D := G.1) (ci := 4) (v := .ref (am 9)) (C := RX4) (T := TX4) (N := 12) hx hb hts iwX4 hown hK hP 0 rfl rfl 9 (by decide) ha1 (fun _ h9 => h9) rfl dX4_layPages_101 ?_
        refine lv_aload_n hx hb dX4_layPages_104 rfl (lv_at hl 0 rfl) ?_
        refine va_get (D := G.1) (ci := 4) (v := .int (N_29 10 0)) (C := RX4) (T := TX4) (N := 12) hx hb hts iwX4 hown hK hP 0 rfl rfl 10 (by decide) ha0 (fun _ h9 => h9) rfl dX4_layPages_105 ?_
        obtain ⟨v_31, e_32, hrun⟩ := bd hrun
        refine y_ald hx hb hK hP 9 0 rfl rfl e_32 dX4_layPages_108 ?_
        obtain ⟨N_33, e_34, hrun⟩ := bd hrun
        replace e_34 := stO_spec e_34
        refine va_iast hx hb hK hP hD hS 6 0 rfl rfl e_34.1 dX4_layPages_109 (fun H locs hP hD hS => ?_)
        replace hP : va_P G.1 vwCl (wMod G am N_33) H := by rw [← e_34.2]; exact hP
        replace hD : va_D A (wMod G am N_33) := by rw [← e_34.2]; exact hD
        refine lv_aload_n hx hb dX4_layPages_110 rfl (lv_at hl 0 rfl) ?_
        refine va_get (D := G.1) (ci := 4) (v := .ref (am 8)) (C := RX4) (T := TX4) (N := 12) hx hb hts iwX4 hown hK hP 0 rfl rfl 8 (by decide) ha5 (fun _ h9 => h9) rfl dX4_layPages_111 ?_
        refine lv_aload_n hx hb dX4_layPages_114 rfl (lv_at hl 0 rfl) ?_
        refine va_get (D := G.1) (ci := 4) (v := .int (N_33 10 0)) (C := RX4) (T := TX4) (N := 12) hx hb hts iwX4 hown hK hP 0 rfl rfl 10 (by decide) ha0 (fun _ h9 => h9) rfl dX4_layPages_115 ?_
        refine lv_aload_n hx hb dX4_layPages_118 rfl (lv_at hl 0 rfl) ?_
        refine va_get (D := G.1) (ci := 4) (v := .ref (am 9)) (C := RX4) (T := TX4) (N := 12) hx hb hts iwX4 hown hK hP 0 rfl rfl 9 (by decide) ha1 (fun _ h9 => h9) rfl dX4_layPages_119 ?_
        refine lv_aload_n hx hb dX4_layPages_122 rfl (lv_at hl 0 rfl) ?_
        refine va_get (D := G.1) (ci := 4) (v := .int (N_33 10 0)) (C := RX4) (T := TX4) (N := 12) hx hb hts iwX4 hown hK hP 0 rfl rfl 10 (by decide) ha0 (fun _ h9 => h9) rfl dX4_layPages_123 ?_
        obtain ⟨v_35, e_36, hrun⟩ := bd hrun
        refine y_ald hx hb hK hP 9 0 rfl rfl e_36 dX4_layPages_126 ?_
        refine lv_if_ne (tgt := 134) hx hb dX4_layPages_127 (by decide) (fun c_37 => ?_) (fun c_37 => ?_)
        · replace hrun := it_neg c_37 hrun
          refine lv_aload_n hx hb dX4_layPages_134 rfl (lv_at hl 0 rfl) ?_
          refine va_get (D := G.1) (ci := 4) (v := .ref (am 8)) (C := RX4) (T := TX4) (N := 12) hx hb hts iwX4 hown hK hP 0 rfl rfl 8 (by decide) ha5 (fun _ h9 => h9) rfl dX4_layPages_135 ?_
          refine lv_aload_n hx hb dX4_layPages_138 rfl (lv_at hl 0 rfl) ?_
          refine va_get (D := G.1) (ci := 4) (v := .int (N_33 10 0)) (C := RX4) (T := TX4) (N := 12) hx hb hts iwX4 hown hK hP 0 rfl rfl 10 (by decide) ha0 (fun _ h9 => h9) rfl dX4_layPages_139 ?_
          obtain ⟨v_38, e_39, hrun⟩ := bd hrun
          refine y_ald hx hb hK hP 8 0 rfl rfl e_39 dX4_layPages_142 ?_
          exact kJ_143 x1 v_38 (N_33 10 0) N_33 _ _ hP hD hS ls (lv_sub hl [0, 1] rfl) hrun
        · replace hrun := it_pos c_37 hrun
          refine lv_iload_n hx hb dX4_layPages_130 rfl (lv_at hl 1 rfl) ?_
          refine lv_goto (tgt := 143) hx hb dX4_layPages_131 (by decide) ?_
          exact kJ_143 x1 x1 (N_33 10 0) N_33 _ _ hP hD hS ls (lv_sub hl [0, 1] rfl) hrun
      intro x1 M H locs hP hD hS ls hl hrun
      rw [p_X4_layPages_7] at hrun
      refine lv_iload_n hx hb dX4_layPages_7 rfl (lv_at hl 1 rfl) ?_
      refine lv_aload_n hx hb dX4_layPages_8 rfl (lv_at hl 0 rfl) ?_
      obtain ⟨v_3, e_4, hrun⟩ := bd hrun
      refine y_ro (va_runV (As := []) (rest := [.int x1]) ⟨hx, hb, hml, hown, hts⟩ (c_X4_many l G am M  v_3 e_4) (cwV 0 hts gX4_layPages_X4_many rfl rfl rfl (by decide +kernel) ⟨Nat.le_of_ble_eq_true rfl, Nat.le_of_ble_eq_true rfl⟩) ⟨PreR.blind, va_recv hK hP (ci := 4) (q0 := 0) rfl rfl, y_preR hC hP⟩ rfl rfl hl.1 rfl (lv_room (Nat.le_of_ble_eq_true rfl)) dX4_layPages_9 ⟨Nat.zero_le _, Nat.zero_le _⟩) ?_
      refine lv_icmp_ge (tgt := 168) hx hb dX4_layPages_12 (by decide) (fun c_5 => ?_) (fun c_5 => ?_)
      · replace hrun := it_pos c_5 hrun
        have hr2 := si hrun
        exact W.vret hx hb hr (fun t ht hW => ⟨⟨(), rfl, trivial, by rw [ht, ← hr2]; exact hP, by rw [← hr2]; exact hD⟩, hS.F ht⟩) hS.2.2 dX4_layPages_168
      · replace hrun := it_neg c_5 hrun
        refine lv_iload_n hx hb dX4_layPages_15 rfl (lv_at hl 1 rfl) ?_
        refine lv_if_ne (tgt := 26) hx hb dX4_layPages_16 (by decide) (fun c_6 => ?_) (fun c_6 => ?_)
        · replace hrun := it_neg c_6 hrun
          refine lv_aload_n hx hb dX4_layPages_26 rfl (lv_at hl 0 rfl) ?_
          refine lv_iload_n hx hb dX4_layPages_27 rfl (lv_at hl 1 rfl) ?_
          refine lv_aload_n hx hb dX4_layPages_28 rfl (lv_at hl 0 rfl) ?_
          refine va_get (D := G.1) (ci := 4) (v := .ref (am 9)) (C := RX4) (T := TX4) (N := 12) hx hb hts iwX4 hown hK hP 0 rfl rfl 9 (by decide) ha1 (fun _ h9 => h9) rfl dX4_layPages_29 ?_
          refine lv_aload_n hx hb dX4_layPages_32 rfl (lv_at hl 0 rfl) ?_
          refine va_get (D := G.1) (ci := 4) (v := .int (M 10 0)) (C := RX4) (T := TX4) (N := 12) hx hb hts iwX4 hown hK hP 0 rfl rfl 10 (by decide) ha0 (fun _ h9 => h9) rfl dX4_layPages_33 ?_
          obtain ⟨v_7, e_8, hrun⟩ := bd hrun
          refine y_ald hx hb hK hP 9 0 rfl rfl e_8 dX4_layPages_36 ?_
          obtain ⟨v_9, e_10, hrun⟩ := bd hrun
          refine y_roz (va_runV (As := [.int x1, .int v_7]) (rest := []) ⟨hx, hb, hml, hown, hts⟩ (c_X4_isNew l G am M x1 v_7 v_9 e_10) (cwV 2 hts gX4_layPages_X4_isNew rfl rfl rfl (by decide +kernel) ⟨Nat.le_of_ble_eq_true rfl, Nat.le_of_ble_eq_true rfl⟩) ⟨PreR.blind, va_recv hK hP (ci := 4) (q0 := 0) rfl rfl, y_preR hC hP⟩ rfl rfl hl.1 rfl (lv_room (Nat.le_of_ble_eq_true rfl)) dX4_layPages_37 ⟨Nat.zero_le _, Nat.zero_le _⟩) (fun z_11 => ?_)
          refine lv_if_eq (tgt := 85) hx hb dX4_layPages_40 (by decide) (fun c_12 => ?_) (fun c_12 => ?_)
          · replace hrun := it_pos c_12 hrun
            exact kJ_85 x1 M _ _ hP hD hS ls (lv_sub hl [0, 1] rfl) hrun
          · replace hrun := it_neg c_12 hrun
            refine lv_aload_n hx hb dX4_layPages_43 rfl (lv_at hl 0 rfl) ?_
            obtain ⟨N_14, e_13, hrun⟩ := bd hrun
            have hF := y_all hD hS hA
            refine y_rwv (va_runV (As := []) (rest := []) ⟨hx, hb, hml, hown, hts⟩ (c_X4_beginPage l G am M  _ N_14 e_13) (cwV 0 hts gX4_layPages_X4_beginPage rfl rfl rfl (by decide +kernel) ⟨Nat.le_of_ble_eq_true rfl, Nat.le_of_ble_eq_true rfl⟩) ⟨PreW.blind, va_recv hK hP (ci := 4) (q0 := 0) rfl rfl, y_preW hC hP hD⟩ rfl rfl hl.1 rfl (lv_room (Nat.le_of_ble_eq_true rfl)) dX4_layPages_44 ⟨Nat.zero_le _, Nat.zero_le _⟩) hS hF (fun H locs hP1 hD1 hk1 hS => ?_)
            replace hP : va_P G.1 vwCl (wMod G am N_14) H := hP1
            replace hD : va_D A (wMod G am N_14) := hD1.weaken (fun _ q _ h => hF q.1 h)
            clear hP1 hD1 hk1 hF
            refine lv_aload_n hx hb dX4_layPages_47 rfl (lv_at hl 0 rfl) ?_
            refine va_get (D := G.1) (ci := 4) (v := .ref (am 1)) (C := RX4) (T := TX4) (N := 12) hx hb hts iwX4 hown hK hP 0 rfl rfl 0 (by decide) ha2 (fun _ h9 => h9) rfl dX4_layPages_48 ?_
            refine lv_bipush (v := nI 122) hx hb dX4_layPages_51 (by decide) ?_
            obtain ⟨v_15, e_16, hrun⟩ := bd hrun
            refine y_ald hx hb hK hP 1 0 rfl rfl e_16 dX4_layPages_53 ?_
            refine lv_iconst (v := nI 2) hx hb dX4_layPages_54 (by decide) ?_
            refine lv_icmp_ne (tgt := 85) hx hb dX4_layPages_55 (by decide) (fun c_17 => ?_) (fun c_17 => ?_)
            · replace hrun := it_neg c_17 hrun
              exact kJ_85 x1 N_14 _ _ hP hD hS ls (lv_sub hl [0, 1] rfl) hrun
            · replace hrun := it_pos c_17 hrun
              refine lv_aload_n hx hb dX4_layPages_58 rfl (lv_at hl 0 rfl) ?_
              refine va_get (D := G.1) (ci := 4) (v := .ref (am 1)) (C := RX4) (T := TX4) (N := 12) hx hb hts iwX4 hown hK hP 0 rfl rfl 0 (by decide) ha2 (fun _ h9 => h9) rfl dX4_layPages_59 ?_
              refine lv_iconst (v := nI 0) hx hb dX4_layPages_62 (by decide) ?_
              refine lv_iload_n hx hb dX4_layPages_63 rfl (lv_at hl 1 rfl) ?_
              refine lv_iadd hx hb dX4_layPages_64 ?_
              obtain ⟨v_18, e_19, hrun⟩ := bd hrun
              refine y_ald hx hb hK hP 1 0 rfl rfl e_19 dX4_layPages_65 ?_
              obtain ⟨v_20, e_21, hrun⟩ := bd hrun
              refine y_roz (va_runS (As := [.int v_18]) (rest := []) ⟨hx, hb, hml, hown, hts⟩ (c_X4_isChapter l G   v_18 v_20 e_21) (cwS 1 hts gX4_layPages_X4_isChapter rfl rfl rfl (by decide +kernel) ⟨Nat.le_of_ble_eq_true rfl, Nat.le_of_ble_eq_true rfl⟩) ⟨PreR.blind, y_preR hC (fun _ _ h => by cases h)⟩ rfl rfl hl.1 rfl (lv_room (Nat.le_of_ble_eq_true rfl)) dX4_layPages_66 ⟨Nat.zero_le _, Nat.zero_le _⟩) (fun z_22 => ?_)
              refine lv_if_eq (tgt := 85) hx hb dX4_layPages_69 (by decide) (fun c_23 => ?_) (fun c_23 => ?_)
              · replace hrun := it_pos c_23 hrun
                exact kJ_85 x1 N_14 _ _ hP hD hS ls (lv_sub hl [0, 1] rfl) hrun
              · replace hrun := it_neg c_23 hrun
                refine lv_aload_n hx hb dX4_layPages_72 rfl (lv_at hl 0 rfl) ?_
                refine va_get (D := G.1) (ci := 4) (v := .int (N_14 10 0)) (C := RX4) (T := TX4) (N := 12) hx hb hts iwX4 hown hK hP 0 rfl rfl 10 (by decide) ha0 (fun _ h9 => h9) rfl dX4_layPages_73 ?_
                refine lv_iconst (v := nI 2) hx hb dX4_layPages_76 (by decide) ?_
                refine lv_irem hx hb dX4_layPages_77 (by decide) ?_
                refine lv_if_ne (tgt := 85) hx hb dX4_layPages_78 (by decide) (fun c_24 => ?_) (fun c_24 => ?_)
                · replace hrun := it_neg c_24 hrun
                  exact kJ_85 x1 N_14 _ _ hP hD hS ls (lv_sub hl [0, 1] rfl) hrun
                · replace hrun := it_pos c_24 hrun
                  refine lv_aload_n hx hb dX4_layPages_81 rfl (lv_at hl 0 rfl) ?_
                  obtain ⟨N_26, e_25, hrun⟩ := bd hrun
                  have hF := y_all hD hS hA
                  refine y_rwv (va_runV (As := []) (rest := []) ⟨hx, hb, hml, hown, hts⟩ (c_X4_beginPage l G am N_14  _ N_26 e_25) (cwV 0 hts gX4_layPages_X4_beginPage rfl rfl rfl (by decide +kernel) ⟨Nat.le_of_ble_eq_true rfl, Nat.le_of_ble_eq_true rfl⟩) ⟨PreW.blind, va_recv hK hP (ci := 4) (q0 := 0) rfl rfl, y_preW hC hP hD⟩ rfl rfl hl.1 rfl (lv_room (Nat.le_of_ble_eq_true rfl)) dX4_layPages_82 ⟨Nat.zero_le _, Nat.zero_le _⟩) hS hF (fun H locs hP1 hD1 hk1 hS => ?_)
                  replace hP : va_P G.1 vwCl (wMod G am N_26) H := hP1
                  replace hD : va_D A (wMod G am N_26) := hD1.weaken (fun _ q _ h => hF q.1 h)
                  clear hP1 hD1 hk1 hF
                  exact kJ_85 x1 N_26 _ _ hP hD hS ls (lv_sub hl [0, 1] rfl) hrun
        · replace hrun := it_pos c_6 hrun
          refine lv_aload_n hx hb dX4_layPages_19 rfl (lv_at hl 0 rfl) ?_
          obtain ⟨N_28, e_27, hrun⟩ := bd hrun
          have hF := y_all hD hS hA
          refine y_rwv (va_runV (As := []) (rest := []) ⟨hx, hb, hml, hown, hts⟩ (c_X4_beginPage l G am M  _ N_28 e_27) (cwV 0 hts gX4_layPages_X4_beginPage rfl rfl rfl (by decide +kernel) ⟨Nat.le_of_ble_eq_true rfl, Nat.le_of_ble_eq_true rfl⟩) ⟨PreW.blind, va_recv hK hP (ci := 4) (q0 := 0) rfl rfl, y_preW hC hP hD⟩ rfl rfl hl.1 rfl (lv_room (Nat.le_of_ble_eq_true rfl)) dX4_layPages_20 ⟨Nat.zero_le _, Nat.zero_le _⟩) hS hF (fun H locs hP1 hD1 hk1 hS => ?_)
          replace hP : va_P G.1 vwCl (wMod G am N_28) H := hP1
          replace hD : va_D A (wMod G am N_28) := hD1.weaken (fun _ q _ h => hF q.1 h)
          clear hP1 hD1 hk1 hF
          refine lv_goto (tgt := 85) hx hb dX4_layPages_23 (by decide) ?_
          exact kJ_85 x1 N_28 _ _ hP hD hS ls (lv_sub hl [0, 1] rfl) hrun
  have hl := lv_entry [.ref (am 0)] (n := 2) (Nat.le_of_ble_eq_true rfl)
  rw [lg_entry_eq]
  generalize (lg_sl [.ref (am 0)] ++ List.replicate (2 - (lg_sl [.ref (am 0)]).length) Slot.unset).toArray = ls at hl ⊢
  have hl : lv_has ls 2 [(0, .ref (am 0))] := hl
  rw [p_X4_layPages] at hrun
  refine lv_aload_n hx hb dX4_layPages_0 rfl (lv_at hl 0 rfl) ?_
  refine lv_iconst (v := nI 0) hx hb dX4_layPages_1 (by decide) ?_
  obtain ⟨M_1, e_2, hrun⟩ := bd hrun
  replace e_2 := si e_2
  refine va_put (D := G.1) (ci := 4) (v := .int (nI 0)) (ty := .int) (C := RX4) (T := TX4) (N := 12) hx hb hts iwX4 tyX4 tyX4_ok nmX4 hown hK hP hD hS 0 rfl rfl 10 (by decide) ha0 (fun _ h9 => h9) rfl (by decide +kernel) rfl rfl (Nat.le_of_ble_eq_true rfl) dX4_layPages_2 (fun H locs hP hD hS => ?_)
  replace hP : va_P G.1 vwCl (wMod G am M_1) H := by rw [← e_2]; exact hP
  replace hD : va_D A (wMod G am M_1) := by rw [← e_2]; exact hD
  refine lv_iconst (v := nI 0) hx hb dX4_layPages_5 (by decide) ?_
  refine lv_istore_n (lv' := [(1, .int (nI 0)), (0, .ref (am 0))]) hx hb dX4_layPages_6 rfl hl (by decide) rfl (fun ls hl => ?_)
  exact kH_7 200 (nI 0) M_1 _ _ hP hD hS ls (lv_sub hl [1, 0] rfl) hrun
