def p_X3_cut_25  (x1 : Int32) (x2 : Int32) (S : (Nat → Ob)) : Option (Int32 × (Nat → Ob)) := ((stO (S 2) 1 60 x1 x2).bind fun N_7 => (some (va_up S 2 N_7)).bind fun S_9 => ((p_X3_layNow S_9).bind fun N_12 => ((p_X0_countBreaks (N_12 2)).bind fun v_13 => (some (v_13, N_12)))))
def p_X3_cut  (u1 : Int32) (u2 : Int32) (S : (Nat → Ob)) : Option (Int32 × (Nat → Ob)) := ((p_X0_canBreakAhead (S 2) u1).bind fun v_1 => (if v_1 = nI 0 then (some ((-1), S)) else (if u2 = nI 0 then p_X3_cut_25 u1 u2 S else (if u2 = (nI 1) then p_X3_cut_25 u1 u2 S else (some ((-2), S))))))
abbrev rmX3_cut : Room := { frames := 5, cells := 0, slots := 0, locals := 114 }
set_option maxHeartbeats 4000000 in
set_option maxRecDepth 100000 in
theorem c_X3_cut (l : Launch) (G : GT) (a : Nat → Nat → Nat) (S : Nat → Ob) (u1 u2 : Int32) (sz : Nat) (r0 : Int32) (S0 : (Nat → Ob)) (hrun : p_X3_cut u1 u2 S = some (r0, S0)) : Met l yX3_cut wsX3_cut rmX3_cut (PreW G [.ref (a 0 0), .int u1, .int u2] (wHM G a S) sz) (QI G r0 (wHM G a S0) (va_A (wHM G a S) sz)) 0 0 (va_A (wHM G a S) sz) := by
  refine Met.ofW (cc := cX3_cut) (maxL := 3) (ret := (some .int)) (by decide) rfl ?_
  intro p e s m args below meth c s₁ Bd hml hv
  obtain ⟨rfl, hsz, hP, hC, hD0⟩ := hv
  have hx := Bd.exec
  have hb := Bd.bytes
  have hr := Bd.returns
  have hts := atoms_spec (ws := wsX3_cut) Bd.pre
  have hown : s.vm.findClass RX3 = some m.cls := findClass_of_methodNamed Bd.named
  have hlocks := Bd.notSynchronized
  have hK := hC.1
  have iwX0 : ∀ w ∈ wsX00, w ∈ wsX3_cut := by decide +kernel
  have iwX3 : ∀ w ∈ wsX30, w ∈ wsX3_cut := by decide +kernel
  have ha0 := hts (.fieldLink RX3 19 "HeadMarks" "book" "LHeadMarks$Book;") (by decide +kernel)
  have ha1 := hts (.fieldLink RX3 74 "HeadMarks$Book" "broken" "[I") (by decide +kernel)
  subst hsz
  have hD := hD0.self (sz := s.heap.size)
  generalize hAe : va_A (wHM G a S) s.heap.size = A at hD ⊢
  have hA : ∀ q : Nat, s.heap.size ≤ q → A q := fun q h => by rw [← hAe]; exact Or.inr h
  have hS : va_S A s.heap s.heap [] := va_S.rf
  have kJ_25 : ∀ (x1 x2 : Int32) (S : (Nat → Ob)) , ∀ (H : Heap) (locs : List Loc), va_P G.1 vwCl (wHM G a S) H → va_D A (wHM G a S) → va_S A s.heap H locs → ∀ (ls : Array Slot), lv_has ls 3 [(0, .ref (a 0 0)), (1, .int x1), (2, .int x2)] → p_X3_cut_25 x1 x2 S = some (r0, S0) → W p l e (headSpec wsX3_cut rmX3_cut).room s m ([.ref (a 0 0), .int u1, .int u2] : List Value).toArray below meth c H locs 0 0 (MQ below (QI G r0 (wHM G a S0) A) ([.ref (a 0 0), .int u1, .int u2] : List Value).toArray s 0 0 A) (F0 m 25 ls []) := by
    intro x1 x2 S H locs hP hD hS ls hl hrun
    rw [p_X3_cut_25] at hrun
    refine lv_aload_n hx hb dX3_cut_25 rfl (lv_at hl 0 rfl) ?_
    refine va_get (D := G.1) (ci := 3) (v := .ref ((a 2) 0)) (C := RX3) (T := TX3) (N := 6) hx hb hts iwX3 hown hK hP 0 rfl rfl 1 (by decide) ha0 (fun _ h9 => h9) rfl dX3_cut_26 ?_
    refine va_get (D := G.1) (ci := 0) (v := .ref ((a 2) 2)) (C := RX0) (T := TX0) (N := 4) hx hb hts iwX0 hown hK hP 4 rfl rfl 1 (by decide) ha1 (fun _ h9 => h9) rfl dX3_cut_29 ?_
    refine lv_iload_n hx hb dX3_cut_32 rfl (lv_at hl 1 rfl) ?_
    refine lv_iload_n hx hb dX3_cut_33 rfl (lv_at hl 2 rfl) ?_
    obtain ⟨N_7, e_8, hrun⟩ := bd hrun
    replace e_8 := stO_spec e_8
    obtain ⟨S_9, e_10, hrun⟩ := bd hrun
    replace e_10 := si e_10
    refine va_iast hx hb hK hP hD hS 6 0 rfl rfl e_8.1 dX3_cut_34 (fun H locs hP hD hS => ?_)
    replace hP : va_P G.1 vwCl (wHM G a S_9) H := by rw [← e_10, ← e_8.2]; exact hP
    replace hD : va_D A (wHM G a S_9) := by rw [← e_10, ← e_8.2]; exact hD
    refine lv_aload_n hx hb dX3_cut_35 rfl (lv_at hl 0 rfl) ?_
    obtain ⟨N_12, e_11, hrun⟩ := bd hrun
    have hF := y_all hD hS hA
    refine y_rwv (va_runV (As := []) (rest := []) ⟨hx, hb, hml, hown, hts⟩ (c_X3_layNow l G a S_9  _ N_12 e_11) (cwV 0 hts gX3_cut_X3_layNow rfl rfl rfl (by decide +kernel) ⟨Nat.le_of_ble_eq_true rfl, Nat.le_of_ble_eq_true rfl⟩) ⟨PreW.blind, va_recv hK hP (ci := 3) (q0 := 0) rfl rfl, y_preW hC hP hD⟩ rfl rfl hl.1 rfl (lv_room (Nat.le_of_ble_eq_true rfl)) dX3_cut_36 ⟨Nat.zero_le _, Nat.zero_le _⟩) hS hF (fun H locs hP1 hD1 hk1 hS => ?_)
    replace hP : va_P G.1 vwCl (wHM G a N_12) H := hP1
    replace hD : va_D A (wHM G a N_12) := hD1.weaken (fun _ q _ h => hF q.1 h)
    clear hP1 hD1 hk1 hF
    refine lv_aload_n hx hb dX3_cut_39 rfl (lv_at hl 0 rfl) ?_
    refine va_get (D := G.1) (ci := 3) (v := .ref ((a 2) 0)) (C := RX3) (T := TX3) (N := 6) hx hb hts iwX3 hown hK hP 0 rfl rfl 1 (by decide) ha0 (fun _ h9 => h9) rfl dX3_cut_40 ?_
    obtain ⟨v_13, e_14, hrun⟩ := bd hrun
    refine y_ro (va_runV (As := []) (rest := []) ⟨hx, hb, hml, hown, hts⟩ (c_X0_countBreaks l G (a 2) (N_12 2)  v_13 e_14) (cwV 0 hts gX3_cut_X0_countBreaks rfl rfl rfl (by decide +kernel) ⟨Nat.le_of_ble_eq_true rfl, Nat.le_of_ble_eq_true rfl⟩) ⟨PreR.blind, va_recv hK hP (ci := 0) (q0 := 4) rfl rfl, y_preR hC (hP.sub (ws' := wBook G (a 2) (N_12 2)) [4, 5, 6, 7] rfl)⟩ rfl rfl hl.1 rfl (lv_room (Nat.le_of_ble_eq_true rfl)) dX3_cut_43 ⟨Nat.zero_le _, Nat.zero_le _⟩) ?_
    obtain ⟨hr1, hr2⟩ := si2 hrun
    exact W.iret (v := v_13) hx hb hr (fun t ht hW => ⟨⟨v_13, (), rfl, hr1, by rw [ht, ← hr2]; exact hP, by rw [← hr2]; exact hD⟩, hS.F ht⟩) hS.2.2 dX3_cut_46
  have hl := lv_entry [.ref (a 0 0), .int u1, .int u2] (n := 3) (Nat.le_of_ble_eq_true rfl)
  rw [lg_entry_eq]
  generalize (lg_sl [.ref (a 0 0), .int u1, .int u2] ++ List.replicate (3 - (lg_sl [.ref (a 0 0), .int u1, .int u2]).length) Slot.unset).toArray = ls at hl ⊢
  have hl : lv_has ls 3 [(0, .ref (a 0 0)), (1, .int u1), (2, .int u2)] := hl
  rw [p_X3_cut] at hrun
  refine lv_aload_n hx hb dX3_cut_0 rfl (lv_at hl 0 rfl) ?_
  refine va_get (D := G.1) (ci := 3) (v := .ref ((a 2) 0)) (C := RX3) (T := TX3) (N := 6) hx hb hts iwX3 hown hK hP 0 rfl rfl 1 (by decide) ha0 (fun _ h9 => h9) rfl dX3_cut_1 ?_
  refine lv_iload_n hx hb dX3_cut_4 rfl (lv_at hl 1 rfl) ?_
  obtain ⟨v_1, e_2, hrun⟩ := bd hrun
  refine y_roz (va_runV (As := [.int u1]) (rest := []) ⟨hx, hb, hml, hown, hts⟩ (c_X0_canBreakAhead l G (a 2) (S 2) u1 v_1 e_2) (cwV 1 hts gX3_cut_X0_canBreakAhead rfl rfl rfl (by decide +kernel) ⟨Nat.le_of_ble_eq_true rfl, Nat.le_of_ble_eq_true rfl⟩) ⟨PreR.blind, va_recv hK hP (ci := 0) (q0 := 4) rfl rfl, y_preR hC (hP.sub (ws' := wBook G (a 2) (S 2)) [4, 5, 6, 7] rfl)⟩ rfl rfl hl.1 rfl (lv_room (Nat.le_of_ble_eq_true rfl)) dX3_cut_5 ⟨Nat.zero_le _, Nat.zero_le _⟩) (fun z_3 => ?_)
  refine lv_if_ne (tgt := 13) hx hb dX3_cut_8 (by decide) (fun c_4 => ?_) (fun c_4 => ?_)
  · replace hrun := it_neg c_4 hrun
    refine lv_iload_n hx hb dX3_cut_13 rfl (lv_at hl 2 rfl) ?_
    refine lv_if_eq (tgt := 25) hx hb dX3_cut_14 (by decide) (fun c_5 => ?_) (fun c_5 => ?_)
    · replace hrun := it_pos c_5 hrun
      exact kJ_25 u1 u2 S _ _ hP hD hS ls (lv_sub hl [0, 1, 2] rfl) hrun
    · replace hrun := it_neg c_5 hrun
      refine lv_iload_n hx hb dX3_cut_17 rfl (lv_at hl 2 rfl) ?_
      refine lv_iconst (v := nI 1) hx hb dX3_cut_18 (by decide) ?_
      refine lv_icmp_eq (tgt := 25) hx hb dX3_cut_19 (by decide) (fun c_6 => ?_) (fun c_6 => ?_)
      · replace hrun := it_pos c_6 hrun
        exact kJ_25 u1 u2 S _ _ hP hD hS ls (lv_sub hl [0, 1, 2] rfl) hrun
      · replace hrun := it_neg c_6 hrun
        refine lv_bipush (v := -2) hx hb dX3_cut_22 (by decide) ?_
        obtain ⟨hr1, hr2⟩ := si2 hrun
        exact W.iret (v := (-2)) hx hb hr (fun t ht hW => ⟨⟨(-2), (), rfl, hr1, by rw [ht, ← hr2]; exact hP, by rw [← hr2]; exact hD⟩, hS.F ht⟩) hS.2.2 dX3_cut_24
  · replace hrun := it_pos c_4 hrun
    refine lv_iconst (v := -1) hx hb dX3_cut_11 (by decide) ?_
    obtain ⟨hr1, hr2⟩ := si2 hrun
    exact W.iret (v := (-1)) hx hb hr (fun t ht hW => ⟨⟨(-1), (), rfl, hr1, by rw [ht, ← hr2]; exact hP, by rw [← hr2]; exact hD⟩, hS.F ht⟩) hS.2.2 dX3_cut_12
def p_X3_countChanged_74  (K : Int32 → Int32 → Int32 → (Nat → Ob) → Option (Int32 × (Nat → Ob))) (x2 : Int32) (x3 : Int32) (x4 : Int32) (S : (Nat → Ob)) : Option (Int32 × (Nat → Ob)) := K x2 x3 (x4 + nI 1) S
def p_X3_countChanged_44  : Nat → Int32 → Int32 → Int32 → (Nat → Ob) → Option (Int32 × (Nat → Ob))
  | 0, _, _, _, _ => none
  | n + 1, x2, x3, x4, S => (if x2 < x4 then (some (x3, S)) else ((p_X1_headOrNone (S 5) x4).bind fun v_10 => ((p_X1_headOrNone (S 6) x4).bind fun v_12 => (if v_10 = v_12 then p_X3_countChanged_74 (p_X3_countChanged_44 n) x2 x3 x4 S else p_X3_countChanged_74 (p_X3_countChanged_44 n) x2 (x3 + nI 1) x4 S))))
def p_X3_countChanged  (u1 : Int32) (S : (Nat → Ob)) : Option (Int32 × (Nat → Ob)) := ((ldI ((S 2) 2) 9 (nI 0)).bind fun v_1 => ((p_X1_lay (S 2) v_1 u1 (S 6)).bind fun N_4 => (some (va_up S 6 N_4)).bind fun S_5 => ((some (if ((S_5 5) 10 0) < ((S_5 6) 10 0) then ((S_5 6) 10 0) else ((S_5 5) 10 0))).bind fun v_7 => p_X3_countChanged_44 200 v_7 (nI 0) (nI 1) S_5)))
abbrev rmX3_countChanged : Room := { frames := 4, cells := 0, slots := 0, locals := 94 }
set_option maxHeartbeats 4000000 in
set_option maxRecDepth 100000 in
theorem c_X3_countChanged (l : Launch) (G : GT) (a : Nat → Nat → Nat) (S : Nat → Ob) (u1 : Int32) (sz : Nat) (r0 : Int32) (S0 : (Nat → Ob)) (hrun : p_X3_countChanged u1 S = some (r0, S0)) : Met l yX3_countChanged wsX3_countChanged rmX3_countChanged (PreW G [.ref (a 0 0), .int u1] (wHM G a S) sz) (QI G r0 (wHM G a S0) (va_A (wHM G a S) sz)) 0 0 (va_A (wHM G a S) sz) := by
  refine Met.ofW (cc := cX3_countChanged) (maxL := 5) (ret := (some .int)) (by decide) rfl ?_
  intro p e s m args below meth c s₁ Bd hml hv
  obtain ⟨rfl, hsz, hP, hC, hD0⟩ := hv
  have hx := Bd.exec
  have hb := Bd.bytes
  have hr := Bd.returns
  have hts := atoms_spec (ws := wsX3_countChanged) Bd.pre
  have hown : s.vm.findClass RX3 = some m.cls := findClass_of_methodNamed Bd.named
  have hlocks := Bd.notSynchronized
  have hK := hC.1
  have iwX0 : ∀ w ∈ wsX00, w ∈ wsX3_countChanged := by decide +kernel
  have iwX1 : ∀ w ∈ wsX10, w ∈ wsX3_countChanged := by decide +kernel
  have iwX3 : ∀ w ∈ wsX30, w ∈ wsX3_countChanged := by decide +kernel
  have ha0 := hts (.fieldLink RX3 38 "HeadMarks" "trial" "LHeadMarks$Layout;") (by decide +kernel)
  have ha1 := hts (.fieldLink RX3 19 "HeadMarks" "book" "LHeadMarks$Book;") (by decide +kernel)
  have ha2 := hts (.fieldLink RX3 66 "HeadMarks$Book" "rules" "[I") (by decide +kernel)
  have ha3 := hts (.fieldLink RX3 34 "HeadMarks" "now" "LHeadMarks$Layout;") (by decide +kernel)
  have ha4 := hts (.fieldLink RX3 113 "HeadMarks$Layout" "pages" "I") (by decide +kernel)
  have ha5 := hts (.methodLink RX3 135 yJ9_max_7cf53) (by decide +kernel)
  have ha6 := hts (.static yJ9_max_7cf53) (by decide +kernel)
  have ha7 := hts (.initialized "java/lang/Math") (by decide +kernel)
  have ha8 := hts (.code yJ9_max_7cf53 cJ9_max_7cf53 2 (some .int)) (by decide +kernel)
  subst hsz
  have hD := hD0.self (sz := s.heap.size)
  generalize hAe : va_A (wHM G a S) s.heap.size = A at hD ⊢
  have hA : ∀ q : Nat, s.heap.size ≤ q → A q := fun q h => by rw [← hAe]; exact Or.inr h
  have hS : va_S A s.heap s.heap [] := va_S.rf
  have kH_44 : ∀ (n : Nat) (x2 x3 x4 : Int32) (S : (Nat → Ob)) , ∀ (H : Heap) (locs : List Loc), va_P G.1 vwCl (wHM G a S) H → va_D A (wHM G a S) → va_S A s.heap H locs → ∀ (ls : Array Slot), lv_has ls 5 [(0, .ref (a 0 0)), (2, .int x2), (3, .int x3), (4, .int x4)] → p_X3_countChanged_44 n x2 x3 x4 S = some (r0, S0) → W p l e (headSpec wsX3_countChanged rmX3_countChanged).room s m ([.ref (a 0 0), .int u1] : List Value).toArray below meth c H locs 0 0 (MQ below (QI G r0 (wHM G a S0) A) ([.ref (a 0 0), .int u1] : List Value).toArray s 0 0 A) (F0 m 44 ls []) := by
    intro n
    induction n with
    | zero => intro x2 x3 x4 S H locs hP hD hS ls hl hrun; exact absurd (hrun : (none : Option (Int32 × (Nat → Ob))) = some (r0, S0)) (fun h => by cases h)
    | succ n ih =>
      have kJ_74 : ∀ (x2 x3 x4 : Int32) (S : (Nat → Ob)) , ∀ (H : Heap) (locs : List Loc), va_P G.1 vwCl (wHM G a S) H → va_D A (wHM G a S) → va_S A s.heap H locs → ∀ (ls : Array Slot), lv_has ls 5 [(0, .ref (a 0 0)), (2, .int x2), (3, .int x3), (4, .int x4)] → p_X3_countChanged_74 (p_X3_countChanged_44 n) x2 x3 x4 S = some (r0, S0) → W p l e (headSpec wsX3_countChanged rmX3_countChanged).room s m ([.ref (a 0 0), .int u1] : List Value).toArray below meth c H locs 0 0 (MQ below (QI G r0 (wHM G a S0) A) ([.ref (a 0 0), .int u1] : List Value).toArray s 0 0 A) (F0 m 74 ls []) := by
        intro x2 x3 x4 S H locs hP hD hS ls hl hrun
        rw [p_X3_countChanged_74] at hrun
        refine lv_iinc (v := (x4 + nI 1)) (lv' := [(4, .int (x4 + nI 1)), (0, .ref (a 0 0)), (2, .int x2), (3, .int x3)]) hx hb dX3_countChanged_74 hl (k := 3) rfl rfl (by decide) rfl (fun ls hl => ?_)
        refine lv_goto (tgt := 44) hx hb dX3_countChanged_77 (by decide) ?_
        exact ih x2 x3 (x4 + nI 1) S _ _ hP hD hS ls (lv_sub hl [1, 2, 3, 0] rfl) hrun
      intro x2 x3 x4 S H locs hP hD hS ls hl hrun
      rw [p_X3_countChanged_44] at hrun
      refine lv_iload hx hb dX3_countChanged_44 (lv_at hl 3 rfl) ?_
      refine lv_iload_n hx hb dX3_countChanged_46 rfl (lv_at hl 1 rfl) ?_
      refine lv_icmp_gt (tgt := 80) hx hb dX3_countChanged_47 (by decide) (fun c_9 => ?_) (fun c_9 => ?_)
      · replace hrun := it_pos c_9 hrun
        refine lv_iload_n hx hb dX3_countChanged_80 rfl (lv_at hl 2 rfl) ?_
        obtain ⟨hr1, hr2⟩ := si2 hrun
        exact W.iret (v := x3) hx hb hr (fun t ht hW => ⟨⟨x3, (), rfl, hr1, by rw [ht, ← hr2]; exact hP, by rw [← hr2]; exact hD⟩, hS.F ht⟩) hS.2.2 dX3_countChanged_81
      · replace hrun := it_neg c_9 hrun
        refine lv_aload_n hx hb dX3_countChanged_50 rfl (lv_at hl 0 rfl) ?_
        refine va_get (D := G.1) (ci := 3) (v := .ref ((a 5) 0)) (C := RX3) (T := TX3) (N := 6) hx hb hts iwX3 hown hK hP 0 rfl rfl 4 (by decide) ha3 (fun _ h9 => h9) rfl dX3_countChanged_51 ?_
        refine lv_iload hx hb dX3_countChanged_54 (lv_at hl 3 rfl) ?_
        obtain ⟨v_10, e_11, hrun⟩ := bd hrun
        refine y_ro (va_runV (As := [.int x4]) (rest := []) ⟨hx, hb, hml, hown, hts⟩ (c_X1_headOrNone l G (a 5) (S 5) x4 v_10 e_11) (cwV 1 hts gX3_countChanged_X1_headOrNone rfl rfl rfl (by decide +kernel) ⟨Nat.le_of_ble_eq_true rfl, Nat.le_of_ble_eq_true rfl⟩) ⟨PreR.blind, va_recv hK hP (ci := 1) (q0 := 16) rfl rfl, y_preR hC (hP.sub (ws' := wLay G (a 5) (S 5)) [16, 17, 18, 19, 20, 21, 22, 23, 24, 25, 26, 27] rfl)⟩ rfl rfl hl.1 rfl (lv_room (Nat.le_of_ble_eq_true rfl)) dX3_countChanged_56 ⟨Nat.zero_le _, Nat.zero_le _⟩) ?_
        refine lv_aload_n hx hb dX3_countChanged_59 rfl (lv_at hl 0 rfl) ?_
        refine va_get (D := G.1) (ci := 3) (v := .ref ((a 6) 0)) (C := RX3) (T := TX3) (N := 6) hx hb hts iwX3 hown hK hP 0 rfl rfl 5 (by decide) ha0 (fun _ h9 => h9) rfl dX3_countChanged_60 ?_
        refine lv_iload hx hb dX3_countChanged_63 (lv_at hl 3 rfl) ?_
        obtain ⟨v_12, e_13, hrun⟩ := bd hrun
        refine y_ro (va_runV (As := [.int x4]) (rest := [.int v_10]) ⟨hx, hb, hml, hown, hts⟩ (c_X1_headOrNone l G (a 6) (S 6) x4 v_12 e_13) (cwV 1 hts gX3_countChanged_X1_headOrNone rfl rfl rfl (by decide +kernel) ⟨Nat.le_of_ble_eq_true rfl, Nat.le_of_ble_eq_true rfl⟩) ⟨PreR.blind, va_recv hK hP (ci := 1) (q0 := 28) rfl rfl, y_preR hC (hP.sub (ws' := wLay G (a 6) (S 6)) [28, 29, 30, 31, 32, 33, 34, 35, 36, 37, 38, 39] rfl)⟩ rfl rfl hl.1 rfl (lv_room (Nat.le_of_ble_eq_true rfl)) dX3_countChanged_65 ⟨Nat.zero_le _, Nat.zero_le _⟩) ?_
        refine lv_icmp_eq (tgt := 74) hx hb dX3_countChanged_68 (by decide) (fun c_14 => ?_) (fun c_14 => ?_)
        · replace hrun := it_pos c_14 hrun
          exact kJ_74 x2 x3 x4 S _ _ hP hD hS ls (lv_sub hl [0, 1, 2, 3] rfl) hrun
        · replace hrun := it_neg c_14 hrun
          refine lv_iinc (v := (x3 + nI 1)) (lv' := [(3, .int (x3 + nI 1)), (0, .ref (a 0 0)), (2, .int x2), (4, .int x4)]) hx hb dX3_countChanged_71 hl (k := 2) rfl rfl (by decide) rfl (fun ls hl => ?_)
          exact kJ_74 x2 (x3 + nI 1) x4 S _ _ hP hD hS ls (lv_sub hl [1, 2, 0, 3] rfl) hrun
  have hl := lv_entry [.ref (a 0 0), .int u1] (n := 5) (Nat.le_of_ble_eq_true rfl)
  rw [lg_entry_eq]
  generalize (lg_sl [.ref (a 0 0), .int u1] ++ List.replicate (5 - (lg_sl [.ref (a 0 0), .int u1]).length) Slot.unset).toArray = ls at hl ⊢
  have hl : lv_has ls 5 [(0, .ref (a 0 0)), (1, .int u1)] := hl
  rw [p_X3_countChanged] at hrun
  refine lv_aload_n hx hb dX3_countChanged_0 rfl (lv_at hl 0 rfl) ?_
  refine va_get (D := G.1) (ci := 3) (v := .ref ((a 6) 0)) (C := RX3) (T := TX3) (N := 6) hx hb hts iwX3 hown hK hP 0 rfl rfl 5 (by decide) ha0 (fun _ h9 => h9) rfl dX3_countChanged_1 ?_
  refine lv_aload_n hx hb dX3_countChanged_4 rfl (lv_at hl 0 rfl) ?_
  refine va_get (D := G.1) (ci := 3) (v := .ref ((a 2) 0)) (C := RX3) (T := TX3) (N := 6) hx hb hts iwX3 hown hK hP 0 rfl rfl 1 (by decide) ha1 (fun _ h9 => h9) rfl dX3_countChanged_5 ?_
  refine lv_aload_n hx hb dX3_countChanged_8 rfl (lv_at hl 0 rfl) ?_
  refine va_get (D := G.1) (ci := 3) (v := .ref ((a 2) 0)) (C := RX3) (T := TX3) (N := 6) hx hb hts iwX3 hown hK hP 0 rfl rfl 1 (by decide) ha1 (fun _ h9 => h9) rfl dX3_countChanged_9 ?_
  refine va_get (D := G.1) (ci := 0) (v := .ref ((a 2) 3)) (C := RX0) (T := TX0) (N := 4) hx hb hts iwX0 hown hK hP 4 rfl rfl 2 (by decide) ha2 (fun _ h9 => h9) rfl dX3_countChanged_12 ?_
  refine lv_iconst (v := nI 0) hx hb dX3_countChanged_15 (by decide) ?_
  obtain ⟨v_1, e_2, hrun⟩ := bd hrun
  refine y_ald hx hb hK hP 7 0 rfl rfl e_2 dX3_countChanged_16 ?_
  refine lv_iload_n hx hb dX3_countChanged_17 rfl (lv_at hl 1 rfl) ?_
  obtain ⟨N_4, e_3, hrun⟩ := bd hrun
  obtain ⟨S_5, e_6, hrun⟩ := bd hrun
  replace e_6 := si e_6
  have hF := va_free (wc := wLay G (a 6) (S 6) ++ wBook G (a 2) (S 2)) hD hS hA [28, 29, 30, 31, 32, 33, 34, 35, 36, 37, 38, 39, 4, 5, 6, 7] rfl
  refine y_rwv (va_runV (As := [.ref ((a 2) 0), .int v_1, .int u1]) (rest := []) ⟨hx, hb, hml, hown, hts⟩ (c_X1_lay l G (a 6) (a 2) (S 6) (S 2) v_1 u1 _ N_4 e_3) (cwV 3 hts gX3_countChanged_X1_lay rfl rfl rfl (by decide +kernel) ⟨Nat.le_of_ble_eq_true rfl, Nat.le_of_ble_eq_true rfl⟩) ⟨PreW.blind, va_recv hK hP (ci := 1) (q0 := 28) rfl rfl, y_preW hC (hP.sub (ws' := wLay G (a 6) (S 6) ++ wBook G (a 2) (S 2)) [28, 29, 30, 31, 32, 33, 34, 35, 36, 37, 38, 39, 4, 5, 6, 7] rfl) (hD.sub (ws' := wLay G (a 6) (S 6) ++ wBook G (a 2) (S 2)) [28, 29, 30, 31, 32, 33, 34, 35, 36, 37, 38, 39, 4, 5, 6, 7] (by decide) rfl)⟩ rfl rfl hl.1 rfl (lv_room (Nat.le_of_ble_eq_true rfl)) dX3_countChanged_18 ⟨Nat.zero_le _, Nat.zero_le _⟩) hS hF (fun H locs hP1 hD1 hk1 hS => ?_)
  replace hP := jn_hm_S6_S2_mS6 hP hD hk1 hF hP1 hD1
  replace hD := hP.2
  replace hP := hP.1
  rw [e_6] at hP hD
  clear hP1 hD1 hk1 hF
  refine lv_aload_n hx hb dX3_countChanged_21 rfl (lv_at hl 0 rfl) ?_
  refine va_get (D := G.1) (ci := 3) (v := .ref ((a 5) 0)) (C := RX3) (T := TX3) (N := 6) hx hb hts iwX3 hown hK hP 0 rfl rfl 4 (by decide) ha3 (fun _ h9 => h9) rfl dX3_countChanged_22 ?_
  refine va_get (D := G.1) (ci := 1) (v := .int ((S_5 5) 10 0)) (C := RX1) (T := TX1) (N := 9) hx hb hts iwX1 hown hK hP 16 rfl rfl 8 (by decide) ha4 (fun _ h9 => h9) rfl dX3_countChanged_25 ?_
  refine lv_aload_n hx hb dX3_countChanged_28 rfl (lv_at hl 0 rfl) ?_
  refine va_get (D := G.1) (ci := 3) (v := .ref ((a 6) 0)) (C := RX3) (T := TX3) (N := 6) hx hb hts iwX3 hown hK hP 0 rfl rfl 5 (by decide) ha0 (fun _ h9 => h9) rfl dX3_countChanged_29 ?_
  refine va_get (D := G.1) (ci := 1) (v := .int ((S_5 6) 10 0)) (C := RX1) (T := TX1) (N := 9) hx hb hts iwX1 hown hK hP 28 rfl rfl 8 (by decide) ha4 (fun _ h9 => h9) rfl dX3_countChanged_32 ?_
  refine va_mmax hx hb (by rw [hml]; exact hl.1.symm) hown ha5 ha6 ha7 ha8 (Nat.le_of_ble_eq_true rfl) (Nat.le_of_ble_eq_true rfl) (Nat.zero_le _) (Nat.zero_le _) dX3_countChanged_35 ?_
  obtain ⟨v_7, e_8, hrun⟩ := bd hrun
  rw [si e_8]
  refine lv_istore_n (lv' := [(2, .int v_7), (0, .ref (a 0 0)), (1, .int u1)]) hx hb dX3_countChanged_38 rfl hl (by decide) rfl (fun ls hl => ?_)
  refine lv_iconst (v := nI 0) hx hb dX3_countChanged_39 (by decide) ?_
  refine lv_istore_n (lv' := [(3, .int (nI 0)), (2, .int v_7), (0, .ref (a 0 0)), (1, .int u1)]) hx hb dX3_countChanged_40 rfl hl (by decide) rfl (fun ls hl => ?_)
  refine lv_iconst (v := nI 1) hx hb dX3_countChanged_41 (by decide) ?_
  refine lv_istore (lv' := [(4, .int (nI 1)), (3, .int (nI 0)), (2, .int v_7), (0, .ref (a 0 0)), (1, .int u1)]) hx hb dX3_countChanged_42 hl (by decide) rfl (fun ls hl => ?_)
  exact kH_44 200 v_7 (nI 0) (nI 1) S_5 _ _ hP hD hS ls (lv_sub hl [3, 2, 1, 0] rfl) hrun
def p_X3_changed  (u1 : Int32) (S : (Nat → Ob)) : Option (Int32 × (Nat → Ob)) := ((p_X0_canBreakAhead (S 2) u1).bind fun v_1 => (if v_1 = nI 0 then (some ((-1), S)) else (bind2 (p_X3_countChanged u1 S) fun v_7 N_6 => (some (v_7, N_6)))))
abbrev rmX3_changed : Room := { frames := 5, cells := 0, slots := 0, locals := 118 }
set_option maxHeartbeats 4000000 in
set_option maxRecDepth 100000 in
theorem c_X3_changed (l : Launch) (G : GT) (a : Nat → Nat → Nat) (S : Nat → Ob) (u1 : Int32) (sz : Nat) (r0 : Int32) (S0 : (Nat → Ob)) (hrun : p_X3_changed u1 S = some (r0, S0)) : Met l yX3_changed wsX3_changed rmX3_changed (PreW G [.ref (a 0 0), .int u1] (wHM G a S) sz) (QI G r0 (wHM G a S0) (va_A (wHM G a S) sz)) 0 0 (va_A (wHM G a S) sz) := by
  refine Met.ofW (cc := cX3_changed) (maxL := 2) (ret := (some .int)) (by decide) rfl ?_
  intro p e s m args below meth c s₁ Bd hml hv
  obtain ⟨rfl, hsz, hP, hC, hD0⟩ := hv
  have hx := Bd.exec
  have hb := Bd.bytes
  have hr := Bd.returns
  have hts := atoms_spec (ws := wsX3_changed) Bd.pre
  have hown : s.vm.findClass RX3 = some m.cls := findClass_of_methodNamed Bd.named
  have hlocks := Bd.notSynchronized
  have hK := hC.1
  have iwX3 : ∀ w ∈ wsX30, w ∈ wsX3_changed := by decide +kernel
  have ha0 := hts (.fieldLink RX3 19 "HeadMarks" "book" "LHeadMarks$Book;") (by decide +kernel)
  subst hsz
  have hD := hD0.self (sz := s.heap.size)
  generalize hAe : va_A (wHM G a S) s.heap.size = A at hD ⊢
  have hA : ∀ q : Nat, s.heap.size ≤ q → A q := fun q h => by rw [← hAe]; exact Or.inr h
  have hS : va_S A s.heap s.heap [] := va_S.rf
  have hl := lv_entry [.ref (a 0 0), .int u1] (n := 2) (Nat.le_of_ble_eq_true rfl)
  rw [lg_entry_eq]
  generalize (lg_sl [.ref (a 0 0), .int u1] ++ List.replicate (2 - (lg_sl [.ref (a 0 0), .int u1]).length) Slot.unset).toArray = ls at hl ⊢
  have hl : lv_has ls 2 [(0, .ref (a 0 0)), (1, .int u1)] := hl
  rw [p_X3_changed] at hrun
  refine lv_aload_n hx hb dX3_changed_0 rfl (lv_at hl 0 rfl) ?_
  refine va_get (D := G.1) (ci := 3) (v := .ref ((a 2) 0)) (C := RX3) (T := TX3) (N := 6) hx hb hts iwX3 hown hK hP 0 rfl rfl 1 (by decide) ha0 (fun _ h9 => h9) rfl dX3_changed_1 ?_
  refine lv_iload_n hx hb dX3_changed_4 rfl (lv_at hl 1 rfl) ?_
  obtain ⟨v_1, e_2, hrun⟩ := bd hrun
  refine y_roz (va_runV (As := [.int u1]) (rest := []) ⟨hx, hb, hml, hown, hts⟩ (c_X0_canBreakAhead l G (a 2) (S 2) u1 v_1 e_2) (cwV 1 hts gX3_changed_X0_canBreakAhead rfl rfl rfl (by decide +kernel) ⟨Nat.le_of_ble_eq_true rfl, Nat.le_of_ble_eq_true rfl⟩) ⟨PreR.blind, va_recv hK hP (ci := 0) (q0 := 4) rfl rfl, y_preR hC (hP.sub (ws' := wBook G (a 2) (S 2)) [4, 5, 6, 7] rfl)⟩ rfl rfl hl.1 rfl (lv_room (Nat.le_of_ble_eq_true rfl)) dX3_changed_5 ⟨Nat.zero_le _, Nat.zero_le _⟩) (fun z_3 => ?_)
  refine lv_if_eq (tgt := 19) hx hb dX3_changed_8 (by decide) (fun c_4 => ?_) (fun c_4 => ?_)
  · replace hrun := it_pos c_4 hrun
    refine lv_iconst (v := -1) hx hb dX3_changed_19 (by decide) ?_
    obtain ⟨hr1, hr2⟩ := si2 hrun
    exact W.iret (v := (-1)) hx hb hr (fun t ht hW => ⟨⟨(-1), (), rfl, hr1, by rw [ht, ← hr2]; exact hP, by rw [← hr2]; exact hD⟩, hS.F ht⟩) hS.2.2 dX3_changed_20
  · replace hrun := it_neg c_4 hrun
    refine lv_aload_n hx hb dX3_changed_11 rfl (lv_at hl 0 rfl) ?_
    refine lv_iload_n hx hb dX3_changed_12 rfl (lv_at hl 1 rfl) ?_
    obtain ⟨v_7, N_6, e_5, hrun⟩ := bd2 hrun
    have hF := y_all hD hS hA
    refine y_rwi (va_runV (As := [.int u1]) (rest := []) ⟨hx, hb, hml, hown, hts⟩ (c_X3_countChanged l G a S u1 _ v_7 N_6 e_5) (cwV 1 hts gX3_changed_X3_countChanged rfl rfl rfl (by decide +kernel) ⟨Nat.le_of_ble_eq_true rfl, Nat.le_of_ble_eq_true rfl⟩) ⟨PreW.blind, va_recv hK hP (ci := 3) (q0 := 0) rfl rfl, y_preW hC hP hD⟩ rfl rfl hl.1 rfl (lv_room (Nat.le_of_ble_eq_true rfl)) dX3_changed_13 ⟨Nat.zero_le _, Nat.zero_le _⟩) hS hF (fun H locs hP1 hD1 hk1 hS => ?_)
    replace hP : va_P G.1 vwCl (wHM G a N_6) H := hP1
    replace hD : va_D A (wHM G a N_6) := hD1.weaken (fun _ q _ h => hF q.1 h)
    clear hP1 hD1 hk1 hF
    refine lv_goto (tgt := 20) hx hb dX3_changed_16 (by decide) ?_
    obtain ⟨hr1, hr2⟩ := si2 hrun
    exact W.iret (v := v_7) hx hb hr (fun t ht hW => ⟨⟨v_7, (), rfl, hr1, by rw [ht, ← hr2]; exact hP, by rw [← hr2]; exact hD⟩, hS.F ht⟩) hS.2.2 dX3_changed_20
def p_X3_worst_58  (K : Int32 → Int32 → Int32 → Int32 → (Nat → Ob) → Option (Int32 × (Nat → Ob))) (x1 : Int32) (x2 : Int32) (x3 : Int32) (x4 : Int32) (S : (Nat → Ob)) : Option (Int32 × (Nat → Ob)) := K x1 x2 x3 (x4 + nI 1) S
def p_X3_worst_52  (K : Int32 → Int32 → Int32 → Int32 → (Nat → Ob) → Option (Int32 × (Nat → Ob))) (x1 : Int32) (x4 : Int32) (x5 : Int32) (S : (Nat → Ob)) : Option (Int32 × (Nat → Ob)) := p_X3_worst_58 K x1 x4 x5 x4 S
def p_X3_worst_20  : Nat → Int32 → Int32 → Int32 → Int32 → (Nat → Ob) → Option (Int32 × (Nat → Ob))
  | 0, _, _, _, _, _ => none
  | n + 1, x1, x2, x3, x4, S => (if ((S 2) 3 0) ≤ x4 then (if x1 = nI 0 then (some (x2, S)) else (some (x3, S))) else (bind2 (p_X3_countChanged x4 S) fun v_7 N_6 => (if x2 = (-6) then p_X3_worst_52 (p_X3_worst_20 n) x1 x4 v_7 N_6 else (if v_7 ≤ x3 then p_X3_worst_58 (p_X3_worst_20 n) x1 x2 x3 x4 N_6 else p_X3_worst_52 (p_X3_worst_20 n) x1 x4 v_7 N_6))))
def p_X3_worst_12  (x1 : Int32) (S : (Nat → Ob)) : Option (Int32 × (Nat → Ob)) := p_X3_worst_20 200 x1 (-6) (nI 0) (nI 1) S
def p_X3_worst  (u1 : Int32) (S : (Nat → Ob)) : Option (Int32 × (Nat → Ob)) := (if u1 = nI 0 then p_X3_worst_12 u1 S else (if u1 = (nI 1) then p_X3_worst_12 u1 S else (some ((-2), S))))
abbrev rmX3_worst : Room := { frames := 5, cells := 0, slots := 0, locals := 118 }
set_option maxHeartbeats 4000000 in
set_option maxRecDepth 100000 in
theorem c_X3_worst (l : Launch) (G : GT) (a : Nat → Nat → Nat) (S : Nat → Ob) (u1 : Int32) (sz : Nat) (r0 : Int32) (S0 : (Nat → Ob)) (hrun : p_X3_worst u1 S = some (r0, S0)) : Met l yX3_worst wsX3_worst rmX3_worst (PreW G [.ref (a 0 0), .int u1] (wHM G a S) sz) (QI G r0 (wHM G a S0) (va_A (wHM G a S) sz)) 0 0 (va_A (wHM G a S) sz) := by
  refine Met.ofW (cc := cX3_worst) (maxL := 6) (ret := (some .int)) (by decide) rfl ?_
  intro p e s m args below meth c s₁ Bd hml hv
  obtain ⟨rfl, hsz, hP, hC, hD0⟩ := hv
  have hx := Bd.exec
  have hb := Bd.bytes
  have hr := Bd.returns
  have hts := atoms_spec (ws := wsX3_worst) Bd.pre
  have hown : s.vm.findClass RX3 = some m.cls := findClass_of_methodNamed Bd.named
  have hlocks := Bd.notSynchronized
  have hK := hC.1
  have iwX0 : ∀ w ∈ wsX00, w ∈ wsX3_worst := by decide +kernel
  have iwX3 : ∀ w ∈ wsX30, w ∈ wsX3_worst := by decide +kernel
  have ha0 := hts (.fieldLink RX3 19 "HeadMarks" "book" "LHeadMarks$Book;") (by decide +kernel)
  have ha1 := hts (.fieldLink RX3 59 "HeadMarks$Book" "lines" "I") (by decide +kernel)
  subst hsz
  have hD := hD0.self (sz := s.heap.size)
  generalize hAe : va_A (wHM G a S) s.heap.size = A at hD ⊢
  have hA : ∀ q : Nat, s.heap.size ≤ q → A q := fun q h => by rw [← hAe]; exact Or.inr h
  have hS : va_S A s.heap s.heap [] := va_S.rf
  have kH_20 : ∀ (n : Nat) (x1 x2 x3 x4 : Int32) (S : (Nat → Ob)) , ∀ (H : Heap) (locs : List Loc), va_P G.1 vwCl (wHM G a S) H → va_D A (wHM G a S) → va_S A s.heap H locs → ∀ (ls : Array Slot), lv_has ls 6 [(0, .ref (a 0 0)), (1, .int x1), (2, .int x2), (3, .int x3), (4, .int x4)] → p_X3_worst_20 n x1 x2 x3 x4 S = some (r0, S0) → W p l e (headSpec wsX3_worst rmX3_worst).room s m ([.ref (a 0 0), .int u1] : List Value).toArray below meth c H locs 0 0 (MQ below (QI G r0 (wHM G a S0) A) ([.ref (a 0 0), .int u1] : List Value).toArray s 0 0 A) (F0 m 20 ls []) := by
    intro n
    induction n with
    | zero => intro x1 x2 x3 x4 S H locs hP hD hS ls hl hrun; exact absurd (hrun : (none : Option (Int32 × (Nat → Ob))) = some (r0, S0)) (fun h => by cases h)
    | succ n ih =>
      have kJ_58 : ∀ (x1 x2 x3 x4 : Int32) (S : (Nat → Ob)) , ∀ (H : Heap) (locs : List Loc), va_P G.1 vwCl (wHM G a S) H → va_D A (wHM G a S) → va_S A s.heap H locs → ∀ (ls : Array Slot), lv_has ls 6 [(0, .ref (a 0 0)), (1, .int x1), (2, .int x2), (3, .int x3), (4, .int x4)] → p_X3_worst_58 (p_X3_worst_20 n) x1 x2 x3 x4 S = some (r0, S0) → W p l e (headSpec wsX3_worst rmX3_worst).room s m ([.ref (a 0 0), .int u1] : List Value).toArray below meth c H locs 0 0 (MQ below (QI G r0 (wHM G a S0) A) ([.ref (a 0 0), .int u1] : List Value).toArray s 0 0 A) (F0 m 58 ls []) := by
        intro x1 x2 x3 x4 S H locs hP hD hS ls hl hrun
        rw [p_X3_worst_58] at hrun
        refine lv_iinc (v := (x4 + nI 1)) (lv' := [(4, .int (x4 + nI 1)), (0, .ref (a 0 0)), (1, .int x1), (2, .int x2), (3, .int x3)]) hx hb dX3_worst_58 hl (k := 4) rfl rfl (by decide) rfl (fun ls hl => ?_)
        refine lv_goto (tgt := 20) hx hb dX3_worst_61 (by decide) ?_
        exact ih x1 x2 x3 (x4 + nI 1) S _ _ hP hD hS ls (lv_sub hl [1, 2, 3, 4, 0] rfl) hrun
      have kJ_52 : ∀ (x1 x4 x5 : Int32) (S : (Nat → Ob)) , ∀ (H : Heap) (locs : List Loc), va_P G.1 vwCl (wHM G a S) H → va_D A (wHM G a S) → va_S A s.heap H locs → ∀ (ls : Array Slot), lv_has ls 6 [(0, .ref (a 0 0)), (1, .int x1), (4, .int x4), (5, .int x5)] → p_X3_worst_52 (p_X3_worst_20 n) x1 x4 x5 S = some (r0, S0) → W p l e (headSpec wsX3_worst rmX3_worst).room s m ([.ref (a 0 0), .int u1] : List Value).toArray below meth c H locs 0 0 (MQ below (QI G r0 (wHM G a S0) A) ([.ref (a 0 0), .int u1] : List Value).toArray s 0 0 A) (F0 m 52 ls []) := by
        intro x1 x4 x5 S H locs hP hD hS ls hl hrun
        rw [p_X3_worst_52] at hrun
        refine lv_iload hx hb dX3_worst_52 (lv_at hl 2 rfl) ?_
        refine lv_istore_n (lv' := [(2, .int x4), (0, .ref (a 0 0)), (1, .int x1), (4, .int x4), (5, .int x5)]) hx hb dX3_worst_54 rfl hl (by decide) rfl (fun ls hl => ?_)
        refine lv_iload hx hb dX3_worst_55 (lv_at hl 4 rfl) ?_
        refine lv_istore_n (lv' := [(3, .int x5), (2, .int x4), (0, .ref (a 0 0)), (1, .int x1), (4, .int x4), (5, .int x5)]) hx hb dX3_worst_57 rfl hl (by decide) rfl (fun ls hl => ?_)
        exact kJ_58 x1 x4 x5 x4 S _ _ hP hD hS ls (lv_sub hl [2, 3, 1, 0, 4] rfl) hrun
      intro x1 x2 x3 x4 S H locs hP hD hS ls hl hrun
      rw [p_X3_worst_20] at hrun
      refine lv_iload hx hb dX3_worst_20 (lv_at hl 4 rfl) ?_
      refine lv_aload_n hx hb dX3_worst_22 rfl (lv_at hl 0 rfl) ?_
      refine va_get (D := G.1) (ci := 3) (v := .ref ((a 2) 0)) (C := RX3) (T := TX3) (N := 6) hx hb hts iwX3 hown hK hP 0 rfl rfl 1 (by decide) ha0 (fun _ h9 => h9) rfl dX3_worst_23 ?_
      refine va_get (D := G.1) (ci := 0) (v := .int ((S 2) 3 0)) (C := RX0) (T := TX0) (N := 4) hx hb hts iwX0 hown hK hP 4 rfl rfl 3 (by decide) ha1 (fun _ h9 => h9) rfl dX3_worst_26 ?_
      refine lv_icmp_ge (tgt := 64) hx hb dX3_worst_29 (by decide) (fun c_3 => ?_) (fun c_3 => ?_)
      · replace hrun := it_pos c_3 hrun
        refine lv_iload_n hx hb dX3_worst_64 rfl (lv_at hl 1 rfl) ?_
        refine lv_if_ne (tgt := 72) hx hb dX3_worst_65 (by decide) (fun c_4 => ?_) (fun c_4 => ?_)
        · replace hrun := it_neg c_4 hrun
          refine lv_iload_n hx hb dX3_worst_72 rfl (lv_at hl 3 rfl) ?_
          obtain ⟨hr1, hr2⟩ := si2 hrun
          exact W.iret (v := x3) hx hb hr (fun t ht hW => ⟨⟨x3, (), rfl, hr1, by rw [ht, ← hr2]; exact hP, by rw [← hr2]; exact hD⟩, hS.F ht⟩) hS.2.2 dX3_worst_73
        · replace hrun := it_pos c_4 hrun
          refine lv_iload_n hx hb dX3_worst_68 rfl (lv_at hl 2 rfl) ?_
          refine lv_goto (tgt := 73) hx hb dX3_worst_69 (by decide) ?_
          obtain ⟨hr1, hr2⟩ := si2 hrun
          exact W.iret (v := x2) hx hb hr (fun t ht hW => ⟨⟨x2, (), rfl, hr1, by rw [ht, ← hr2]; exact hP, by rw [← hr2]; exact hD⟩, hS.F ht⟩) hS.2.2 dX3_worst_73
      · replace hrun := it_neg c_3 hrun
        refine lv_aload_n hx hb dX3_worst_32 rfl (lv_at hl 0 rfl) ?_
        refine lv_iload hx hb dX3_worst_33 (lv_at hl 4 rfl) ?_
        obtain ⟨v_7, N_6, e_5, hrun⟩ := bd2 hrun
        have hF := y_all hD hS hA
        refine y_rwi (va_runV (As := [.int x4]) (rest := []) ⟨hx, hb, hml, hown, hts⟩ (c_X3_countChanged l G a S x4 _ v_7 N_6 e_5) (cwV 1 hts gX3_worst_X3_countChanged rfl rfl rfl (by decide +kernel) ⟨Nat.le_of_ble_eq_true rfl, Nat.le_of_ble_eq_true rfl⟩) ⟨PreW.blind, va_recv hK hP (ci := 3) (q0 := 0) rfl rfl, y_preW hC hP hD⟩ rfl rfl hl.1 rfl (lv_room (Nat.le_of_ble_eq_true rfl)) dX3_worst_35 ⟨Nat.zero_le _, Nat.zero_le _⟩) hS hF (fun H locs hP1 hD1 hk1 hS => ?_)
        replace hP : va_P G.1 vwCl (wHM G a N_6) H := hP1
        replace hD : va_D A (wHM G a N_6) := hD1.weaken (fun _ q _ h => hF q.1 h)
        clear hP1 hD1 hk1 hF
        refine lv_istore (lv' := [(5, .int v_7), (0, .ref (a 0 0)), (1, .int x1), (2, .int x2), (3, .int x3), (4, .int x4)]) hx hb dX3_worst_38 hl (by decide) rfl (fun ls hl => ?_)
        refine lv_iload_n hx hb dX3_worst_40 rfl (lv_at hl 3 rfl) ?_
        refine lv_bipush (v := -6) hx hb dX3_worst_41 (by decide) ?_
        refine lv_icmp_eq (tgt := 52) hx hb dX3_worst_43 (by decide) (fun c_8 => ?_) (fun c_8 => ?_)
        · replace hrun := it_pos c_8 hrun
          exact kJ_52 x1 x4 v_7 N_6 _ _ hP hD hS ls (lv_sub hl [1, 2, 5, 0] rfl) hrun
        · replace hrun := it_neg c_8 hrun
          refine lv_iload hx hb dX3_worst_46 (lv_at hl 0 rfl) ?_
          refine lv_iload_n hx hb dX3_worst_48 rfl (lv_at hl 4 rfl) ?_
          refine lv_icmp_le (tgt := 58) hx hb dX3_worst_49 (by decide) (fun c_9 => ?_) (fun c_9 => ?_)
          · replace hrun := it_pos c_9 hrun
            exact kJ_58 x1 x2 x3 x4 N_6 _ _ hP hD hS ls (lv_sub hl [1, 2, 3, 4, 5] rfl) hrun
          · replace hrun := it_neg c_9 hrun
            exact kJ_52 x1 x4 v_7 N_6 _ _ hP hD hS ls (lv_sub hl [1, 2, 5, 0] rfl) hrun
  have kJ_12 : ∀ (x1 : Int32) (S : (Nat → Ob)) , ∀ (H : Heap) (locs : List Loc), va_P G.1 vwCl (wHM G a S) H → va_D A (wHM G a S) → va_S A s.heap H locs → ∀ (ls : Array Slot), lv_has ls 6 [(0, .ref (a 0 0)), (1, .int x1)] → p_X3_worst_12 x1 S = some (r0, S0) → W p l e (headSpec wsX3_worst rmX3_worst).room s m ([.ref (a 0 0), .int u1] : List Value).toArray below meth c H locs 0 0 (MQ below (QI G r0 (wHM G a S0) A) ([.ref (a 0 0), .int u1] : List Value).toArray s 0 0 A) (F0 m 12 ls []) := by
    intro x1 S H locs hP hD hS ls hl hrun
    rw [p_X3_worst_12] at hrun
    refine lv_bipush (v := -6) hx hb dX3_worst_12 (by decide) ?_
    refine lv_istore_n (lv' := [(2, .int (-6)), (0, .ref (a 0 0)), (1, .int x1)]) hx hb dX3_worst_14 rfl hl (by decide) rfl (fun ls hl => ?_)
    refine lv_iconst (v := nI 0) hx hb dX3_worst_15 (by decide) ?_
    refine lv_istore_n (lv' := [(3, .int (nI 0)), (2, .int (-6)), (0, .ref (a 0 0)), (1, .int x1)]) hx hb dX3_worst_16 rfl hl (by decide) rfl (fun ls hl => ?_)
    refine lv_iconst (v := nI 1) hx hb dX3_worst_17 (by decide) ?_
    refine lv_istore (lv' := [(4, .int (nI 1)), (3, .int (nI 0)), (2, .int (-6)), (0, .ref (a 0 0)), (1, .int x1)]) hx hb dX3_worst_18 hl (by decide) rfl (fun ls hl => ?_)
    exact kH_20 200 x1 (-6) (nI 0) (nI 1) S _ _ hP hD hS ls (lv_sub hl [3, 4, 2, 1, 0] rfl) hrun
  have hl := lv_entry [.ref (a 0 0), .int u1] (n := 6) (Nat.le_of_ble_eq_true rfl)
  rw [lg_entry_eq]
  generalize (lg_sl [.ref (a 0 0), .int u1] ++ List.replicate (6 - (lg_sl [.ref (a 0 0), .int u1]).length) Slot.unset).toArray = ls at hl ⊢
  have hl : lv_has ls 6 [(0, .ref (a 0 0)), (1, .int u1)] := hl
  rw [p_X3_worst] at hrun
  refine lv_iload_n hx hb dX3_worst_0 rfl (lv_at hl 1 rfl) ?_
  refine lv_if_eq (tgt := 12) hx hb dX3_worst_1 (by decide) (fun c_1 => ?_) (fun c_1 => ?_)
  · replace hrun := it_pos c_1 hrun
    exact kJ_12 u1 S _ _ hP hD hS ls (lv_sub hl [0, 1] rfl) hrun
  · replace hrun := it_neg c_1 hrun
    refine lv_iload_n hx hb dX3_worst_4 rfl (lv_at hl 1 rfl) ?_
    refine lv_iconst (v := nI 1) hx hb dX3_worst_5 (by decide) ?_
    refine lv_icmp_eq (tgt := 12) hx hb dX3_worst_6 (by decide) (fun c_2 => ?_) (fun c_2 => ?_)
    · replace hrun := it_pos c_2 hrun
      exact kJ_12 u1 S _ _ hP hD hS ls (lv_sub hl [0, 1] rfl) hrun
    · replace hrun := it_neg c_2 hrun
      refine lv_bipush (v := -2) hx hb dX3_worst_9 (by decide) ?_
      obtain ⟨hr1, hr2⟩ := si2 hrun
      exact W.iret (v := (-2)) hx hb hr (fun t ht hW => ⟨⟨(-2), (), rfl, hr1, by rw [ht, ← hr2]; exact hP, by rw [← hr2]; exact hD⟩, hS.F ht⟩) hS.2.2 dX3_worst_11
def p_X3_fit_35  : Nat → Int32 → Int32 → (Nat → Ob) → Option (Int32 × (Nat → Ob))
  | 0, _, _, _ => none
  | n + 1, x1, x3, S => ((ldI tMost 9 (nI 0)).bind fun v_9 => (if v_9 < x3 then (some ((-6), S)) else ((p_X1_lay (S 2) x3 (-1) (S 6)).bind fun N_13 => (some (va_up S 6 N_13)).bind fun S_14 => (if x1 < ((S_14 6) 10 0) then p_X3_fit_35 n x1 (x3 + nI 1) S_14 else (some (x3, S_14))))))
def p_X3_fit  (u1 : Int32) (S : (Nat → Ob)) : Option (Int32 × (Nat → Ob)) := (if u1 < nI 0 then (some ((-2), S)) else (if u1 ≤ (nI 99) then ((ldI tLeast 9 (nI 0)).bind fun v_3 => ((ldI ((S 2) 2) 9 (nI 2)).bind fun v_5 => ((some (if v_3 < (v_5 + (nI 1)) then (v_5 + (nI 1)) else v_3)).bind fun v_7 => p_X3_fit_35 200 u1 v_7 S))) else (some ((-2), S))))
abbrev rmX3_fit : Room := { frames := 4, cells := 0, slots := 0, locals := 94 }
set_option maxHeartbeats 4000000 in
set_option maxRecDepth 100000 in
theorem c_X3_fit (l : Launch) (G : GT) (t : Nat → Nat) (a : Nat → Nat → Nat) (S : Nat → Ob) (u1 : Int32) (sz : Nat) (r0 : Int32) (S0 : (Nat → Ob)) (hrun : p_X3_fit u1 S = some (r0, S0)) : Met l yX3_fit wsX3_fit rmX3_fit (PreU G t [.ref (a 0 0), .int u1] (wHM G a S) sz) (QI G r0 (wHM G a S0) (va_A (wHM G a S) sz)) 0 0 (va_A (wHM G a S) sz) := by
  refine Met.ofW (cc := cX3_fit) (maxL := 4) (ret := (some .int)) (by decide) rfl ?_
  intro p e s m args below meth c s₁ Bd hml hv
  obtain ⟨rfl, hsz, hP, hC, hD0, hT1, hT2⟩ := hv
  have hx := Bd.exec
  have hb := Bd.bytes
  have hr := Bd.returns
  have hts := atoms_spec (ws := wsX3_fit) Bd.pre
  have hown : s.vm.findClass RX3 = some m.cls := findClass_of_methodNamed Bd.named
  have hlocks := Bd.notSynchronized
  have hK := hC.1
  have iwX0 : ∀ w ∈ wsX00, w ∈ wsX3_fit := by decide +kernel
  have iwX1 : ∀ w ∈ wsX10, w ∈ wsX3_fit := by decide +kernel
  have iwX3 : ∀ w ∈ wsX30, w ∈ wsX3_fit := by decide +kernel
  have ha0 := hts (.fieldLink RX3 132 "HeadMarks" "RULE_LEAST" "[I") (by decide +kernel)
  have ha1 := hts (.fieldLink RX3 19 "HeadMarks" "book" "LHeadMarks$Book;") (by decide +kernel)
  have ha2 := hts (.fieldLink RX3 66 "HeadMarks$Book" "rules" "[I") (by decide +kernel)
  have ha3 := hts (.methodLink RX3 135 yJ9_max_7cf53) (by decide +kernel)
  have ha4 := hts (.static yJ9_max_7cf53) (by decide +kernel)
  have ha5 := hts (.initialized "java/lang/Math") (by decide +kernel)
  have ha6 := hts (.code yJ9_max_7cf53 cJ9_max_7cf53 2 (some .int)) (by decide +kernel)
  have ha7 := hts (.fieldLink RX3 140 "HeadMarks" "RULE_MOST" "[I") (by decide +kernel)
  have ha8 := hts (.fieldLink RX3 38 "HeadMarks" "trial" "LHeadMarks$Layout;") (by decide +kernel)
  have ha9 := hts (.fieldLink RX3 113 "HeadMarks$Layout" "pages" "I") (by decide +kernel)
  subst hsz
  have hD := hD0.self (sz := s.heap.size)
  generalize hAe : va_A (wHM G a S) s.heap.size = A at hD hT1 hT2 ⊢
  have hA : ∀ q : Nat, s.heap.size ≤ q → A q := fun q h => by rw [← hAe]; exact Or.inr h
  have hS : va_S A s.heap s.heap [] := va_S.rf
  have kH_35 : ∀ (n : Nat) (x1 x3 : Int32) (S : (Nat → Ob)) , ∀ (H : Heap) (locs : List Loc), va_P G.1 vwCl (wHM G a S) H → va_D A (wHM G a S) → va_S A s.heap H locs → ∀ (ls : Array Slot), lv_has ls 4 [(0, .ref (a 0 0)), (1, .int x1), (3, .int x3)] → p_X3_fit_35 n x1 x3 S = some (r0, S0) → W p l e (headSpec wsX3_fit rmX3_fit).room s m ([.ref (a 0 0), .int u1] : List Value).toArray below meth c H locs 0 0 (MQ below (QI G r0 (wHM G a S0) A) ([.ref (a 0 0), .int u1] : List Value).toArray s 0 0 A) (F0 m 35 ls []) := by
    intro n
    induction n with
    | zero => intro x1 x3 S H locs hP hD hS ls hl hrun; exact absurd (hrun : (none : Option (Int32 × (Nat → Ob))) = some (r0, S0)) (fun h => by cases h)
    | succ n ih =>
      intro x1 x3 S H locs hP hD hS ls hl hrun
      rw [p_X3_fit_35] at hrun
      refine lv_iload_n hx hb dX3_fit_35 rfl (lv_at hl 2 rfl) ?_
      refine va_gets hx hb hT2.1 hS hown ha7 (fun _ h9 => h9) dX3_fit_36 ?_
      refine lv_iconst (v := nI 0) hx hb dX3_fit_39 (by decide) ?_
      obtain ⟨v_9, e_10, hrun⟩ := bd hrun
      refine y_tab hx hb hT2.2 hS e_10 dX3_fit_40 ?_
      refine lv_icmp_gt (tgt := 76) hx hb dX3_fit_41 (by decide) (fun c_11 => ?_) (fun c_11 => ?_)
      · replace hrun := it_pos c_11 hrun
        refine lv_bipush (v := -6) hx hb dX3_fit_76 (by decide) ?_
        obtain ⟨hr1, hr2⟩ := si2 hrun
        exact W.iret (v := (-6)) hx hb hr (fun t ht hW => ⟨⟨(-6), (), rfl, hr1, by rw [ht, ← hr2]; exact hP, by rw [← hr2]; exact hD⟩, hS.F ht⟩) hS.2.2 dX3_fit_78
      · replace hrun := it_neg c_11 hrun
        refine lv_aload_n hx hb dX3_fit_44 rfl (lv_at hl 0 rfl) ?_
        refine va_get (D := G.1) (ci := 3) (v := .ref ((a 6) 0)) (C := RX3) (T := TX3) (N := 6) hx hb hts iwX3 hown hK hP 0 rfl rfl 5 (by decide) ha8 (fun _ h9 => h9) rfl dX3_fit_45 ?_
        refine lv_aload_n hx hb dX3_fit_48 rfl (lv_at hl 0 rfl) ?_
        refine va_get (D := G.1) (ci := 3) (v := .ref ((a 2) 0)) (C := RX3) (T := TX3) (N := 6) hx hb hts iwX3 hown hK hP 0 rfl rfl 1 (by decide) ha1 (fun _ h9 => h9) rfl dX3_fit_49 ?_
        refine lv_iload_n hx hb dX3_fit_52 rfl (lv_at hl 2 rfl) ?_
        refine lv_iconst (v := -1) hx hb dX3_fit_53 (by decide) ?_
        obtain ⟨N_13, e_12, hrun⟩ := bd hrun
        obtain ⟨S_14, e_15, hrun⟩ := bd hrun
        replace e_15 := si e_15
        have hF := va_free (wc := wLay G (a 6) (S 6) ++ wBook G (a 2) (S 2)) hD hS hA [28, 29, 30, 31, 32, 33, 34, 35, 36, 37, 38, 39, 4, 5, 6, 7] rfl
        refine y_rwv (va_runV (As := [.ref ((a 2) 0), .int x3, .int (-1)]) (rest := []) ⟨hx, hb, hml, hown, hts⟩ (c_X1_lay l G (a 6) (a 2) (S 6) (S 2) x3 (-1) _ N_13 e_12) (cwV 3 hts gX3_fit_X1_lay rfl rfl rfl (by decide +kernel) ⟨Nat.le_of_ble_eq_true rfl, Nat.le_of_ble_eq_true rfl⟩) ⟨PreW.blind, va_recv hK hP (ci := 1) (q0 := 28) rfl rfl, y_preW hC (hP.sub (ws' := wLay G (a 6) (S 6) ++ wBook G (a 2) (S 2)) [28, 29, 30, 31, 32, 33, 34, 35, 36, 37, 38, 39, 4, 5, 6, 7] rfl) (hD.sub (ws' := wLay G (a 6) (S 6) ++ wBook G (a 2) (S 2)) [28, 29, 30, 31, 32, 33, 34, 35, 36, 37, 38, 39, 4, 5, 6, 7] (by decide) rfl)⟩ rfl rfl hl.1 rfl (lv_room (Nat.le_of_ble_eq_true rfl)) dX3_fit_54 ⟨Nat.zero_le _, Nat.zero_le _⟩) hS hF (fun H locs hP1 hD1 hk1 hS => ?_)
        replace hP := jn_hm_S6_S2_mS6 hP hD hk1 hF hP1 hD1
        replace hD := hP.2
        replace hP := hP.1
        rw [e_15] at hP hD
        clear hP1 hD1 hk1 hF
        refine lv_aload_n hx hb dX3_fit_57 rfl (lv_at hl 0 rfl) ?_
        refine va_get (D := G.1) (ci := 3) (v := .ref ((a 6) 0)) (C := RX3) (T := TX3) (N := 6) hx hb hts iwX3 hown hK hP 0 rfl rfl 5 (by decide) ha8 (fun _ h9 => h9) rfl dX3_fit_58 ?_
        refine va_get (D := G.1) (ci := 1) (v := .int ((S_14 6) 10 0)) (C := RX1) (T := TX1) (N := 9) hx hb hts iwX1 hown hK hP 28 rfl rfl 8 (by decide) ha9 (fun _ h9 => h9) rfl dX3_fit_61 ?_
        refine lv_iload_n hx hb dX3_fit_64 rfl (lv_at hl 1 rfl) ?_
        refine lv_icmp_gt (tgt := 70) hx hb dX3_fit_65 (by decide) (fun c_16 => ?_) (fun c_16 => ?_)
        · replace hrun := it_pos c_16 hrun
          refine lv_iinc (v := (x3 + nI 1)) (lv' := [(3, .int (x3 + nI 1)), (0, .ref (a 0 0)), (1, .int x1)]) hx hb dX3_fit_70 hl (k := 2) rfl rfl (by decide) rfl (fun ls hl => ?_)
          refine lv_goto (tgt := 35) hx hb dX3_fit_73 (by decide) ?_
          exact ih x1 (x3 + nI 1) S_14 _ _ hP hD hS ls (lv_sub hl [1, 2, 0] rfl) hrun
        · replace hrun := it_neg c_16 hrun
          refine lv_iload_n hx hb dX3_fit_68 rfl (lv_at hl 2 rfl) ?_
          obtain ⟨hr1, hr2⟩ := si2 hrun
          exact W.iret (v := x3) hx hb hr (fun t ht hW => ⟨⟨x3, (), rfl, hr1, by rw [ht, ← hr2]; exact hP, by rw [← hr2]; exact hD⟩, hS.F ht⟩) hS.2.2 dX3_fit_69
  have hl := lv_entry [.ref (a 0 0), .int u1] (n := 4) (Nat.le_of_ble_eq_true rfl)
  rw [lg_entry_eq]
  generalize (lg_sl [.ref (a 0 0), .int u1] ++ List.replicate (4 - (lg_sl [.ref (a 0 0), .int u1]).length) Slot.unset).toArray = ls at hl ⊢
  have hl : lv_has ls 4 [(0, .ref (a 0 0)), (1, .int u1)] := hl
  rw [p_X3_fit] at hrun
  refine lv_iload_n hx hb dX3_fit_0 rfl (lv_at hl 1 rfl) ?_
  refine lv_if_lt (tgt := 10) hx hb dX3_fit_1 (by decide) (fun c_1 => ?_) (fun c_1 => ?_)
  · replace hrun := it_pos c_1 hrun
    refine lv_bipush (v := -2) hx hb dX3_fit_10 (by decide) ?_
    obtain ⟨hr1, hr2⟩ := si2 hrun
    exact W.iret (v := (-2)) hx hb hr (fun t ht hW => ⟨⟨(-2), (), rfl, hr1, by rw [ht, ← hr2]; exact hP, by rw [← hr2]; exact hD⟩, hS.F ht⟩) hS.2.2 dX3_fit_12
  · replace hrun := it_neg c_1 hrun
    refine lv_iload_n hx hb dX3_fit_4 rfl (lv_at hl 1 rfl) ?_
    refine lv_bipush (v := nI 99) hx hb dX3_fit_5 (by decide) ?_
    refine lv_icmp_le (tgt := 13) hx hb dX3_fit_7 (by decide) (fun c_2 => ?_) (fun c_2 => ?_)
    · replace hrun := it_pos c_2 hrun
      refine va_gets hx hb hT1.1 hS hown ha0 (fun _ h9 => h9) dX3_fit_13 ?_
      refine lv_iconst (v := nI 0) hx hb dX3_fit_16 (by decide) ?_
      obtain ⟨v_3, e_4, hrun⟩ := bd hrun
      refine y_tab hx hb hT1.2 hS e_4 dX3_fit_17 ?_
      refine lv_aload_n hx hb dX3_fit_18 rfl (lv_at hl 0 rfl) ?_
      refine va_get (D := G.1) (ci := 3) (v := .ref ((a 2) 0)) (C := RX3) (T := TX3) (N := 6) hx hb hts iwX3 hown hK hP 0 rfl rfl 1 (by decide) ha1 (fun _ h9 => h9) rfl dX3_fit_19 ?_
      refine va_get (D := G.1) (ci := 0) (v := .ref ((a 2) 3)) (C := RX0) (T := TX0) (N := 4) hx hb hts iwX0 hown hK hP 4 rfl rfl 2 (by decide) ha2 (fun _ h9 => h9) rfl dX3_fit_22 ?_
      refine lv_iconst (v := nI 2) hx hb dX3_fit_25 (by decide) ?_
      obtain ⟨v_5, e_6, hrun⟩ := bd hrun
      refine y_ald hx hb hK hP 7 0 rfl rfl e_6 dX3_fit_26 ?_
      refine lv_iconst (v := nI 1) hx hb dX3_fit_27 (by decide) ?_
      refine lv_iadd hx hb dX3_fit_28 ?_
      refine va_mmax hx hb (by rw [hml]; exact hl.1.symm) hown ha3 ha4 ha5 ha6 (Nat.le_of_ble_eq_true rfl) (Nat.le_of_ble_eq_true rfl) (Nat.zero_le _) (Nat.zero_le _) dX3_fit_29 ?_
      obtain ⟨v_7, e_8, hrun⟩ := bd hrun
      rw [si e_8]
      refine lv_istore_n (lv' := [(2, .int v_7), (0, .ref (a 0 0)), (1, .int u1)]) hx hb dX3_fit_32 rfl hl (by decide) rfl (fun ls hl => ?_)
      refine lv_iload_n hx hb dX3_fit_33 rfl (lv_at hl 0 rfl) ?_
      refine lv_istore_n (lv' := [(3, .int v_7), (2, .int v_7), (0, .ref (a 0 0)), (1, .int u1)]) hx hb dX3_fit_34 rfl hl (by decide) rfl (fun ls hl => ?_)
      exact kH_35 200 u1 v_7 S _ _ hP hD hS ls (lv_sub hl [2, 3, 0] rfl) hrun
    · replace hrun := it_neg c_2 hrun
      refine lv_bipush (v := -2) hx hb dX3_fit_10 (by decide) ?_
      obtain ⟨hr1, hr2⟩ := si2 hrun
      exact W.iret (v := (-2)) hx hb hr (fun t ht hW => ⟨⟨(-2), (), rfl, hr1, by rw [ht, ← hr2]; exact hP, by rw [← hr2]; exact hD⟩, hS.F ht⟩) hS.2.2 dX3_fit_12
def p_X3_image  (u1 : Int32) (S : (Nat → Ob)) : Option (Int32 × (Nat → Ob)) := (if u1 < nI 0 then (some ((-2), S)) else (if u1 < (nI 2) then (if u1 = nI 0 then ((p_X0_copyFrom (S 2) (S 3)).bind fun N_6 => (some (va_up S 3 N_6)).bind fun S_7 => ((some (va_up S_7 0 (puO (S_7 0) 0 ((S_7 0 0 0) ||| ((nI 1) <<< (u1 &&& 31)))))).bind fun S_9 => (some ((nI 1), S_9)))) else (if u1 = nI 1 then ((p_X0_copyFrom (S 2) (S 4)).bind fun N_12 => (some (va_up S 4 N_12)).bind fun S_13 => ((some (va_up S_13 0 (puO (S_13 0) 0 ((S_13 0 0 0) ||| ((nI 1) <<< (u1 &&& 31)))))).bind fun S_15 => (some ((nI 1), S_15)))) else none)) else (some ((-2), S))))
abbrev rmX3_image : Room := { frames := 2, cells := 0, slots := 0, locals := 81 }
set_option maxHeartbeats 4000000 in
set_option maxRecDepth 100000 in
theorem c_X3_image (l : Launch) (G : GT) (a : Nat → Nat → Nat) (S : Nat → Ob) (u1 : Int32) (sz : Nat) (r0 : Int32) (S0 : (Nat → Ob)) (hrun : p_X3_image u1 S = some (r0, S0)) : Met l yX3_image wsX3_image rmX3_image (PreW G [.ref (a 0 0), .int u1] (wHM G a S) sz) (QI G r0 (wHM G a S0) (va_A (wHM G a S) sz)) 0 0 (va_A (wHM G a S) sz) := by
  refine Met.ofW (cc := cX3_image) (maxL := 2) (ret := (some .int)) (by decide) rfl ?_
  intro p e s m args below meth c s₁ Bd hml hv
  obtain ⟨rfl, hsz, hP, hC, hD0⟩ := hv
  have hx := Bd.exec
  have hb := Bd.bytes
  have hr := Bd.returns
  have hts := atoms_spec (ws := wsX3_image) Bd.pre
  have hown : s.vm.findClass RX3 = some m.cls := findClass_of_methodNamed Bd.named
  have hlocks := Bd.notSynchronized
  have hK := hC.1
  have iwX3 : ∀ w ∈ wsX30, w ∈ wsX3_image := by decide +kernel
  have ha0 := hts (.fieldLink RX3 23 "HeadMarks" "images" "[LHeadMarks$Book;") (by decide +kernel)
  have ha1 := hts (.fieldLink RX3 19 "HeadMarks" "book" "LHeadMarks$Book;") (by decide +kernel)
  have ha2 := hts (.fieldLink RX3 27 "HeadMarks" "imagesKept" "I") (by decide +kernel)
  subst hsz
  have hD := hD0.self (sz := s.heap.size)
  generalize hAe : va_A (wHM G a S) s.heap.size = A at hD ⊢
  have hA : ∀ q : Nat, s.heap.size ≤ q → A q := fun q h => by rw [← hAe]; exact Or.inr h
  have hS : va_S A s.heap s.heap [] := va_S.rf
  have hl := lv_entry [.ref (a 0 0), .int u1] (n := 2) (Nat.le_of_ble_eq_true rfl)
  rw [lg_entry_eq]
  generalize (lg_sl [.ref (a 0 0), .int u1] ++ List.replicate (2 - (lg_sl [.ref (a 0 0), .int u1]).length) Slot.unset).toArray = ls at hl ⊢
  have hl : lv_has ls 2 [(0, .ref (a 0 0)), (1, .int u1)] := hl
  rw [p_X3_image] at hrun
  refine lv_iload_n hx hb dX3_image_0 rfl (lv_at hl 1 rfl) ?_
  refine lv_if_lt (tgt := 9) hx hb dX3_image_1 (by decide) (fun c_1 => ?_) (fun c_1 => ?_)
  · replace hrun := it_pos c_1 hrun
    refine lv_bipush (v := -2) hx hb dX3_image_9 (by decide) ?_
    obtain ⟨hr1, hr2⟩ := si2 hrun
    exact W.iret (v := (-2)) hx hb hr (fun t ht hW => ⟨⟨(-2), (), rfl, hr1, by rw [ht, ← hr2]; exact hP, by rw [← hr2]; exact hD⟩, hS.F ht⟩) hS.2.2 dX3_image_11
  · replace hrun := it_neg c_1 hrun
    refine lv_iload_n hx hb dX3_image_4 rfl (lv_at hl 1 rfl) ?_
    refine lv_iconst (v := nI 2) hx hb dX3_image_5 (by decide) ?_
    refine lv_icmp_lt (tgt := 12) hx hb dX3_image_6 (by decide) (fun c_2 => ?_) (fun c_2 => ?_)
    · replace hrun := it_pos c_2 hrun
      refine lv_aload_n hx hb dX3_image_12 rfl (lv_at hl 0 rfl) ?_
      refine va_get (D := G.1) (ci := 3) (v := .ref (a 0 1)) (C := RX3) (T := TX3) (N := 6) hx hb hts iwX3 hown hK hP 0 rfl rfl 2 (by decide) ha0 (fun _ h9 => h9) rfl dX3_image_13 ?_
      refine lv_iload_n hx hb dX3_image_16 rfl (lv_at hl 1 rfl) ?_
      by_cases c_3 : u1 = nI 0
      · replace hrun := it_pos c_3 hrun
        refine y_aald (v := a 3 0) hx hb hK hP 1 2 rfl rfl rfl (by rw [c_3]; exact (by decide : ¬ (nI 0 < 0 ∨ 2 ≤ (nI 0).toNatClampNeg))) (by rw [c_3]; rfl) dX3_image_17 ?_
        refine lv_aload_n hx hb dX3_image_18 rfl (lv_at hl 0 rfl) ?_
        refine va_get (D := G.1) (ci := 3) (v := .ref ((a 2) 0)) (C := RX3) (T := TX3) (N := 6) hx hb hts iwX3 hown hK hP 0 rfl rfl 1 (by decide) ha1 (fun _ h9 => h9) rfl dX3_image_19 ?_
        obtain ⟨N_6, e_5, hrun⟩ := bd hrun
        obtain ⟨S_7, e_8, hrun⟩ := bd hrun
        replace e_8 := si e_8
        have hF := va_free (wc := wBook G (a 3) (S 3) ++ wBook G (a 2) (S 2)) hD hS hA [8, 9, 10, 11, 4, 5, 6, 7] rfl
        refine y_rwv (va_runV (As := [.ref ((a 2) 0)]) (rest := []) ⟨hx, hb, hml, hown, hts⟩ (c_X0_copyFrom l G (a 3) (a 2) (S 3) (S 2)  _ N_6 e_5) (cwV 1 hts gX3_image_X0_copyFrom rfl rfl rfl (by decide +kernel) ⟨Nat.le_of_ble_eq_true rfl, Nat.le_of_ble_eq_true rfl⟩) ⟨PreW.blind, va_recv hK hP (ci := 0) (q0 := 8) rfl rfl, y_preW hC (hP.sub (ws' := wBook G (a 3) (S 3) ++ wBook G (a 2) (S 2)) [8, 9, 10, 11, 4, 5, 6, 7] rfl) (hD.sub (ws' := wBook G (a 3) (S 3) ++ wBook G (a 2) (S 2)) [8, 9, 10, 11, 4, 5, 6, 7] (by decide) rfl)⟩ rfl rfl hl.1 rfl (lv_room (Nat.le_of_ble_eq_true rfl)) dX3_image_22 ⟨Nat.zero_le _, Nat.zero_le _⟩) hS hF (fun H locs hP1 hD1 hk1 hS => ?_)
        replace hP := jn_hm_S3_S2_mS3 hP hD hk1 hF hP1 hD1
        replace hD := hP.2
        replace hP := hP.1
        rw [e_8] at hP hD
        clear hP1 hD1 hk1 hF
        refine lv_aload_n hx hb dX3_image_25 rfl (lv_at hl 0 rfl) ?_
        refine lv_dup hx hb dX3_image_26 rfl ?_
        refine va_get (D := G.1) (ci := 3) (v := .int (S_7 0 0 0)) (C := RX3) (T := TX3) (N := 6) hx hb hts iwX3 hown hK hP 0 rfl rfl 3 (by decide) ha2 (fun _ h9 => h9) rfl dX3_image_27 ?_
        refine lv_iconst (v := nI 1) hx hb dX3_image_30 (by decide) ?_
        refine lv_iload_n hx hb dX3_image_31 rfl (lv_at hl 1 rfl) ?_
        refine lv_ishl hx hb dX3_image_32 ?_
        refine lv_ior hx hb dX3_image_33 ?_
        obtain ⟨S_9, e_10, hrun⟩ := bd hrun
        replace e_10 := si e_10
        refine va_put (D := G.1) (ci := 3) (v := .int ((S_7 0 0 0) ||| ((nI 1) <<< (u1 &&& 31)))) (ty := .int) (C := RX3) (T := TX3) (N := 6) hx hb hts iwX3 tyX3 tyX3_ok nmX3 hown hK hP hD hS 0 rfl rfl 3 (by decide) ha2 (fun _ h9 => h9) rfl (by decide +kernel) rfl rfl (Nat.le_of_ble_eq_true rfl) dX3_image_34 (fun H locs hP hD hS => ?_)
        replace hP : va_P G.1 vwCl (wHM G a S_9) H := by rw [← e_10]; exact hP
        replace hD : va_D A (wHM G a S_9) := by rw [← e_10]; exact hD
        refine lv_iconst (v := nI 1) hx hb dX3_image_37 (by decide) ?_
        obtain ⟨hr1, hr2⟩ := si2 hrun
        exact W.iret (v := (nI 1)) hx hb hr (fun t ht hW => ⟨⟨(nI 1), (), rfl, hr1, by rw [ht, ← hr2]; exact hP, by rw [← hr2]; exact hD⟩, hS.F ht⟩) hS.2.2 dX3_image_38
      · replace hrun := it_neg c_3 hrun
        by_cases c_4 : u1 = nI 1
        · replace hrun := it_pos c_4 hrun
          refine y_aald (v := a 4 0) hx hb hK hP 1 2 rfl rfl rfl (by rw [c_4]; exact (by decide : ¬ (nI 1 < 0 ∨ 2 ≤ (nI 1).toNatClampNeg))) (by rw [c_4]; rfl) dX3_image_17 ?_
          refine lv_aload_n hx hb dX3_image_18 rfl (lv_at hl 0 rfl) ?_
          refine va_get (D := G.1) (ci := 3) (v := .ref ((a 2) 0)) (C := RX3) (T := TX3) (N := 6) hx hb hts iwX3 hown hK hP 0 rfl rfl 1 (by decide) ha1 (fun _ h9 => h9) rfl dX3_image_19 ?_
          obtain ⟨N_12, e_11, hrun⟩ := bd hrun
          obtain ⟨S_13, e_14, hrun⟩ := bd hrun
          replace e_14 := si e_14
          have hF := va_free (wc := wBook G (a 4) (S 4) ++ wBook G (a 2) (S 2)) hD hS hA [12, 13, 14, 15, 4, 5, 6, 7] rfl
          refine y_rwv (va_runV (As := [.ref ((a 2) 0)]) (rest := []) ⟨hx, hb, hml, hown, hts⟩ (c_X0_copyFrom l G (a 4) (a 2) (S 4) (S 2)  _ N_12 e_11) (cwV 1 hts gX3_image_X0_copyFrom rfl rfl rfl (by decide +kernel) ⟨Nat.le_of_ble_eq_true rfl, Nat.le_of_ble_eq_true rfl⟩) ⟨PreW.blind, va_recv hK hP (ci := 0) (q0 := 12) rfl rfl, y_preW hC (hP.sub (ws' := wBook G (a 4) (S 4) ++ wBook G (a 2) (S 2)) [12, 13, 14, 15, 4, 5, 6, 7] rfl) (hD.sub (ws' := wBook G (a 4) (S 4) ++ wBook G (a 2) (S 2)) [12, 13, 14, 15, 4, 5, 6, 7] (by decide) rfl)⟩ rfl rfl hl.1 rfl (lv_room (Nat.le_of_ble_eq_true rfl)) dX3_image_22 ⟨Nat.zero_le _, Nat.zero_le _⟩) hS hF (fun H locs hP1 hD1 hk1 hS => ?_)
          replace hP := jn_hm_S4_S2_mS4 hP hD hk1 hF hP1 hD1
          replace hD := hP.2
          replace hP := hP.1
          rw [e_14] at hP hD
          clear hP1 hD1 hk1 hF
          refine lv_aload_n hx hb dX3_image_25 rfl (lv_at hl 0 rfl) ?_
          refine lv_dup hx hb dX3_image_26 rfl ?_
          refine va_get (D := G.1) (ci := 3) (v := .int (S_13 0 0 0)) (C := RX3) (T := TX3) (N := 6) hx hb hts iwX3 hown hK hP 0 rfl rfl 3 (by decide) ha2 (fun _ h9 => h9) rfl dX3_image_27 ?_
          refine lv_iconst (v := nI 1) hx hb dX3_image_30 (by decide) ?_
          refine lv_iload_n hx hb dX3_image_31 rfl (lv_at hl 1 rfl) ?_
          refine lv_ishl hx hb dX3_image_32 ?_
          refine lv_ior hx hb dX3_image_33 ?_
          obtain ⟨S_15, e_16, hrun⟩ := bd hrun
          replace e_16 := si e_16
          refine va_put (D := G.1) (ci := 3) (v := .int ((S_13 0 0 0) ||| ((nI 1) <<< (u1 &&& 31)))) (ty := .int) (C := RX3) (T := TX3) (N := 6) hx hb hts iwX3 tyX3 tyX3_ok nmX3 hown hK hP hD hS 0 rfl rfl 3 (by decide) ha2 (fun _ h9 => h9) rfl (by decide +kernel) rfl rfl (Nat.le_of_ble_eq_true rfl) dX3_image_34 (fun H locs hP hD hS => ?_)
          replace hP : va_P G.1 vwCl (wHM G a S_15) H := by rw [← e_16]; exact hP
          replace hD : va_D A (wHM G a S_15) := by rw [← e_16]; exact hD
          refine lv_iconst (v := nI 1) hx hb dX3_image_37 (by decide) ?_
          obtain ⟨hr1, hr2⟩ := si2 hrun
          exact W.iret (v := (nI 1)) hx hb hr (fun t ht hW => ⟨⟨(nI 1), (), rfl, hr1, by rw [ht, ← hr2]; exact hP, by rw [← hr2]; exact hD⟩, hS.F ht⟩) hS.2.2 dX3_image_38
        · replace hrun := it_neg c_4 hrun
          cases hrun
    · replace hrun := it_neg c_2 hrun
      refine lv_bipush (v := -2) hx hb dX3_image_9 (by decide) ?_
      obtain ⟨hr1, hr2⟩ := si2 hrun
      exact W.iret (v := (-2)) hx hb hr (fun t ht hW => ⟨⟨(-2), (), rfl, hr1, by rw [ht, ← hr2]; exact hP, by rw [← hr2]; exact hD⟩, hS.F ht⟩) hS.2.2 dX3_image_11
