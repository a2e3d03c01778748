def p_X3_restore  (u1 : Int32) (S : (Nat → Ob)) : Option (Int32 × (Nat → Ob)) := (if u1 < nI 0 then (some ((-2), S)) else (if u1 < (nI 2) then (if (((S 0 0 0) >>> (u1 &&& 31)) &&& (nI 1)) = nI 0 then (some ((-3), S)) else (if u1 = nI 0 then ((p_X0_copyFrom (S 3) (S 2)).bind fun N_7 => (some (va_up S 2 N_7)).bind fun S_8 => ((p_X3_layNow S_8).bind fun N_11 => (some ((nI 1), N_11)))) else (if u1 = nI 1 then ((p_X0_copyFrom (S 4) (S 2)).bind fun N_13 => (some (va_up S 2 N_13)).bind fun S_14 => ((p_X3_layNow S_14).bind fun N_17 => (some ((nI 1), N_17)))) else none))) else (some ((-2), S))))
abbrev rmX3_restore : Room := { frames := 5, cells := 0, slots := 0, locals := 114 }
set_option maxHeartbeats 4000000 in
set_option maxRecDepth 100000 in
theorem c_X3_restore (l : Launch) (G : GT) (a : Nat → Nat → Nat) (S : Nat → Ob) (u1 : Int32) (sz : Nat) (r0 : Int32) (S0 : (Nat → Ob)) (hrun : p_X3_restore u1 S = some (r0, S0)) : Met l yX3_restore wsX3_restore rmX3_restore (PreW G [.ref (a 0 0), .int u1] (wHM G a S) sz) (QI G r0 (wHM G a S0) (va_A (wHM G a S) sz)) 0 0 (va_A (wHM G a S) sz) := by
  refine Met.ofW (cc := cX3_restore) (maxL := 2) (ret := (some .int)) (by decide) rfl ?_
  intro p e s m args below meth c s₁ Bd hml hv
  obtain ⟨rfl, hsz, hP, hC, hD0⟩ := hv
  have hx := Bd.exec
  have hb := Bd.bytes
  have hr := Bd.returns
  have hts := atoms_spec (ws := wsX3_restore) Bd.pre
  have hown : s.vm.findClass RX3 = some m.cls := findClass_of_methodNamed Bd.named
  have hlocks := Bd.notSynchronized
  have hK := hC.1
  have iwX3 : ∀ w ∈ wsX30, w ∈ wsX3_restore := by decide +kernel
  have ha0 := hts (.fieldLink RX3 27 "HeadMarks" "imagesKept" "I") (by decide +kernel)
  have ha1 := hts (.fieldLink RX3 19 "HeadMarks" "book" "LHeadMarks$Book;") (by decide +kernel)
  have ha2 := hts (.fieldLink RX3 23 "HeadMarks" "images" "[LHeadMarks$Book;") (by decide +kernel)
  subst hsz
  have hD := hD0.self (sz := s.heap.size)
  generalize hAe : va_A (wHM G a S) s.heap.size = A at hD ⊢
  have hA : ∀ q : Nat, s.heap.size ≤ q → A q := fun q h => by rw [← hAe]; exact Or.inr h
  have hS : va_S A s.heap s.heap [] := va_S.rf
  have hl := lv_entry [.ref (a 0 0), .int u1] (n := 2) (Nat.le_of_ble_eq_true rfl)
  rw [lg_entry_eq]
  generalize (lg_sl [.ref (a 0 0), .int u1] ++ List.replicate (2 - (lg_sl [.ref (a 0 0), .int u1]).length) Slot.unset).toArray = ls at hl ⊢
  have hl : lv_has ls 2 [(0, .ref (a 0 0)), (1, .int u1)] := hl
  rw [p_X3_restore] at hrun
  refine lv_iload_n hx hb dX3_restore_0 rfl (lv_at hl 1 rfl) ?_
  refine lv_if_lt (tgt := 9) hx hb dX3_restore_1 (by decide) (fun c_1 => ?_) (fun c_1 => ?_)
  · replace hrun := it_pos c_1 hrun
    refine lv_bipush (v := -2) hx hb dX3_restore_9 (by decide) ?_
    obtain ⟨hr1, hr2⟩ := si2 hrun
    exact W.iret (v := (-2)) hx hb hr (fun t ht hW => ⟨⟨(-2), (), rfl, hr1, by rw [ht, ← hr2]; exact hP, by rw [← hr2]; exact hD⟩, hS.F ht⟩) hS.2.2 dX3_restore_11
  · replace hrun := it_neg c_1 hrun
    refine lv_iload_n hx hb dX3_restore_4 rfl (lv_at hl 1 rfl) ?_
    refine lv_iconst (v := nI 2) hx hb dX3_restore_5 (by decide) ?_
    refine lv_icmp_lt (tgt := 12) hx hb dX3_restore_6 (by decide) (fun c_2 => ?_) (fun c_2 => ?_)
    · replace hrun := it_pos c_2 hrun
      refine lv_aload_n hx hb dX3_restore_12 rfl (lv_at hl 0 rfl) ?_
      refine va_get (D := G.1) (ci := 3) (v := .int (S 0 0 0)) (C := RX3) (T := TX3) (N := 6) hx hb hts iwX3 hown hK hP 0 rfl rfl 3 (by decide) ha0 (fun _ h9 => h9) rfl dX3_restore_13 ?_
      refine lv_iload_n hx hb dX3_restore_16 rfl (lv_at hl 1 rfl) ?_
      refine lv_ishr hx hb dX3_restore_17 ?_
      refine lv_iconst (v := nI 1) hx hb dX3_restore_18 (by decide) ?_
      refine lv_iand hx hb dX3_restore_19 ?_
      refine lv_if_ne (tgt := 26) hx hb dX3_restore_20 (by decide) (fun c_3 => ?_) (fun c_3 => ?_)
      · replace hrun := it_neg c_3 hrun
        refine lv_aload_n hx hb dX3_restore_26 rfl (lv_at hl 0 rfl) ?_
        refine va_get (D := G.1) (ci := 3) (v := .ref ((a 2) 0)) (C := RX3) (T := TX3) (N := 6) hx hb hts iwX3 hown hK hP 0 rfl rfl 1 (by decide) ha1 (fun _ h9 => h9) rfl dX3_restore_27 ?_
        refine lv_aload_n hx hb dX3_restore_30 rfl (lv_at hl 0 rfl) ?_
        refine va_get (D := G.1) (ci := 3) (v := .ref (a 0 1)) (C := RX3) (T := TX3) (N := 6) hx hb hts iwX3 hown hK hP 0 rfl rfl 2 (by decide) ha2 (fun _ h9 => h9) rfl dX3_restore_31 ?_
        refine lv_iload_n hx hb dX3_restore_34 rfl (lv_at hl 1 rfl) ?_
        by_cases c_4 : u1 = nI 0
        · replace hrun := it_pos c_4 hrun
          refine y_aald (v := a 3 0) hx hb hK hP 1 2 rfl rfl rfl (by rw [c_4]; exact (by decide : ¬ (nI 0 < 0 ∨ 2 ≤ (nI 0).toNatClampNeg))) (by rw [c_4]; rfl) dX3_restore_35 ?_
          obtain ⟨N_7, e_6, hrun⟩ := bd hrun
          obtain ⟨S_8, e_9, hrun⟩ := bd hrun
          replace e_9 := si e_9
          have hF := va_free (wc := wBook G (a 2) (S 2) ++ wBook G (a 3) (S 3)) hD hS hA [4, 5, 6, 7, 8, 9, 10, 11] rfl
          refine y_rwv (va_runV (As := [.ref ((a 3) 0)]) (rest := []) ⟨hx, hb, hml, hown, hts⟩ (c_X0_copyFrom l G (a 2) (a 3) (S 2) (S 3)  _ N_7 e_6) (cwV 1 hts gX3_restore_X0_copyFrom rfl rfl rfl (by decide +kernel) ⟨Nat.le_of_ble_eq_true rfl, Nat.le_of_ble_eq_true rfl⟩) ⟨PreW.blind, va_recv hK hP (ci := 0) (q0 := 4) rfl rfl, y_preW hC (hP.sub (ws' := wBook G (a 2) (S 2) ++ wBook G (a 3) (S 3)) [4, 5, 6, 7, 8, 9, 10, 11] rfl) (hD.sub (ws' := wBook G (a 2) (S 2) ++ wBook G (a 3) (S 3)) [4, 5, 6, 7, 8, 9, 10, 11] (by decide) rfl)⟩ rfl rfl hl.1 rfl (lv_room (Nat.le_of_ble_eq_true rfl)) dX3_restore_36 ⟨Nat.zero_le _, Nat.zero_le _⟩) hS hF (fun H locs hP1 hD1 hk1 hS => ?_)
          replace hP := jn_hm_S2_S3_mS2 hP hD hk1 hF hP1 hD1
          replace hD := hP.2
          replace hP := hP.1
          rw [e_9] at hP hD
          clear hP1 hD1 hk1 hF
          refine lv_aload_n hx hb dX3_restore_39 rfl (lv_at hl 0 rfl) ?_
          obtain ⟨N_11, e_10, hrun⟩ := bd hrun
          have hF := y_all hD hS hA
          refine y_rwv (va_runV (As := []) (rest := []) ⟨hx, hb, hml, hown, hts⟩ (c_X3_layNow l G a S_8  _ N_11 e_10) (cwV 0 hts gX3_restore_X3_layNow rfl rfl rfl (by decide +kernel) ⟨Nat.le_of_ble_eq_true rfl, Nat.le_of_ble_eq_true rfl⟩) ⟨PreW.blind, va_recv hK hP (ci := 3) (q0 := 0) rfl rfl, y_preW hC hP hD⟩ rfl rfl hl.1 rfl (lv_room (Nat.le_of_ble_eq_true rfl)) dX3_restore_40 ⟨Nat.zero_le _, Nat.zero_le _⟩) hS hF (fun H locs hP1 hD1 hk1 hS => ?_)
          replace hP : va_P G.1 vwCl (wHM G a N_11) H := hP1
          replace hD : va_D A (wHM G a N_11) := hD1.weaken (fun _ q _ h => hF q.1 h)
          clear hP1 hD1 hk1 hF
          refine lv_iconst (v := nI 1) hx hb dX3_restore_43 (by decide) ?_
          obtain ⟨hr1, hr2⟩ := si2 hrun
          exact W.iret (v := (nI 1)) hx hb hr (fun t ht hW => ⟨⟨(nI 1), (), rfl, hr1, by rw [ht, ← hr2]; exact hP, by rw [← hr2]; exact hD⟩, hS.F ht⟩) hS.2.2 dX3_restore_44
        · replace hrun := it_neg c_4 hrun
          by_cases c_5 : u1 = nI 1
          · replace hrun := it_pos c_5 hrun
            refine y_aald (v := a 4 0) hx hb hK hP 1 2 rfl rfl rfl (by rw [c_5]; exact (by decide : ¬ (nI 1 < 0 ∨ 2 ≤ (nI 1).toNatClampNeg))) (by rw [c_5]; rfl) dX3_restore_35 ?_
            obtain ⟨N_13, e_12, hrun⟩ := bd hrun
            obtain ⟨S_14, e_15, hrun⟩ := bd hrun
            replace e_15 := si e_15
            have hF := va_free (wc := wBook G (a 2) (S 2) ++ wBook G (a 4) (S 4)) hD hS hA [4, 5, 6, 7, 12, 13, 14, 15] rfl
            refine y_rwv (va_runV (As := [.ref ((a 4) 0)]) (rest := []) ⟨hx, hb, hml, hown, hts⟩ (c_X0_copyFrom l G (a 2) (a 4) (S 2) (S 4)  _ N_13 e_12) (cwV 1 hts gX3_restore_X0_copyFrom rfl rfl rfl (by decide +kernel) ⟨Nat.le_of_ble_eq_true rfl, Nat.le_of_ble_eq_true rfl⟩) ⟨PreW.blind, va_recv hK hP (ci := 0) (q0 := 4) rfl rfl, y_preW hC (hP.sub (ws' := wBook G (a 2) (S 2) ++ wBook G (a 4) (S 4)) [4, 5, 6, 7, 12, 13, 14, 15] rfl) (hD.sub (ws' := wBook G (a 2) (S 2) ++ wBook G (a 4) (S 4)) [4, 5, 6, 7, 12, 13, 14, 15] (by decide) rfl)⟩ rfl rfl hl.1 rfl (lv_room (Nat.le_of_ble_eq_true rfl)) dX3_restore_36 ⟨Nat.zero_le _, Nat.zero_le _⟩) hS hF (fun H locs hP1 hD1 hk1 hS => ?_)
            replace hP := jn_hm_S2_S4_mS2 hP hD hk1 hF hP1 hD1
            replace hD := hP.2
            replace hP := hP.1
            rw [e_15] at hP hD
            clear hP1 hD1 hk1 hF
            refine lv_aload_n hx hb dX3_restore_39 rfl (lv_at hl 0 rfl) ?_
            obtain ⟨N_17, e_16, hrun⟩ := bd hrun
            have hF := y_all hD hS hA
            refine y_rwv (va_runV (As := []) (rest := []) ⟨hx, hb, hml, hown, hts⟩ (c_X3_layNow l G a S_14  _ N_17 e_16) (cwV 0 hts gX3_restore_X3_layNow rfl rfl rfl (by decide +kernel) ⟨Nat.le_of_ble_eq_true rfl, Nat.le_of_ble_eq_true rfl⟩) ⟨PreW.blind, va_recv hK hP (ci := 3) (q0 := 0) rfl rfl, y_preW hC hP hD⟩ rfl rfl hl.1 rfl (lv_room (Nat.le_of_ble_eq_true rfl)) dX3_restore_40 ⟨Nat.zero_le _, Nat.zero_le _⟩) hS hF (fun H locs hP1 hD1 hk1 hS => ?_)
            replace hP : va_P G.1 vwCl (wHM G a N_17) H := hP1
            replace hD : va_D A (wHM G a N_17) := hD1.weaken (fun _ q _ h => hF q.1 h)
            clear hP1 hD1 hk1 hF
            refine lv_iconst (v := nI 1) hx hb dX3_restore_43 (by decide) ?_
            obtain ⟨hr1, hr2⟩ := si2 hrun
            exact W.iret (v := (nI 1)) hx hb hr (fun t ht hW => ⟨⟨(nI 1), (), rfl, hr1, by rw [ht, ← hr2]; exact hP, by rw [← hr2]; exact hD⟩, hS.F ht⟩) hS.2.2 dX3_restore_44
          · replace hrun := it_neg c_5 hrun
            cases hrun
      · replace hrun := it_pos c_3 hrun
        refine lv_bipush (v := -3) hx hb dX3_restore_23 (by decide) ?_
        obtain ⟨hr1, hr2⟩ := si2 hrun
        exact W.iret (v := (-3)) hx hb hr (fun t ht hW => ⟨⟨(-3), (), rfl, hr1, by rw [ht, ← hr2]; exact hP, by rw [← hr2]; exact hD⟩, hS.F ht⟩) hS.2.2 dX3_restore_25
    · replace hrun := it_neg c_2 hrun
      refine lv_bipush (v := -2) hx hb dX3_restore_9 (by decide) ?_
      obtain ⟨hr1, hr2⟩ := si2 hrun
      exact W.iret (v := (-2)) hx hb hr (fun t ht hW => ⟨⟨(-2), (), rfl, hr1, by rw [ht, ← hr2]; exact hP, by rw [← hr2]; exact hD⟩, hS.F ht⟩) hS.2.2 dX3_restore_11
