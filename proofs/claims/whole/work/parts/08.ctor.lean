abbrev rmX2_init : Room := { frames := 1, cells := 1, slots := 60, locals := 12 }
set_option maxHeartbeats 8000000 in
set_option maxRecDepth 100000 in
theorem c_X2_init (l : Launch) (G : GT) (h0 sz : Nat) : Met l yX2_init wsX2_init rmX2_init (PreW G [.ref h0] [(h0, .inr (2, [.null, .int 0]))] sz) (QN G (fun ap => wPad G ap ZO) h0 (va_A [(h0, .inr (2, [.null, .int 0]))] sz)) 1 60 (va_A [(h0, .inr (2, [.null, .int 0]))] sz) := by
  refine Met.ofW (cc := cX2_init) (maxL := 1) (ret := none) (by decide) rfl ?_
  intro p e s m args below meth c s₁ Bd hml hv
  obtain ⟨rfl, hsz, hP, hC, hD0⟩ := hv
  have hx := Bd.exec
  have hb := Bd.bytes
  have hr := Bd.returns
  have hts := atoms_spec (ws := wsX2_init) Bd.pre
  have hown : s.vm.findClass RX2 = some m.cls := findClass_of_methodNamed Bd.named
  have hlocks := Bd.notSynchronized
  have hin : meth.name = "<init>" := (name_of_methodNamed Bd.named Bd.method).1
  have hK := hC.1
  have iwX2 : ∀ w ∈ wsX20, w ∈ wsX2_init := by decide +kernel
  have ha0 := hts (.methodLink RX2 3 objectInit) (by decide +kernel)
  have ha1 := hts (.instanceMethod objectInit) (by decide +kernel)
  have ha2 := hts (.code objectInit ⟨#[0xb1]⟩ 1 none) (by decide +kernel)
  have ha3 := hts (.arrayClass .int) (by decide +kernel)
  have ha4 := hts (.fieldLink RX2 9 "HeadMarks$Pad" "signs" "[I") (by decide +kernel)
  have ha5 := hts (.fieldLink RX2 15 "HeadMarks$Pad" "size" "I") (by decide +kernel)
  subst hsz
  have hD := hD0.self (sz := s.heap.size)
  generalize hAe : va_A [(h0, .inr (2, [.null, .int 0]))] s.heap.size = A at hD ⊢
  have hA : ∀ q : Nat, s.heap.size ≤ q → A q := fun q h => by rw [← hAe]; exact Or.inr h
  have hS : va_S A s.heap s.heap [] := va_S.rf
  have hl := lv_entry [.ref h0] (n := 1) (Nat.le_of_ble_eq_true rfl)
  rw [lg_entry_eq]
  generalize (lg_sl [.ref h0] ++ List.replicate (1 - (lg_sl [.ref h0]).length) Slot.unset).toArray = ls at hl ⊢
  have hl : lv_has ls 1 [(0, .ref h0)] := hl
  refine lv_aload_n hx hb dX2_init_0 rfl (lv_at hl 0 rfl) ?_
  refine W.objInit hx hb hown ha0 ha1 ha2 rfl (by rw [hml]; exact hl.1) rfl dX2_init_1 (Nat.le_of_ble_eq_true rfl) (Nat.le_of_ble_eq_true rfl) ?_
  refine W.eq (g2 := F0 m 4 ls []) rfl ?_
  refine lv_aload_n hx hb dX2_init_4 rfl (lv_at hl 0 rfl) ?_
  refine lv_bipush (v := 60) hx hb dX2_init_5 (by decide) ?_
  refine y_newi (N' := 60) hx hb ha3 hK hP hD hS hA (by decide) (by decide) (Nat.le_of_ble_eq_true rfl) (Nat.le_of_ble_eq_true rfl) (Nat.le_of_ble_eq_true rfl) dX2_init_7 (fun q1 H hP hD hS => ?_)
  replace hP : va_P G.1 vwCl ([(h0, .inr (2, [.null, .int 0])), (q1, .inl (G.2 0, 60, .inl (fun _ => 0)))]) H := hP
  replace hD : va_D A ([(h0, .inr (2, [.null, .int 0])), (q1, .inl (G.2 0, 60, .inl (fun _ => 0)))]) := hD
  refine W.widen (k := 1) (n := 60) (Nat.le_of_ble_eq_true rfl) (Nat.le_of_ble_eq_true rfl) ?_
  refine va_putF (D := G.1) (ci := 2) (v := .ref q1) (ty := tyX2 0) (C := RX2) (T := TX2) (N := 2) hx hb hts iwX2 tyX2 tyX2_ok nmX2 hown hK hP hD hS 0 rfl rfl 0 (by decide) ha4 (fun _ h9 => h9) rfl hin rfl (by decide +kernel) rfl rfl (Nat.le_of_ble_eq_true rfl) dX2_init_9 (fun H locs hP hD hS => ?_)
  replace hP : va_P G.1 vwCl ([(h0, .inr (2, [.ref q1, .int 0])), (q1, .inl (G.2 0, 60, .inl (fun _ => 0)))]) H := hP
  replace hD : va_D A ([(h0, .inr (2, [.ref q1, .int 0])), (q1, .inl (G.2 0, 60, .inl (fun _ => 0)))]) := hD
  refine lv_aload_n hx hb dX2_init_12 rfl (lv_at hl 0 rfl) ?_
  refine lv_iconst (v := 0) hx hb dX2_init_13 (by decide) ?_
  refine va_put (D := G.1) (ci := 2) (v := .int 0) (ty := .int) (C := RX2) (T := TX2) (N := 2) hx hb hts iwX2 tyX2 tyX2_ok nmX2 hown hK hP hD hS 0 rfl rfl 1 (by decide) ha5 (fun _ h9 => h9) rfl (by decide +kernel) rfl rfl (Nat.le_of_ble_eq_true rfl) dX2_init_14 (fun H locs hP hD hS => ?_)
  replace hP : va_P G.1 vwCl ([(h0, .inr (2, [.ref q1, .int 0])), (q1, .inl (G.2 0, 60, .inl (fun _ => 0)))]) H := hP
  replace hD : va_D A ([(h0, .inr (2, [.ref q1, .int 0])), (q1, .inl (G.2 0, 60, .inl (fun _ => 0)))]) := hD
  obtain ⟨aF, haF⟩ : ∃ aF : Nat → Nat, aF = fun k => if k = 0 then h0 else if k = 1 then q1 else 0 := ⟨_, rfl⟩
  have a0 : aF 0 = h0 := by rw [haF]; rfl
  have a1 : aF 1 = q1 := by rw [haF]; rfl
  have hP9 : va_P G.1 vwCl (wPad G aF ZO) H := by first | (rw [haF] at hP ⊢; exact hP) | (rw [haF]; exact hP)
  have hD9 : va_D A (wPad G aF ZO) := by first | (rw [haF] at hD ⊢; exact hD) | (rw [haF]; exact hD)
  exact W.vret hx hb hr (fun t2 ht2 hW => ⟨⟨aF, rfl, a0, by rw [ht2]; exact hP9, hD9⟩, hS.F ht2⟩) hS.2.2 dX2_init_17
abbrev rmX0_init : Room := { frames := 1, cells := 3, slots := 129, locals := 24 }
set_option maxHeartbeats 8000000 in
set_option maxRecDepth 100000 in
theorem c_X0_init (l : Launch) (G : GT) (t : Nat → Nat) (h0 sz : Nat) : Met l yX0_init wsX0_init rmX0_init (PreN G t [.ref h0] [(h0, .inr (0, [.null, .null, .null, .int 0]))] sz) (QN G (fun ap => wBook G ap BZ) h0 (va_A [(h0, .inr (0, [.null, .null, .null, .int 0]))] sz)) 3 129 (va_A [(h0, .inr (0, [.null, .null, .null, .int 0]))] sz) := by
  refine Met.ofW (cc := cX0_init) (maxL := 1) (ret := none) (by decide) rfl ?_
  intro p e s m args below meth c s₁ Bd hml hv
  obtain ⟨rfl, hsz, hP, hC, hD0, hN, hT0⟩ := hv
  have hx := Bd.exec
  have hb := Bd.bytes
  have hr := Bd.returns
  have hts := atoms_spec (ws := wsX0_init) Bd.pre
  have hown : s.vm.findClass RX0 = some m.cls := findClass_of_methodNamed Bd.named
  have hlocks := Bd.notSynchronized
  have hin : meth.name = "<init>" := (name_of_methodNamed Bd.named Bd.method).1
  have hK := hC.1
  have iwX0 : ∀ w ∈ wsX00, w ∈ wsX0_init := by decide +kernel
  have ha0 := hts (.methodLink RX0 3 objectInit) (by decide +kernel)
  have ha1 := hts (.instanceMethod objectInit) (by decide +kernel)
  have ha2 := hts (.code objectInit ⟨#[0xb1]⟩ 1 none) (by decide +kernel)
  have ha3 := hts (.arrayClass .int) (by decide +kernel)
  have ha4 := hts (.fieldLink RX0 9 "HeadMarks$Book" "signs" "[I") (by decide +kernel)
  have ha5 := hts (.fieldLink RX0 15 "HeadMarks$Book" "broken" "[I") (by decide +kernel)
  have ha6 := hts (.methodLink RX0 21 ⟨"[I", "clone", "()Ljava/lang/Object;"⟩) (by decide +kernel)
  have ha7 := hts (.sameMethod "[I" "java/lang/Object" "clone" "()Ljava/lang/Object;") (by decide +kernel)
  have ha8 := hts (.native ⟨"java/lang/Object", "clone", "()Ljava/lang/Object;"⟩) (by decide +kernel)
  have ha9 := hts (.instanceMethod ⟨"java/lang/Object", "clone", "()Ljava/lang/Object;"⟩) (by decide +kernel)
  have ha10 := hts (.selects "[I" ⟨"[I", "clone", "()Ljava/lang/Object;"⟩ ⟨"java/lang/Object", "clone", "()Ljava/lang/Object;"⟩) (by decide +kernel)
  have ha11 := hts (.classLink RX0 22 "[I") (by decide +kernel)
  have ha12 := hts (.fieldLink RX0 26 "HeadMarks$Book" "rules" "[I") (by decide +kernel)
  have ha13 := hts (.fieldLink RX0 29 "HeadMarks$Book" "lines" "I") (by decide +kernel)
  subst hsz
  have hD := hD0.self (sz := s.heap.size)
  generalize hAe : va_A [(h0, .inr (0, [.null, .null, .null, .int 0]))] s.heap.size = A at hD hT0 ⊢
  have hA : ∀ q : Nat, s.heap.size ≤ q → A q := fun q h => by rw [← hAe]; exact Or.inr h
  have hS : va_S A s.heap s.heap [] := va_S.rf
  have hl := lv_entry [.ref h0] (n := 1) (Nat.le_of_ble_eq_true rfl)
  rw [lg_entry_eq]
  generalize (lg_sl [.ref h0] ++ List.replicate (1 - (lg_sl [.ref h0]).length) Slot.unset).toArray = ls at hl ⊢
  have hl : lv_has ls 1 [(0, .ref h0)] := hl
  refine lv_aload_n hx hb dX0_init_0 rfl (lv_at hl 0 rfl) ?_
  refine W.objInit hx hb hown ha0 ha1 ha2 rfl (by rw [hml]; exact hl.1) rfl dX0_init_1 (Nat.le_of_ble_eq_true rfl) (Nat.le_of_ble_eq_true rfl) ?_
  refine W.eq (g2 := F0 m 4 ls []) rfl ?_
  refine lv_aload_n hx hb dX0_init_4 rfl (lv_at hl 0 rfl) ?_
  refine lv_bipush (v := 60) hx hb dX0_init_5 (by decide) ?_
  refine y_newi (N' := 60) hx hb ha3 hK hP hD hS hA (by decide) (by decide) (Nat.le_of_ble_eq_true rfl) (Nat.le_of_ble_eq_true rfl) (Nat.le_of_ble_eq_true rfl) dX0_init_7 (fun q1 H hP hD hS => ?_)
  replace hP : va_P G.1 vwCl ([(h0, .inr (0, [.null, .null, .null, .int 0])), (q1, .inl (G.2 0, 60, .inl (fun _ => 0)))]) H := hP
  replace hD : va_D A ([(h0, .inr (0, [.null, .null, .null, .int 0])), (q1, .inl (G.2 0, 60, .inl (fun _ => 0)))]) := hD
  refine W.widen (k := 1) (n := 60) (Nat.le_of_ble_eq_true rfl) (Nat.le_of_ble_eq_true rfl) ?_
  refine va_putF (D := G.1) (ci := 0) (v := .ref q1) (ty := tyX0 0) (C := RX0) (T := TX0) (N := 4) hx hb hts iwX0 tyX0 tyX0_ok nmX0 hown hK hP hD hS 0 rfl rfl 0 (by decide) ha4 (fun _ h9 => h9) rfl hin rfl (by decide +kernel) rfl rfl (Nat.le_of_ble_eq_true rfl) dX0_init_9 (fun H locs hP hD hS => ?_)
  replace hP : va_P G.1 vwCl ([(h0, .inr (0, [.ref q1, .null, .null, .int 0])), (q1, .inl (G.2 0, 60, .inl (fun _ => 0)))]) H := hP
  replace hD : va_D A ([(h0, .inr (0, [.ref q1, .null, .null, .int 0])), (q1, .inl (G.2 0, 60, .inl (fun _ => 0)))]) := hD
  refine lv_aload_n hx hb dX0_init_12 rfl (lv_at hl 0 rfl) ?_
  refine lv_bipush (v := 60) hx hb dX0_init_13 (by decide) ?_
  refine y_newi (N' := 60) hx hb ha3 hK hP hD hS hA (by decide) (by decide) (Nat.le_of_ble_eq_true rfl) (Nat.le_of_ble_eq_true rfl) (Nat.le_of_ble_eq_true rfl) dX0_init_15 (fun q2 H hP hD hS => ?_)
  replace hP : va_P G.1 vwCl ([(h0, .inr (0, [.ref q1, .null, .null, .int 0])), (q1, .inl (G.2 0, 60, .inl (fun _ => 0))), (q2, .inl (G.2 0, 60, .inl (fun _ => 0)))]) H := hP
  replace hD : va_D A ([(h0, .inr (0, [.ref q1, .null, .null, .int 0])), (q1, .inl (G.2 0, 60, .inl (fun _ => 0))), (q2, .inl (G.2 0, 60, .inl (fun _ => 0)))]) := hD
  refine W.widen (k := 2) (n := 120) (Nat.le_of_ble_eq_true rfl) (Nat.le_of_ble_eq_true rfl) ?_
  refine va_putF (D := G.1) (ci := 0) (v := .ref q2) (ty := tyX0 1) (C := RX0) (T := TX0) (N := 4) hx hb hts iwX0 tyX0 tyX0_ok nmX0 hown hK hP hD hS 0 rfl rfl 1 (by decide) ha5 (fun _ h9 => h9) rfl hin rfl (by decide +kernel) rfl rfl (Nat.le_of_ble_eq_true rfl) dX0_init_17 (fun H locs hP hD hS => ?_)
  replace hP : va_P G.1 vwCl ([(h0, .inr (0, [.ref q1, .ref q2, .null, .int 0])), (q1, .inl (G.2 0, 60, .inl (fun _ => 0))), (q2, .inl (G.2 0, 60, .inl (fun _ => 0)))]) H := hP
  replace hD : va_D A ([(h0, .inr (0, [.ref q1, .ref q2, .null, .int 0])), (q1, .inl (G.2 0, 60, .inl (fun _ => 0))), (q2, .inl (G.2 0, 60, .inl (fun _ => 0)))]) := hD
  refine lv_aload_n hx hb dX0_init_20 rfl (lv_at hl 0 rfl) ?_
  refine va_getsN hx hb hT0.1 hS hown (va_Nw.use rfl hN.2.2.2.1) (fun _ h9 => h9) dX0_init_21 ?_
  refine y_cloneT hx hb (by rw [hml]; exact hl.1.symm) hown ha6 ha7 ha8 ha9 ha10 hN.2.2.2.2.1 hK hP hD hS hA hT0 (Nat.le_of_ble_eq_true rfl) (Nat.le_of_ble_eq_true rfl) (Nat.le_of_ble_eq_true rfl) (Nat.le_of_ble_eq_true rfl) dX0_init_24 (fun q3 H hP hD hS => ?_)
  replace hP : va_P G.1 vwCl ([(h0, .inr (0, [.ref q1, .ref q2, .null, .int 0])), (q1, .inl (G.2 0, 60, .inl (fun _ => 0))), (q2, .inl (G.2 0, 60, .inl (fun _ => 0))), (q3, .inl (G.2 0, 9, .inl tFirst))]) H := hP
  replace hD : va_D A ([(h0, .inr (0, [.ref q1, .ref q2, .null, .int 0])), (q1, .inl (G.2 0, 60, .inl (fun _ => 0))), (q2, .inl (G.2 0, 60, .inl (fun _ => 0))), (q3, .inl (G.2 0, 9, .inl tFirst))]) := hD
  refine W.widen (k := 3) (n := 129) (Nat.le_of_ble_eq_true rfl) (Nat.le_of_ble_eq_true rfl) ?_
  refine va_castA hx hb hown ha11 hP 3 rfl (hK.2 0 _ rfl).2 dX0_init_27 ?_
  refine va_putF (D := G.1) (ci := 0) (v := .ref q3) (ty := tyX0 2) (C := RX0) (T := TX0) (N := 4) hx hb hts iwX0 tyX0 tyX0_ok nmX0 hown hK hP hD hS 0 rfl rfl 2 (by decide) ha12 (fun _ h9 => h9) rfl hin rfl (by decide +kernel) rfl rfl (Nat.le_of_ble_eq_true rfl) dX0_init_30 (fun H locs hP hD hS => ?_)
  replace hP : va_P G.1 vwCl ([(h0, .inr (0, [.ref q1, .ref q2, .ref q3, .int 0])), (q1, .inl (G.2 0, 60, .inl (fun _ => 0))), (q2, .inl (G.2 0, 60, .inl (fun _ => 0))), (q3, .inl (G.2 0, 9, .inl tFirst))]) H := hP
  replace hD : va_D A ([(h0, .inr (0, [.ref q1, .ref q2, .ref q3, .int 0])), (q1, .inl (G.2 0, 60, .inl (fun _ => 0))), (q2, .inl (G.2 0, 60, .inl (fun _ => 0))), (q3, .inl (G.2 0, 9, .inl tFirst))]) := hD
  refine lv_aload_n hx hb dX0_init_33 rfl (lv_at hl 0 rfl) ?_
  refine lv_iconst (v := 0) hx hb dX0_init_34 (by decide) ?_
  refine va_put (D := G.1) (ci := 0) (v := .int 0) (ty := .int) (C := RX0) (T := TX0) (N := 4) hx hb hts iwX0 tyX0 tyX0_ok nmX0 hown hK hP hD hS 0 rfl rfl 3 (by decide) ha13 (fun _ h9 => h9) rfl (by decide +kernel) rfl rfl (Nat.le_of_ble_eq_true rfl) dX0_init_35 (fun H locs hP hD hS => ?_)
  replace hP : va_P G.1 vwCl ([(h0, .inr (0, [.ref q1, .ref q2, .ref q3, .int 0])), (q1, .inl (G.2 0, 60, .inl (fun _ => 0))), (q2, .inl (G.2 0, 60, .inl (fun _ => 0))), (q3, .inl (G.2 0, 9, .inl tFirst))]) H := hP
  replace hD : va_D A ([(h0, .inr (0, [.ref q1, .ref q2, .ref q3, .int 0])), (q1, .inl (G.2 0, 60, .inl (fun _ => 0))), (q2, .inl (G.2 0, 60, .inl (fun _ => 0))), (q3, .inl (G.2 0, 9, .inl tFirst))]) := hD
  obtain ⟨aF, haF⟩ : ∃ aF : Nat → Nat, aF = fun k => if k = 0 then h0 else if k = 1 then q1 else if k = 2 then q2 else if k = 3 then q3 else 0 := ⟨_, rfl⟩
  have a0 : aF 0 = h0 := by rw [haF]; rfl
  have a1 : aF 1 = q1 := by rw [haF]; rfl
  have a2 : aF 2 = q2 := by rw [haF]; rfl
  have a3 : aF 3 = q3 := by rw [haF]; rfl
  have hP9 : va_P G.1 vwCl (wBook G aF BZ) H := by first | (rw [haF] at hP ⊢; exact hP) | (rw [haF]; exact hP)
  have hD9 : va_D A (wBook G aF BZ) := by first | (rw [haF] at hD ⊢; exact hD) | (rw [haF]; exact hD)
  exact W.vret hx hb hr (fun t2 ht2 hW => ⟨⟨aF, rfl, a0, by rw [ht2]; exact hP9, hD9⟩, hS.F ht2⟩) hS.2.2 dX0_init_38
abbrev rmX1_init : Room := { frames := 1, cells := 11, slots := 844, locals := 12 }
set_option maxHeartbeats 8000000 in
set_option maxRecDepth 100000 in
theorem c_X1_init (l : Launch) (G : GT) (t : Nat → Nat) (h0 sz : Nat) : Met l yX1_init wsX1_init rmX1_init (PreN G t [.ref h0] [(h0, .inr (1, [.null, .null, .null, .null, .null, .null, .null, .int 0, .int 0]))] sz) (QN G (fun ap => wLay G ap ZO) h0 (va_A [(h0, .inr (1, [.null, .null, .null, .null, .null, .null, .null, .int 0, .int 0]))] sz)) 11 844 (va_A [(h0, .inr (1, [.null, .null, .null, .null, .null, .null, .null, .int 0, .int 0]))] sz) := by
  refine Met.ofW (cc := cX1_init) (maxL := 1) (ret := none) (by decide) rfl ?_
  intro p e s m args below meth c s₁ Bd hml hv
  obtain ⟨rfl, hsz, hP, hC, hD0, hN, hT0⟩ := hv
  have hx := Bd.exec
  have hb := Bd.bytes
  have hr := Bd.returns
  have hts := atoms_spec (ws := wsX1_init) Bd.pre
  have hown : s.vm.findClass RX1 = some m.cls := findClass_of_methodNamed Bd.named
  have hlocks := Bd.notSynchronized
  have hin : meth.name = "<init>" := (name_of_methodNamed Bd.named Bd.method).1
  have hK := hC.1
  have iwX1 : ∀ w ∈ wsX10, w ∈ wsX1_init := by decide +kernel
  have ha0 := hts (.methodLink RX1 3 objectInit) (by decide +kernel)
  have ha1 := hts (.instanceMethod objectInit) (by decide +kernel)
  have ha2 := hts (.code objectInit ⟨#[0xb1]⟩ 1 none) (by decide +kernel)
  have ha3 := hts (.arrayClass .int) (by decide +kernel)
  have ha4 := hts (.fieldLink RX1 9 "HeadMarks$Layout" "pageOf" "[I") (by decide +kernel)
  have ha5 := hts (.fieldLink RX1 15 "HeadMarks$Layout" "chapterOf" "[I") (by decide +kernel)
  have ha6 := hts (.classLink RX1 18 "[[I") (by decide +kernel)
  have ha7 := hts (.fieldLink RX1 20 "HeadMarks$Layout" "inForce" "[[I") (by decide +kernel)
  have ha8 := hts (.fieldLink RX1 23 "HeadMarks$Layout" "linesAhead" "[I") (by decide +kernel)
  have ha9 := hts (.fieldLink RX1 26 "HeadMarks$Layout" "linesOn" "[I") (by decide +kernel)
  have ha10 := hts (.fieldLink RX1 29 "HeadMarks$Layout" "ownFirst" "[[I") (by decide +kernel)
  have ha11 := hts (.fieldLink RX1 32 "HeadMarks$Layout" "heads" "[I") (by decide +kernel)
  have ha12 := hts (.fieldLink RX1 35 "HeadMarks$Layout" "lines" "I") (by decide +kernel)
  have ha13 := hts (.fieldLink RX1 39 "HeadMarks$Layout" "pages" "I") (by decide +kernel)
  subst hsz
  have hD := hD0.self (sz := s.heap.size)
  generalize hAe : va_A [(h0, .inr (1, [.null, .null, .null, .null, .null, .null, .null, .int 0, .int 0]))] s.heap.size = A at hD hT0 ⊢
  have hA : ∀ q : Nat, s.heap.size ≤ q → A q := fun q h => by rw [← hAe]; exact Or.inr h
  have hS : va_S A s.heap s.heap [] := va_S.rf
  have hl := lv_entry [.ref h0] (n := 1) (Nat.le_of_ble_eq_true rfl)
  rw [lg_entry_eq]
  generalize (lg_sl [.ref h0] ++ List.replicate (1 - (lg_sl [.ref h0]).length) Slot.unset).toArray = ls at hl ⊢
  have hl : lv_has ls 1 [(0, .ref h0)] := hl
  refine lv_aload_n hx hb dX1_init_0 rfl (lv_at hl 0 rfl) ?_
  refine W.objInit hx hb hown ha0 ha1 ha2 rfl (by rw [hml]; exact hl.1) rfl dX1_init_1 (Nat.le_of_ble_eq_true rfl) (Nat.le_of_ble_eq_true rfl) ?_
  refine W.eq (g2 := F0 m 4 ls []) rfl ?_
  refine lv_aload_n hx hb dX1_init_4 rfl (lv_at hl 0 rfl) ?_
  refine lv_bipush (v := 60) hx hb dX1_init_5 (by decide) ?_
  refine y_newi (N' := 60) hx hb ha3 hK hP hD hS hA (by decide) (by decide) (Nat.le_of_ble_eq_true rfl) (Nat.le_of_ble_eq_true rfl) (Nat.le_of_ble_eq_true rfl) dX1_init_7 (fun q1 H hP hD hS => ?_)
  replace hP : va_P G.1 vwCl ([(h0, .inr (1, [.null, .null, .null, .null, .null, .null, .null, .int 0, .int 0])), (q1, .inl (G.2 0, 60, .inl (fun _ => 0)))]) H := hP
  replace hD : va_D A ([(h0, .inr (1, [.null, .null, .null, .null, .null, .null, .null, .int 0, .int 0])), (q1, .inl (G.2 0, 60, .inl (fun _ => 0)))]) := hD
  refine W.widen (k := 1) (n := 60) (Nat.le_of_ble_eq_true rfl) (Nat.le_of_ble_eq_true rfl) ?_
  refine va_putF (D := G.1) (ci := 1) (v := .ref q1) (ty := tyX1 0) (C := RX1) (T := TX1) (N := 9) hx hb hts iwX1 tyX1 tyX1_ok nmX1 hown hK hP hD hS 0 rfl rfl 0 (by decide) ha4 (fun _ h9 => h9) rfl hin rfl (by decide +kernel) rfl rfl (Nat.le_of_ble_eq_true rfl) dX1_init_9 (fun H locs hP hD hS => ?_)
  replace hP : va_P G.1 vwCl ([(h0, .inr (1, [.ref q1, .null, .null, .null, .null, .null, .null, .int 0, .int 0])), (q1, .inl (G.2 0, 60, .inl (fun _ => 0)))]) H := hP
  replace hD : va_D A ([(h0, .inr (1, [.ref q1, .null, .null, .null, .null, .null, .null, .int 0, .int 0])), (q1, .inl (G.2 0, 60, .inl (fun _ => 0)))]) := hD
  refine lv_aload_n hx hb dX1_init_12 rfl (lv_at hl 0 rfl) ?_
  refine lv_bipush (v := 60) hx hb dX1_init_13 (by decide) ?_
  refine y_newi (N' := 60) hx hb ha3 hK hP hD hS hA (by decide) (by decide) (Nat.le_of_ble_eq_true rfl) (Nat.le_of_ble_eq_true rfl) (Nat.le_of_ble_eq_true rfl) dX1_init_15 (fun q2 H hP hD hS => ?_)
  replace hP : va_P G.1 vwCl ([(h0, .inr (1, [.ref q1, .null, .null, .null, .null, .null, .null, .int 0, .int 0])), (q1, .inl (G.2 0, 60, .inl (fun _ => 0))), (q2, .inl (G.2 0, 60, .inl (fun _ => 0)))]) H := hP
  replace hD : va_D A ([(h0, .inr (1, [.ref q1, .null, .null, .null, .null, .null, .null, .int 0, .int 0])), (q1, .inl (G.2 0, 60, .inl (fun _ => 0))), (q2, .inl (G.2 0, 60, .inl (fun _ => 0)))]) := hD
  refine W.widen (k := 2) (n := 120) (Nat.le_of_ble_eq_true rfl) (Nat.le_of_ble_eq_true rfl) ?_
  refine va_putF (D := G.1) (ci := 1) (v := .ref q2) (ty := tyX1 1) (C := RX1) (T := TX1) (N := 9) hx hb hts iwX1 tyX1 tyX1_ok nmX1 hown hK hP hD hS 0 rfl rfl 1 (by decide) ha5 (fun _ h9 => h9) rfl hin rfl (by decide +kernel) rfl rfl (Nat.le_of_ble_eq_true rfl) dX1_init_17 (fun H locs hP hD hS => ?_)
  replace hP : va_P G.1 vwCl ([(h0, .inr (1, [.ref q1, .ref q2, .null, .null, .null, .null, .null, .int 0, .int 0])), (q1, .inl (G.2 0, 60, .inl (fun _ => 0))), (q2, .inl (G.2 0, 60, .inl (fun _ => 0)))]) H := hP
  replace hD : va_D A ([(h0, .inr (1, [.ref q1, .ref q2, .null, .null, .null, .null, .null, .int 0, .int 0])), (q1, .inl (G.2 0, 60, .inl (fun _ => 0))), (q2, .inl (G.2 0, 60, .inl (fun _ => 0)))]) := hD
  refine lv_aload_n hx hb dX1_init_20 rfl (lv_at hl 0 rfl) ?_
  refine lv_iconst (v := 2) hx hb dX1_init_21 (by decide) ?_
  refine lv_bipush (v := 60) hx hb dX1_init_22 (by decide) ?_
  refine y_mna (K' := 60) hx hb hown ha6 hN.2.2.2.2.2.2 ha3 hK hP hD hS hA (by decide) (by decide) (Nat.le_of_ble_eq_true rfl) (Nat.le_of_ble_eq_true rfl) (Nat.le_of_ble_eq_true rfl) (Nat.le_of_ble_eq_true rfl) dX1_init_24 (fun q3 r4 H hP hD hS => ?_)
  replace hP : va_P G.1 vwCl ([(h0, .inr (1, [.ref q1, .ref q2, .null, .null, .null, .null, .null, .int 0, .int 0])), (q1, .inl (G.2 0, 60, .inl (fun _ => 0))), (q2, .inl (G.2 0, 60, .inl (fun _ => 0))), (q3, .inl (G.2 3, 2, .inr (.inr (.inr (.inr (fun i => if i < 2 then some (r4 i) else none)))))), (r4 0, .inl (G.2 0, 60, .inl (fun _ => 0))), (r4 1, .inl (G.2 0, 60, .inl (fun _ => 0)))]) H := hP
  replace hD : va_D A ([(h0, .inr (1, [.ref q1, .ref q2, .null, .null, .null, .null, .null, .int 0, .int 0])), (q1, .inl (G.2 0, 60, .inl (fun _ => 0))), (q2, .inl (G.2 0, 60, .inl (fun _ => 0))), (q3, .inl (G.2 3, 2, .inr (.inr (.inr (.inr (fun i => if i < 2 then some (r4 i) else none)))))), (r4 0, .inl (G.2 0, 60, .inl (fun _ => 0))), (r4 1, .inl (G.2 0, 60, .inl (fun _ => 0)))]) := hD
  refine W.widen (k := 5) (n := 242) (Nat.le_of_ble_eq_true rfl) (Nat.le_of_ble_eq_true rfl) ?_
  refine va_putF (D := G.1) (ci := 1) (v := .ref q3) (ty := tyX1 2) (C := RX1) (T := TX1) (N := 9) hx hb hts iwX1 tyX1 tyX1_ok nmX1 hown hK hP hD hS 0 rfl rfl 2 (by decide) ha7 (fun _ h9 => h9) rfl hin rfl (by decide +kernel) rfl rfl (Nat.le_of_ble_eq_true rfl) dX1_init_28 (fun H locs hP hD hS => ?_)
  replace hP : va_P G.1 vwCl ([(h0, .inr (1, [.ref q1, .ref q2, .ref q3, .null, .null, .null, .null, .int 0, .int 0])), (q1, .inl (G.2 0, 60, .inl (fun _ => 0))), (q2, .inl (G.2 0, 60, .inl (fun _ => 0))), (q3, .inl (G.2 3, 2, .inr (.inr (.inr (.inr (fun i => if i < 2 then some (r4 i) else none)))))), (r4 0, .inl (G.2 0, 60, .inl (fun _ => 0))), (r4 1, .inl (G.2 0, 60, .inl (fun _ => 0)))]) H := hP
  replace hD : va_D A ([(h0, .inr (1, [.ref q1, .ref q2, .ref q3, .null, .null, .null, .null, .int 0, .int 0])), (q1, .inl (G.2 0, 60, .inl (fun _ => 0))), (q2, .inl (G.2 0, 60, .inl (fun _ => 0))), (q3, .inl (G.2 3, 2, .inr (.inr (.inr (.inr (fun i => if i < 2 then some (r4 i) else none)))))), (r4 0, .inl (G.2 0, 60, .inl (fun _ => 0))), (r4 1, .inl (G.2 0, 60, .inl (fun _ => 0)))]) := hD
  refine lv_aload_n hx hb dX1_init_31 rfl (lv_at hl 0 rfl) ?_
  refine lv_bipush (v := 120) hx hb dX1_init_32 (by decide) ?_
  refine y_newi (N' := 120) hx hb ha3 hK hP hD hS hA (by decide) (by decide) (Nat.le_of_ble_eq_true rfl) (Nat.le_of_ble_eq_true rfl) (Nat.le_of_ble_eq_true rfl) dX1_init_34 (fun q5 H hP hD hS => ?_)
  replace hP : va_P G.1 vwCl ([(h0, .inr (1, [.ref q1, .ref q2, .ref q3, .null, .null, .null, .null, .int 0, .int 0])), (q1, .inl (G.2 0, 60, .inl (fun _ => 0))), (q2, .inl (G.2 0, 60, .inl (fun _ => 0))), (q3, .inl (G.2 3, 2, .inr (.inr (.inr (.inr (fun i => if i < 2 then some (r4 i) else none)))))), (r4 0, .inl (G.2 0, 60, .inl (fun _ => 0))), (r4 1, .inl (G.2 0, 60, .inl (fun _ => 0))), (q5, .inl (G.2 0, 120, .inl (fun _ => 0)))]) H := hP
  replace hD : va_D A ([(h0, .inr (1, [.ref q1, .ref q2, .ref q3, .null, .null, .null, .null, .int 0, .int 0])), (q1, .inl (G.2 0, 60, .inl (fun _ => 0))), (q2, .inl (G.2 0, 60, .inl (fun _ => 0))), (q3, .inl (G.2 3, 2, .inr (.inr (.inr (.inr (fun i => if i < 2 then some (r4 i) else none)))))), (r4 0, .inl (G.2 0, 60, .inl (fun _ => 0))), (r4 1, .inl (G.2 0, 60, .inl (fun _ => 0))), (q5, .inl (G.2 0, 120, .inl (fun _ => 0)))]) := hD
  refine W.widen (k := 6) (n := 362) (Nat.le_of_ble_eq_true rfl) (Nat.le_of_ble_eq_true rfl) ?_
  refine va_putF (D := G.1) (ci := 1) (v := .ref q5) (ty := tyX1 3) (C := RX1) (T := TX1) (N := 9) hx hb hts iwX1 tyX1 tyX1_ok nmX1 hown hK hP hD hS 0 rfl rfl 3 (by decide) ha8 (fun _ h9 => h9) rfl hin rfl (by decide +kernel) rfl rfl (Nat.le_of_ble_eq_true rfl) dX1_init_36 (fun H locs hP hD hS => ?_)
  replace hP : va_P G.1 vwCl ([(h0, .inr (1, [.ref q1, .ref q2, .ref q3, .ref q5, .null, .null, .null, .int 0, .int 0])), (q1, .inl (G.2 0, 60, .inl (fun _ => 0))), (q2, .inl (G.2 0, 60, .inl (fun _ => 0))), (q3, .inl (G.2 3, 2, .inr (.inr (.inr (.inr (fun i => if i < 2 then some (r4 i) else none)))))), (r4 0, .inl (G.2 0, 60, .inl (fun _ => 0))), (r4 1, .inl (G.2 0, 60, .inl (fun _ => 0))), (q5, .inl (G.2 0, 120, .inl (fun _ => 0)))]) H := hP
  replace hD : va_D A ([(h0, .inr (1, [.ref q1, .ref q2, .ref q3, .ref q5, .null, .null, .null, .int 0, .int 0])), (q1, .inl (G.2 0, 60, .inl (fun _ => 0))), (q2, .inl (G.2 0, 60, .inl (fun _ => 0))), (q3, .inl (G.2 3, 2, .inr (.inr (.inr (.inr (fun i => if i < 2 then some (r4 i) else none)))))), (r4 0, .inl (G.2 0, 60, .inl (fun _ => 0))), (r4 1, .inl (G.2 0, 60, .inl (fun _ => 0))), (q5, .inl (G.2 0, 120, .inl (fun _ => 0)))]) := hD
  refine lv_aload_n hx hb dX1_init_39 rfl (lv_at hl 0 rfl) ?_
  refine lv_bipush (v := 120) hx hb dX1_init_40 (by decide) ?_
  refine y_newi (N' := 120) hx hb ha3 hK hP hD hS hA (by decide) (by decide) (Nat.le_of_ble_eq_true rfl) (Nat.le_of_ble_eq_true rfl) (Nat.le_of_ble_eq_true rfl) dX1_init_42 (fun q6 H hP hD hS => ?_)
  replace hP : va_P G.1 vwCl ([(h0, .inr (1, [.ref q1, .ref q2, .ref q3, .ref q5, .null, .null, .null, .int 0, .int 0])), (q1, .inl (G.2 0, 60, .inl (fun _ => 0))), (q2, .inl (G.2 0, 60, .inl (fun _ => 0))), (q3, .inl (G.2 3, 2, .inr (.inr (.inr (.inr (fun i => if i < 2 then some (r4 i) else none)))))), (r4 0, .inl (G.2 0, 60, .inl (fun _ => 0))), (r4 1, .inl (G.2 0, 60, .inl (fun _ => 0))), (q5, .inl (G.2 0, 120, .inl (fun _ => 0))), (q6, .inl (G.2 0, 120, .inl (fun _ => 0)))]) H := hP
  replace hD : va_D A ([(h0, .inr (1, [.ref q1, .ref q2, .ref q3, .ref q5, .null, .null, .null, .int 0, .int 0])), (q1, .inl (G.2 0, 60, .inl (fun _ => 0))), (q2, .inl (G.2 0, 60, .inl (fun _ => 0))), (q3, .inl (G.2 3, 2, .inr (.inr (.inr (.inr (fun i => if i < 2 then some (r4 i) else none)))))), (r4 0, .inl (G.2 0, 60, .inl (fun _ => 0))), (r4 1, .inl (G.2 0, 60, .inl (fun _ => 0))), (q5, .inl (G.2 0, 120, .inl (fun _ => 0))), (q6, .inl (G.2 0, 120, .inl (fun _ => 0)))]) := hD
  refine W.widen (k := 7) (n := 482) (Nat.le_of_ble_eq_true rfl) (Nat.le_of_ble_eq_true rfl) ?_
  refine va_putF (D := G.1) (ci := 1) (v := .ref q6) (ty := tyX1 4) (C := RX1) (T := TX1) (N := 9) hx hb hts iwX1 tyX1 tyX1_ok nmX1 hown hK hP hD hS 0 rfl rfl 4 (by decide) ha9 (fun _ h9 => h9) rfl hin rfl (by decide +kernel) rfl rfl (Nat.le_of_ble_eq_true rfl) dX1_init_44 (fun H locs hP hD hS => ?_)
  replace hP : va_P G.1 vwCl ([(h0, .inr (1, [.ref q1, .ref q2, .ref q3, .ref q5, .ref q6, .null, .null, .int 0, .int 0])), (q1, .inl (G.2 0, 60, .inl (fun _ => 0))), (q2, .inl (G.2 0, 60, .inl (fun _ => 0))), (q3, .inl (G.2 3, 2, .inr (.inr (.inr (.inr (fun i => if i < 2 then some (r4 i) else none)))))), (r4 0, .inl (G.2 0, 60, .inl (fun _ => 0))), (r4 1, .inl (G.2 0, 60, .inl (fun _ => 0))), (q5, .inl (G.2 0, 120, .inl (fun _ => 0))), (q6, .inl (G.2 0, 120, .inl (fun _ => 0)))]) H := hP
  replace hD : va_D A ([(h0, .inr (1, [.ref q1, .ref q2, .ref q3, .ref q5, .ref q6, .null, .null, .int 0, .int 0])), (q1, .inl (G.2 0, 60, .inl (fun _ => 0))), (q2, .inl (G.2 0, 60, .inl (fun _ => 0))), (q3, .inl (G.2 3, 2, .inr (.inr (.inr (.inr (fun i => if i < 2 then some (r4 i) else none)))))), (r4 0, .inl (G.2 0, 60, .inl (fun _ => 0))), (r4 1, .inl (G.2 0, 60, .inl (fun _ => 0))), (q5, .inl (G.2 0, 120, .inl (fun _ => 0))), (q6, .inl (G.2 0, 120, .inl (fun _ => 0)))]) := hD
  refine lv_aload_n hx hb dX1_init_47 rfl (lv_at hl 0 rfl) ?_
  refine lv_iconst (v := 2) hx hb dX1_init_48 (by decide) ?_
  refine lv_bipush (v := 120) hx hb dX1_init_49 (by decide) ?_
  refine y_mna (K' := 120) hx hb hown ha6 hN.2.2.2.2.2.2 ha3 hK hP hD hS hA (by decide) (by decide) (Nat.le_of_ble_eq_true rfl) (Nat.le_of_ble_eq_true rfl) (Nat.le_of_ble_eq_true rfl) (Nat.le_of_ble_eq_true rfl) dX1_init_51 (fun q7 r8 H hP hD hS => ?_)
  replace hP : va_P G.1 vwCl ([(h0, .inr (1, [.ref q1, .ref q2, .ref q3, .ref q5, .ref q6, .null, .null, .int 0, .int 0])), (q1, .inl (G.2 0, 60, .inl (fun _ => 0))), (q2, .inl (G.2 0, 60, .inl (fun _ => 0))), (q3, .inl (G.2 3, 2, .inr (.inr (.inr (.inr (fun i => if i < 2 then some (r4 i) else none)))))), (r4 0, .inl (G.2 0, 60, .inl (fun _ => 0))), (r4 1, .inl (G.2 0, 60, .inl (fun _ => 0))), (q5, .inl (G.2 0, 120, .inl (fun _ => 0))), (q6, .inl (G.2 0, 120, .inl (fun _ => 0))), (q7, .inl (G.2 3, 2, .inr (.inr (.inr (.inr (fun i => if i < 2 then some (r8 i) else none)))))), (r8 0, .inl (G.2 0, 120, .inl (fun _ => 0))), (r8 1, .inl (G.2 0, 120, .inl (fun _ => 0)))]) H := hP
  replace hD : va_D A ([(h0, .inr (1, [.ref q1, .ref q2, .ref q3, .ref q5, .ref q6, .null, .null, .int 0, .int 0])), (q1, .inl (G.2 0, 60, .inl (fun _ => 0))), (q2, .inl (G.2 0, 60, .inl (fun _ => 0))), (q3, .inl (G.2 3, 2, .inr (.inr (.inr (.inr (fun i => if i < 2 then some (r4 i) else none)))))), (r4 0, .inl (G.2 0, 60, .inl (fun _ => 0))), (r4 1, .inl (G.2 0, 60, .inl (fun _ => 0))), (q5, .inl (G.2 0, 120, .inl (fun _ => 0))), (q6, .inl (G.2 0, 120, .inl (fun _ => 0))), (q7, .inl (G.2 3, 2, .inr (.inr (.inr (.inr (fun i => if i < 2 then some (r8 i) else none)))))), (r8 0, .inl (G.2 0, 120, .inl (fun _ => 0))), (r8 1, .inl (G.2 0, 120, .inl (fun _ => 0)))]) := hD
  refine W.widen (k := 10) (n := 724) (Nat.le_of_ble_eq_true rfl) (Nat.le_of_ble_eq_true rfl) ?_
  refine va_putF (D := G.1) (ci := 1) (v := .ref q7) (ty := tyX1 5) (C := RX1) (T := TX1) (N := 9) hx hb hts iwX1 tyX1 tyX1_ok nmX1 hown hK hP hD hS 0 rfl rfl 5 (by decide) ha10 (fun _ h9 => h9) rfl hin rfl (by decide +kernel) rfl rfl (Nat.le_of_ble_eq_true rfl) dX1_init_55 (fun H locs hP hD hS => ?_)
  replace hP : va_P G.1 vwCl ([(h0, .inr (1, [.ref q1, .ref q2, .ref q3, .ref q5, .ref q6, .ref q7, .null, .int 0, .int 0])), (q1, .inl (G.2 0, 60, .inl (fun _ => 0))), (q2, .inl (G.2 0, 60, .inl (fun _ => 0))), (q3, .inl (G.2 3, 2, .inr (.inr (.inr (.inr (fun i => if i < 2 then some (r4 i) else none)))))), (r4 0, .inl (G.2 0, 60, .inl (fun _ => 0))), (r4 1, .inl (G.2 0, 60, .inl (fun _ => 0))), (q5, .inl (G.2 0, 120, .inl (fun _ => 0))), (q6, .inl (G.2 0, 120, .inl (fun _ => 0))), (q7, .inl (G.2 3, 2, .inr (.inr (.inr (.inr (fun i => if i < 2 then some (r8 i) else none)))))), (r8 0, .inl (G.2 0, 120, .inl (fun _ => 0))), (r8 1, .inl (G.2 0, 120, .inl (fun _ => 0)))]) H := hP
  replace hD : va_D A ([(h0, .inr (1, [.ref q1, .ref q2, .ref q3, .ref q5, .ref q6, .ref q7, .null, .int 0, .int 0])), (q1, .inl (G.2 0, 60, .inl (fun _ => 0))), (q2, .inl (G.2 0, 60, .inl (fun _ => 0))), (q3, .inl (G.2 3, 2, .inr (.inr (.inr (.inr (fun i => if i < 2 then some (r4 i) else none)))))), (r4 0, .inl (G.2 0, 60, .inl (fun _ => 0))), (r4 1, .inl (G.2 0, 60, .inl (fun _ => 0))), (q5, .inl (G.2 0, 120, .inl (fun _ => 0))), (q6, .inl (G.2 0, 120, .inl (fun _ => 0))), (q7, .inl (G.2 3, 2, .inr (.inr (.inr (.inr (fun i => if i < 2 then some (r8 i) else none)))))), (r8 0, .inl (G.2 0, 120, .inl (fun _ => 0))), (r8 1, .inl (G.2 0, 120, .inl (fun _ => 0)))]) := hD
  refine lv_aload_n hx hb dX1_init_58 rfl (lv_at hl 0 rfl) ?_
  refine lv_bipush (v := 120) hx hb dX1_init_59 (by decide) ?_
  refine y_newi (N' := 120) hx hb ha3 hK hP hD hS hA (by decide) (by decide) (Nat.le_of_ble_eq_true rfl) (Nat.le_of_ble_eq_true rfl) (Nat.le_of_ble_eq_true rfl) dX1_init_61 (fun q9 H hP hD hS => ?_)
  replace hP : va_P G.1 vwCl ([(h0, .inr (1, [.ref q1, .ref q2, .ref q3, .ref q5, .ref q6, .ref q7, .null, .int 0, .int 0])), (q1, .inl (G.2 0, 60, .inl (fun _ => 0))), (q2, .inl (G.2 0, 60, .inl (fun _ => 0))), (q3, .inl (G.2 3, 2, .inr (.inr (.inr (.inr (fun i => if i < 2 then some (r4 i) else none)))))), (r4 0, .inl (G.2 0, 60, .inl (fun _ => 0))), (r4 1, .inl (G.2 0, 60, .inl (fun _ => 0))), (q5, .inl (G.2 0, 120, .inl (fun _ => 0))), (q6, .inl (G.2 0, 120, .inl (fun _ => 0))), (q7, .inl (G.2 3, 2, .inr (.inr (.inr (.inr (fun i => if i < 2 then some (r8 i) else none)))))), (r8 0, .inl (G.2 0, 120, .inl (fun _ => 0))), (r8 1, .inl (G.2 0, 120, .inl (fun _ => 0))), (q9, .inl (G.2 0, 120, .inl (fun _ => 0)))]) H := hP
  replace hD : va_D A ([(h0, .inr (1, [.ref q1, .ref q2, .ref q3, .ref q5, .ref q6, .ref q7, .null, .int 0, .int 0])), (q1, .inl (G.2 0, 60, .inl (fun _ => 0))), (q2, .inl (G.2 0, 60, .inl (fun _ => 0))), (q3, .inl (G.2 3, 2, .inr (.inr (.inr (.inr (fun i => if i < 2 then some (r4 i) else none)))))), (r4 0, .inl (G.2 0, 60, .inl (fun _ => 0))), (r4 1, .inl (G.2 0, 60, .inl (fun _ => 0))), (q5, .inl (G.2 0, 120, .inl (fun _ => 0))), (q6, .inl (G.2 0, 120, .inl (fun _ => 0))), (q7, .inl (G.2 3, 2, .inr (.inr (.inr (.inr (fun i => if i < 2 then some (r8 i) else none)))))), (r8 0, .inl (G.2 0, 120, .inl (fun _ => 0))), (r8 1, .inl (G.2 0, 120, .inl (fun _ => 0))), (q9, .inl (G.2 0, 120, .inl (fun _ => 0)))]) := hD
  refine W.widen (k := 11) (n := 844) (Nat.le_of_ble_eq_true rfl) (Nat.le_of_ble_eq_true rfl) ?_
  refine va_putF (D := G.1) (ci := 1) (v := .ref q9) (ty := tyX1 6) (C := RX1) (T := TX1) (N := 9) hx hb hts iwX1 tyX1 tyX1_ok nmX1 hown hK hP hD hS 0 rfl rfl 6 (by decide) ha11 (fun _ h9 => h9) rfl hin rfl (by decide +kernel) rfl rfl (Nat.le_of_ble_eq_true rfl) dX1_init_63 (fun H locs hP hD hS => ?_)
  replace hP : va_P G.1 vwCl ([(h0, .inr (1, [.ref q1, .ref q2, .ref q3, .ref q5, .ref q6, .ref q7, .ref q9, .int 0, .int 0])), (q1, .inl (G.2 0, 60, .inl (fun _ => 0))), (q2, .inl (G.2 0, 60, .inl (fun _ => 0))), (q3, .inl (G.2 3, 2, .inr (.inr (.inr (.inr (fun i => if i < 2 then some (r4 i) else none)))))), (r4 0, .inl (G.2 0, 60, .inl (fun _ => 0))), (r4 1, .inl (G.2 0, 60, .inl (fun _ => 0))), (q5, .inl (G.2 0, 120, .inl (fun _ => 0))), (q6, .inl (G.2 0, 120, .inl (fun _ => 0))), (q7, .inl (G.2 3, 2, .inr (.inr (.inr (.inr (fun i => if i < 2 then some (r8 i) else none)))))), (r8 0, .inl (G.2 0, 120, .inl (fun _ => 0))), (r8 1, .inl (G.2 0, 120, .inl (fun _ => 0))), (q9, .inl (G.2 0, 120, .inl (fun _ => 0)))]) H := hP
  replace hD : va_D A ([(h0, .inr (1, [.ref q1, .ref q2, .ref q3, .ref q5, .ref q6, .ref q7, .ref q9, .int 0, .int 0])), (q1, .inl (G.2 0, 60, .inl (fun _ => 0))), (q2, .inl (G.2 0, 60, .inl (fun _ => 0))), (q3, .inl (G.2 3, 2, .inr (.inr (.inr (.inr (fun i => if i < 2 then some (r4 i) else none)))))), (r4 0, .inl (G.2 0, 60, .inl (fun _ => 0))), (r4 1, .inl (G.2 0, 60, .inl (fun _ => 0))), (q5, .inl (G.2 0, 120, .inl (fun _ => 0))), (q6, .inl (G.2 0, 120, .inl (fun _ => 0))), (q7, .inl (G.2 3, 2, .inr (.inr (.inr (.inr (fun i => if i < 2 then some (r8 i) else none)))))), (r8 0, .inl (G.2 0, 120, .inl (fun _ => 0))), (r8 1, .inl (G.2 0, 120, .inl (fun _ => 0))), (q9, .inl (G.2 0, 120, .inl (fun _ => 0)))]) := hD
  refine lv_aload_n hx hb dX1_init_66 rfl (lv_at hl 0 rfl) ?_
  refine lv_iconst (v := 0) hx hb dX1_init_67 (by decide) ?_
  refine va_put (D := G.1) (ci := 1) (v := .int 0) (ty := .int) (C := RX1) (T := TX1) (N := 9) hx hb hts iwX1 tyX1 tyX1_ok nmX1 hown hK hP hD hS 0 rfl rfl 7 (by decide) ha12 (fun _ h9 => h9) rfl (by decide +kernel) rfl rfl (Nat.le_of_ble_eq_true rfl) dX1_init_68 (fun H locs hP hD hS => ?_)
  replace hP : va_P G.1 vwCl ([(h0, .inr (1, [.ref q1, .ref q2, .ref q3, .ref q5, .ref q6, .ref q7, .ref q9, .int 0, .int 0])), (q1, .inl (G.2 0, 60, .inl (fun _ => 0))), (q2, .inl (G.2 0, 60, .inl (fun _ => 0))), (q3, .inl (G.2 3, 2, .inr (.inr (.inr (.inr (fun i => if i < 2 then some (r4 i) else none)))))), (r4 0, .inl (G.2 0, 60, .inl (fun _ => 0))), (r4 1, .inl (G.2 0, 60, .inl (fun _ => 0))), (q5, .inl (G.2 0, 120, .inl (fun _ => 0))), (q6, .inl (G.2 0, 120, .inl (fun _ => 0))), (q7, .inl (G.2 3, 2, .inr (.inr (.inr (.inr (fun i => if i < 2 then some (r8 i) else none)))))), (r8 0, .inl (G.2 0, 120, .inl (fun _ => 0))), (r8 1, .inl (G.2 0, 120, .inl (fun _ => 0))), (q9, .inl (G.2 0, 120, .inl (fun _ => 0)))]) H := hP
  replace hD : va_D A ([(h0, .inr (1, [.ref q1, .ref q2, .ref q3, .ref q5, .ref q6, .ref q7, .ref q9, .int 0, .int 0])), (q1, .inl (G.2 0, 60, .inl (fun _ => 0))), (q2, .inl (G.2 0, 60, .inl (fun _ => 0))), (q3, .inl (G.2 3, 2, .inr (.inr (.inr (.inr (fun i => if i < 2 then some (r4 i) else none)))))), (r4 0, .inl (G.2 0, 60, .inl (fun _ => 0))), (r4 1, .inl (G.2 0, 60, .inl (fun _ => 0))), (q5, .inl (G.2 0, 120, .inl (fun _ => 0))), (q6, .inl (G.2 0, 120, .inl (fun _ => 0))), (q7, .inl (G.2 3, 2, .inr (.inr (.inr (.inr (fun i => if i < 2 then some (r8 i) else none)))))), (r8 0, .inl (G.2 0, 120, .inl (fun _ => 0))), (r8 1, .inl (G.2 0, 120, .inl (fun _ => 0))), (q9, .inl (G.2 0, 120, .inl (fun _ => 0)))]) := hD
  refine lv_aload_n hx hb dX1_init_71 rfl (lv_at hl 0 rfl) ?_
  refine lv_iconst (v := 0) hx hb dX1_init_72 (by decide) ?_
  refine va_put (D := G.1) (ci := 1) (v := .int 0) (ty := .int) (C := RX1) (T := TX1) (N := 9) hx hb hts iwX1 tyX1 tyX1_ok nmX1 hown hK hP hD hS 0 rfl rfl 8 (by decide) ha13 (fun _ h9 => h9) rfl (by decide +kernel) rfl rfl (Nat.le_of_ble_eq_true rfl) dX1_init_73 (fun H locs hP hD hS => ?_)
  replace hP : va_P G.1 vwCl ([(h0, .inr (1, [.ref q1, .ref q2, .ref q3, .ref q5, .ref q6, .ref q7, .ref q9, .int 0, .int 0])), (q1, .inl (G.2 0, 60, .inl (fun _ => 0))), (q2, .inl (G.2 0, 60, .inl (fun _ => 0))), (q3, .inl (G.2 3, 2, .inr (.inr (.inr (.inr (fun i => if i < 2 then some (r4 i) else none)))))), (r4 0, .inl (G.2 0, 60, .inl (fun _ => 0))), (r4 1, .inl (G.2 0, 60, .inl (fun _ => 0))), (q5, .inl (G.2 0, 120, .inl (fun _ => 0))), (q6, .inl (G.2 0, 120, .inl (fun _ => 0))), (q7, .inl (G.2 3, 2, .inr (.inr (.inr (.inr (fun i => if i < 2 then some (r8 i) else none)))))), (r8 0, .inl (G.2 0, 120, .inl (fun _ => 0))), (r8 1, .inl (G.2 0, 120, .inl (fun _ => 0))), (q9, .inl (G.2 0, 120, .inl (fun _ => 0)))]) H := hP
  replace hD : va_D A ([(h0, .inr (1, [.ref q1, .ref q2, .ref q3, .ref q5, .ref q6, .ref q7, .ref q9, .int 0, .int 0])), (q1, .inl (G.2 0, 60, .inl (fun _ => 0))), (q2, .inl (G.2 0, 60, .inl (fun _ => 0))), (q3, .inl (G.2 3, 2, .inr (.inr (.inr (.inr (fun i => if i < 2 then some (r4 i) else none)))))), (r4 0, .inl (G.2 0, 60, .inl (fun _ => 0))), (r4 1, .inl (G.2 0, 60, .inl (fun _ => 0))), (q5, .inl (G.2 0, 120, .inl (fun _ => 0))), (q6, .inl (G.2 0, 120, .inl (fun _ => 0))), (q7, .inl (G.2 3, 2, .inr (.inr (.inr (.inr (fun i => if i < 2 then some (r8 i) else none)))))), (r8 0, .inl (G.2 0, 120, .inl (fun _ => 0))), (r8 1, .inl (G.2 0, 120, .inl (fun _ => 0))), (q9, .inl (G.2 0, 120, .inl (fun _ => 0)))]) := hD
  obtain ⟨aF, haF⟩ : ∃ aF : Nat → Nat, aF = fun k => if k = 0 then h0 else if k = 1 then q1 else if k = 2 then q2 else if k = 3 then q3 else if k = 4 then r4 0 else if k = 5 then r4 1 else if k = 6 then q5 else if k = 7 then q6 else if k = 8 then q7 else if k = 9 then r8 0 else if k = 10 then r8 1 else if k = 11 then q9 else 0 := ⟨_, rfl⟩
  have a0 : aF 0 = h0 := by rw [haF]; rfl
  have a1 : aF 1 = q1 := by rw [haF]; rfl
  have a2 : aF 2 = q2 := by rw [haF]; rfl
  have a3 : aF 3 = q3 := by rw [haF]; rfl
  have a4 : aF 4 = r4 0 := by rw [haF]; rfl
  have a5 : aF 5 = r4 1 := by rw [haF]; rfl
  have a6 : aF 6 = q5 := by rw [haF]; rfl
  have a7 : aF 7 = q6 := by rw [haF]; rfl
  have a8 : aF 8 = q7 := by rw [haF]; rfl
  have a9 : aF 9 = r8 0 := by rw [haF]; rfl
  have a10 : aF 10 = r8 1 := by rw [haF]; rfl
  have a11 : aF 11 = q9 := by rw [haF]; rfl
  have g3 : (fun i => if i < 2 then some (r4 i) else none) = gr2 aF 4 := by
    funext i
    match i with
    | 0 => exact congrArg some a4.symm
    | 1 => exact congrArg some a5.symm
    | k9 + 2 => exact (if_neg (by omega)).trans (if_neg (by omega)).symm
  rw [g3] at hP hD
  have g8 : (fun i => if i < 2 then some (r8 i) else none) = gr2 aF 9 := by
    funext i
    match i with
    | 0 => exact congrArg some a9.symm
    | 1 => exact congrArg some a10.symm
    | k9 + 2 => exact (if_neg (by omega)).trans (if_neg (by omega)).symm
  rw [g8] at hP hD
  have hP9 : va_P G.1 vwCl (wLay G aF ZO) H := by first | (rw [haF] at hP ⊢; exact hP) | (rw [haF]; exact hP)
  have hD9 : va_D A (wLay G aF ZO) := by first | (rw [haF] at hD ⊢; exact hD) | (rw [haF]; exact hD)
  exact W.vret hx hb hr (fun t2 ht2 hW => ⟨⟨aF, rfl, a0, by rw [ht2]; exact hP9, hD9⟩, hS.F ht2⟩) hS.2.2 dX1_init_76
abbrev rmX4_init : Room := { frames := 1, cells := 10, slots := 1082, locals := 12 }
set_option maxHeartbeats 8000000 in
set_option maxRecDepth 100000 in
theorem c_X4_init (l : Launch) (G : GT) (h0 sz : Nat) : Met l yX4_init wsX4_init rmX4_init (PreW G [.ref h0] [(h0, .inr (4, [.null, .null, .null, .null, .int 0, .null, .null, .null, .null, .null, .int 0, .null]))] sz) (QN G (fun ap => wMod G ap MZ) h0 (va_A [(h0, .inr (4, [.null, .null, .null, .null, .int 0, .null, .null, .null, .null, .null, .int 0, .null]))] sz)) 10 1082 (va_A [(h0, .inr (4, [.null, .null, .null, .null, .int 0, .null, .null, .null, .null, .null, .int 0, .null]))] sz) := by
  refine Met.ofW (cc := cX4_init) (maxL := 1) (ret := none) (by decide) rfl ?_
  intro p e s m args below meth c s₁ Bd hml hv
  obtain ⟨rfl, hsz, hP, hC, hD0⟩ := hv
  have hx := Bd.exec
  have hb := Bd.bytes
  have hr := Bd.returns
  have hts := atoms_spec (ws := wsX4_init) Bd.pre
  have hown : s.vm.findClass RX4 = some m.cls := findClass_of_methodNamed Bd.named
  have hlocks := Bd.notSynchronized
  have hin : meth.name = "<init>" := (name_of_methodNamed Bd.named Bd.method).1
  have hK := hC.1
  have iwX4 : ∀ w ∈ wsX40, w ∈ wsX4_init := by decide +kernel
  have ha0 := hts (.methodLink RX4 1 objectInit) (by decide +kernel)
  have ha1 := hts (.instanceMethod objectInit) (by decide +kernel)
  have ha2 := hts (.code objectInit ⟨#[0xb1]⟩ 1 none) (by decide +kernel)
  have ha3 := hts (.arrayClass .int) (by decide +kernel)
  have ha4 := hts (.fieldLink RX4 7 "HeadMarksModel" "state" "[I") (by decide +kernel)
  have ha5 := hts (.fieldLink RX4 13 "HeadMarksModel" "images" "[I") (by decide +kernel)
  have ha6 := hts (.arrayClass .boolean) (by decide +kernel)
  have ha7 := hts (.fieldLink RX4 16 "HeadMarksModel" "isKept" "[Z") (by decide +kernel)
  have ha8 := hts (.fieldLink RX4 20 "HeadMarksModel" "pad" "[I") (by decide +kernel)
  have ha9 := hts (.fieldLink RX4 23 "HeadMarksModel" "pageOf" "[I") (by decide +kernel)
  have ha10 := hts (.fieldLink RX4 26 "HeadMarksModel" "placeOf" "[I") (by decide +kernel)
  have ha11 := hts (.fieldLink RX4 29 "HeadMarksModel" "force" "[I") (by decide +kernel)
  have ha12 := hts (.fieldLink RX4 32 "HeadMarksModel" "firstOn" "[I") (by decide +kernel)
  have ha13 := hts (.fieldLink RX4 35 "HeadMarksModel" "linesOn" "[I") (by decide +kernel)
  have ha14 := hts (.fieldLink RX4 38 "HeadMarksModel" "headNow" "[I") (by decide +kernel)
  subst hsz
  have hD := hD0.self (sz := s.heap.size)
  generalize hAe : va_A [(h0, .inr (4, [.null, .null, .null, .null, .int 0, .null, .null, .null, .null, .null, .int 0, .null]))] s.heap.size = A at hD ⊢
  have hA : ∀ q : Nat, s.heap.size ≤ q → A q := fun q h => by rw [← hAe]; exact Or.inr h
  have hS : va_S A s.heap s.heap [] := va_S.rf
  have hl := lv_entry [.ref h0] (n := 1) (Nat.le_of_ble_eq_true rfl)
  rw [lg_entry_eq]
  generalize (lg_sl [.ref h0] ++ List.replicate (1 - (lg_sl [.ref h0]).length) Slot.unset).toArray = ls at hl ⊢
  have hl : lv_has ls 1 [(0, .ref h0)] := hl
  refine lv_aload_n hx hb dX4_init_0 rfl (lv_at hl 0 rfl) ?_
  refine W.objInit hx hb hown ha0 ha1 ha2 rfl (by rw [hml]; exact hl.1) rfl dX4_init_1 (Nat.le_of_ble_eq_true rfl) (Nat.le_of_ble_eq_true rfl) ?_
  refine W.eq (g2 := F0 m 4 ls []) rfl ?_
  refine lv_aload_n hx hb dX4_init_4 rfl (lv_at hl 0 rfl) ?_
  refine lv_sipush (v := 130) hx hb dX4_init_5 (by decide) ?_
  refine y_newi (N' := 130) hx hb ha3 hK hP hD hS hA (by decide) (by decide) (Nat.le_of_ble_eq_true rfl) (Nat.le_of_ble_eq_true rfl) (Nat.le_of_ble_eq_true rfl) dX4_init_8 (fun q1 H hP hD hS => ?_)
  replace hP : va_P G.1 vwCl ([(h0, .inr (4, [.null, .null, .null, .null, .int 0, .null, .null, .null, .null, .null, .int 0, .null])), (q1, .inl (G.2 0, 130, .inl (fun _ => 0)))]) H := hP
  replace hD : va_D A ([(h0, .inr (4, [.null, .null, .null, .null, .int 0, .null, .null, .null, .null, .null, .int 0, .null])), (q1, .inl (G.2 0, 130, .inl (fun _ => 0)))]) := hD
  refine W.widen (k := 1) (n := 130) (Nat.le_of_ble_eq_true rfl) (Nat.le_of_ble_eq_true rfl) ?_
  refine va_putF (D := G.1) (ci := 4) (v := .ref q1) (ty := tyX4 0) (C := RX4) (T := TX4) (N := 12) hx hb hts iwX4 tyX4 tyX4_ok nmX4 hown hK hP hD hS 0 rfl rfl 0 (by decide) ha4 (fun _ h9 => h9) rfl hin rfl (by decide +kernel) rfl rfl (Nat.le_of_ble_eq_true rfl) dX4_init_10 (fun H locs hP hD hS => ?_)
  replace hP : va_P G.1 vwCl ([(h0, .inr (4, [.ref q1, .null, .null, .null, .int 0, .null, .null, .null, .null, .null, .int 0, .null])), (q1, .inl (G.2 0, 130, .inl (fun _ => 0)))]) H := hP
  replace hD : va_D A ([(h0, .inr (4, [.ref q1, .null, .null, .null, .int 0, .null, .null, .null, .null, .null, .int 0, .null])), (q1, .inl (G.2 0, 130, .inl (fun _ => 0)))]) := hD
  refine lv_aload_n hx hb dX4_init_13 rfl (lv_at hl 0 rfl) ?_
  refine lv_sipush (v := 260) hx hb dX4_init_14 (by decide) ?_
  refine y_newi (N' := 260) hx hb ha3 hK hP hD hS hA (by decide) (by decide) (Nat.le_of_ble_eq_true rfl) (Nat.le_of_ble_eq_true rfl) (Nat.le_of_ble_eq_true rfl) dX4_init_17 (fun q2 H hP hD hS => ?_)
  replace hP : va_P G.1 vwCl ([(h0, .inr (4, [.ref q1, .null, .null, .null, .int 0, .null, .null, .null, .null, .null, .int 0, .null])), (q1, .inl (G.2 0, 130, .inl (fun _ => 0))), (q2, .inl (G.2 0, 260, .inl (fun _ => 0)))]) H := hP
  replace hD : va_D A ([(h0, .inr (4, [.ref q1, .null, .null, .null, .int 0, .null, .null, .null, .null, .null, .int 0, .null])), (q1, .inl (G.2 0, 130, .inl (fun _ => 0))), (q2, .inl (G.2 0, 260, .inl (fun _ => 0)))]) := hD
  refine W.widen (k := 2) (n := 390) (Nat.le_of_ble_eq_true rfl) (Nat.le_of_ble_eq_true rfl) ?_
  refine va_putF (D := G.1) (ci := 4) (v := .ref q2) (ty := tyX4 1) (C := RX4) (T := TX4) (N := 12) hx hb hts iwX4 tyX4 tyX4_ok nmX4 hown hK hP hD hS 0 rfl rfl 1 (by decide) ha5 (fun _ h9 => h9) rfl hin rfl (by decide +kernel) rfl rfl (Nat.le_of_ble_eq_true rfl) dX4_init_19 (fun H locs hP hD hS => ?_)
  replace hP : va_P G.1 vwCl ([(h0, .inr (4, [.ref q1, .ref q2, .null, .null, .int 0, .null, .null, .null, .null, .null, .int 0, .null])), (q1, .inl (G.2 0, 130, .inl (fun _ => 0))), (q2, .inl (G.2 0, 260, .inl (fun _ => 0)))]) H := hP
  replace hD : va_D A ([(h0, .inr (4, [.ref q1, .ref q2, .null, .null, .int 0, .null, .null, .null, .null, .null, .int 0, .null])), (q1, .inl (G.2 0, 130, .inl (fun _ => 0))), (q2, .inl (G.2 0, 260, .inl (fun _ => 0)))]) := hD
  refine lv_aload_n hx hb dX4_init_22 rfl (lv_at hl 0 rfl) ?_
  refine lv_iconst (v := 2) hx hb dX4_init_23 (by decide) ?_
  refine y_newz (N' := 2) hx hb ha6 hK hP hD hS hA (by decide) (by decide) (Nat.le_of_ble_eq_true rfl) (Nat.le_of_ble_eq_true rfl) (Nat.le_of_ble_eq_true rfl) dX4_init_24 (fun q3 H hP hD hS => ?_)
  replace hP : va_P G.1 vwCl ([(h0, .inr (4, [.ref q1, .ref q2, .null, .null, .int 0, .null, .null, .null, .null, .null, .int 0, .null])), (q1, .inl (G.2 0, 130, .inl (fun _ => 0))), (q2, .inl (G.2 0, 260, .inl (fun _ => 0))), (q3, .inl (G.2 1, 2, .inl (fun _ => 0)))]) H := hP
  replace hD : va_D A ([(h0, .inr (4, [.ref q1, .ref q2, .null, .null, .int 0, .null, .null, .null, .null, .null, .int 0, .null])), (q1, .inl (G.2 0, 130, .inl (fun _ => 0))), (q2, .inl (G.2 0, 260, .inl (fun _ => 0))), (q3, .inl (G.2 1, 2, .inl (fun _ => 0)))]) := hD
  refine W.widen (k := 3) (n := 392) (Nat.le_of_ble_eq_true rfl) (Nat.le_of_ble_eq_true rfl) ?_
  refine va_putF (D := G.1) (ci := 4) (v := .ref q3) (ty := tyX4 2) (C := RX4) (T := TX4) (N := 12) hx hb hts iwX4 tyX4 tyX4_ok nmX4 hown hK hP hD hS 0 rfl rfl 2 (by decide) ha7 (fun _ h9 => h9) rfl hin rfl (by decide +kernel) rfl rfl (Nat.le_of_ble_eq_true rfl) dX4_init_26 (fun H locs hP hD hS => ?_)
  replace hP : va_P G.1 vwCl ([(h0, .inr (4, [.ref q1, .ref q2, .ref q3, .null, .int 0, .null, .null, .null, .null, .null, .int 0, .null])), (q1, .inl (G.2 0, 130, .inl (fun _ => 0))), (q2, .inl (G.2 0, 260, .inl (fun _ => 0))), (q3, .inl (G.2 1, 2, .inl (fun _ => 0)))]) H := hP
  replace hD : va_D A ([(h0, .inr (4, [.ref q1, .ref q2, .ref q3, .null, .int 0, .null, .null, .null, .null, .null, .int 0, .null])), (q1, .inl (G.2 0, 130, .inl (fun _ => 0))), (q2, .inl (G.2 0, 260, .inl (fun _ => 0))), (q3, .inl (G.2 1, 2, .inl (fun _ => 0)))]) := hD
  refine lv_aload_n hx hb dX4_init_29 rfl (lv_at hl 0 rfl) ?_
  refine lv_bipush (v := 60) hx hb dX4_init_30 (by decide) ?_
  refine y_newi (N' := 60) hx hb ha3 hK hP hD hS hA (by decide) (by decide) (Nat.le_of_ble_eq_true rfl) (Nat.le_of_ble_eq_true rfl) (Nat.le_of_ble_eq_true rfl) dX4_init_32 (fun q4 H hP hD hS => ?_)
  replace hP : va_P G.1 vwCl ([(h0, .inr (4, [.ref q1, .ref q2, .ref q3, .null, .int 0, .null, .null, .null, .null, .null, .int 0, .null])), (q1, .inl (G.2 0, 130, .inl (fun _ => 0))), (q2, .inl (G.2 0, 260, .inl (fun _ => 0))), (q3, .inl (G.2 1, 2, .inl (fun _ => 0))), (q4, .inl (G.2 0, 60, .inl (fun _ => 0)))]) H := hP
  replace hD : va_D A ([(h0, .inr (4, [.ref q1, .ref q2, .ref q3, .null, .int 0, .null, .null, .null, .null, .null, .int 0, .null])), (q1, .inl (G.2 0, 130, .inl (fun _ => 0))), (q2, .inl (G.2 0, 260, .inl (fun _ => 0))), (q3, .inl (G.2 1, 2, .inl (fun _ => 0))), (q4, .inl (G.2 0, 60, .inl (fun _ => 0)))]) := hD
  refine W.widen (k := 4) (n := 452) (Nat.le_of_ble_eq_true rfl) (Nat.le_of_ble_eq_true rfl) ?_
  refine va_putF (D := G.1) (ci := 4) (v := .ref q4) (ty := tyX4 3) (C := RX4) (T := TX4) (N := 12) hx hb hts iwX4 tyX4 tyX4_ok nmX4 hown hK hP hD hS 0 rfl rfl 3 (by decide) ha8 (fun _ h9 => h9) rfl hin rfl (by decide +kernel) rfl rfl (Nat.le_of_ble_eq_true rfl) dX4_init_34 (fun H locs hP hD hS => ?_)
  replace hP : va_P G.1 vwCl ([(h0, .inr (4, [.ref q1, .ref q2, .ref q3, .ref q4, .int 0, .null, .null, .null, .null, .null, .int 0, .null])), (q1, .inl (G.2 0, 130, .inl (fun _ => 0))), (q2, .inl (G.2 0, 260, .inl (fun _ => 0))), (q3, .inl (G.2 1, 2, .inl (fun _ => 0))), (q4, .inl (G.2 0, 60, .inl (fun _ => 0)))]) H := hP
  replace hD : va_D A ([(h0, .inr (4, [.ref q1, .ref q2, .ref q3, .ref q4, .int 0, .null, .null, .null, .null, .null, .int 0, .null])), (q1, .inl (G.2 0, 130, .inl (fun _ => 0))), (q2, .inl (G.2 0, 260, .inl (fun _ => 0))), (q3, .inl (G.2 1, 2, .inl (fun _ => 0))), (q4, .inl (G.2 0, 60, .inl (fun _ => 0)))]) := hD
  refine lv_aload_n hx hb dX4_init_37 rfl (lv_at hl 0 rfl) ?_
  refine lv_bipush (v := 60) hx hb dX4_init_38 (by decide) ?_
  refine y_newi (N' := 60) hx hb ha3 hK hP hD hS hA (by decide) (by decide) (Nat.le_of_ble_eq_true rfl) (Nat.le_of_ble_eq_true rfl) (Nat.le_of_ble_eq_true rfl) dX4_init_40 (fun q5 H hP hD hS => ?_)
  replace hP : va_P G.1 vwCl ([(h0, .inr (4, [.ref q1, .ref q2, .ref q3, .ref q4, .int 0, .null, .null, .null, .null, .null, .int 0, .null])), (q1, .inl (G.2 0, 130, .inl (fun _ => 0))), (q2, .inl (G.2 0, 260, .inl (fun _ => 0))), (q3, .inl (G.2 1, 2, .inl (fun _ => 0))), (q4, .inl (G.2 0, 60, .inl (fun _ => 0))), (q5, .inl (G.2 0, 60, .inl (fun _ => 0)))]) H := hP
  replace hD : va_D A ([(h0, .inr (4, [.ref q1, .ref q2, .ref q3, .ref q4, .int 0, .null, .null, .null, .null, .null, .int 0, .null])), (q1, .inl (G.2 0, 130, .inl (fun _ => 0))), (q2, .inl (G.2 0, 260, .inl (fun _ => 0))), (q3, .inl (G.2 1, 2, .inl (fun _ => 0))), (q4, .inl (G.2 0, 60, .inl (fun _ => 0))), (q5, .inl (G.2 0, 60, .inl (fun _ => 0)))]) := hD
  refine W.widen (k := 5) (n := 512) (Nat.le_of_ble_eq_true rfl) (Nat.le_of_ble_eq_true rfl) ?_
  refine va_putF (D := G.1) (ci := 4) (v := .ref q5) (ty := tyX4 5) (C := RX4) (T := TX4) (N := 12) hx hb hts iwX4 tyX4 tyX4_ok nmX4 hown hK hP hD hS 0 rfl rfl 5 (by decide) ha9 (fun _ h9 => h9) rfl hin rfl (by decide +kernel) rfl rfl (Nat.le_of_ble_eq_true rfl) dX4_init_42 (fun H locs hP hD hS => ?_)
  replace hP : va_P G.1 vwCl ([(h0, .inr (4, [.ref q1, .ref q2, .ref q3, .ref q4, .int 0, .ref q5, .null, .null, .null, .null, .int 0, .null])), (q1, .inl (G.2 0, 130, .inl (fun _ => 0))), (q2, .inl (G.2 0, 260, .inl (fun _ => 0))), (q3, .inl (G.2 1, 2, .inl (fun _ => 0))), (q4, .inl (G.2 0, 60, .inl (fun _ => 0))), (q5, .inl (G.2 0, 60, .inl (fun _ => 0)))]) H := hP
  replace hD : va_D A ([(h0, .inr (4, [.ref q1, .ref q2, .ref q3, .ref q4, .int 0, .ref q5, .null, .null, .null, .null, .int 0, .null])), (q1, .inl (G.2 0, 130, .inl (fun _ => 0))), (q2, .inl (G.2 0, 260, .inl (fun _ => 0))), (q3, .inl (G.2 1, 2, .inl (fun _ => 0))), (q4, .inl (G.2 0, 60, .inl (fun _ => 0))), (q5, .inl (G.2 0, 60, .inl (fun _ => 0)))]) := hD
  refine lv_aload_n hx hb dX4_init_45 rfl (lv_at hl 0 rfl) ?_
  refine lv_bipush (v := 60) hx hb dX4_init_46 (by decide) ?_
  refine y_newi (N' := 60) hx hb ha3 hK hP hD hS hA (by decide) (by decide) (Nat.le_of_ble_eq_true rfl) (Nat.le_of_ble_eq_true rfl) (Nat.le_of_ble_eq_true rfl) dX4_init_48 (fun q6 H hP hD hS => ?_)
  replace hP : va_P G.1 vwCl ([(h0, .inr (4, [.ref q1, .ref q2, .ref q3, .ref q4, .int 0, .ref q5, .null, .null, .null, .null, .int 0, .null])), (q1, .inl (G.2 0, 130, .inl (fun _ => 0))), (q2, .inl (G.2 0, 260, .inl (fun _ => 0))), (q3, .inl (G.2 1, 2, .inl (fun _ => 0))), (q4, .inl (G.2 0, 60, .inl (fun _ => 0))), (q5, .inl (G.2 0, 60, .inl (fun _ => 0))), (q6, .inl (G.2 0, 60, .inl (fun _ => 0)))]) H := hP
  replace hD : va_D A ([(h0, .inr (4, [.ref q1, .ref q2, .ref q3, .ref q4, .int 0, .ref q5, .null, .null, .null, .null, .int 0, .null])), (q1, .inl (G.2 0, 130, .inl (fun _ => 0))), (q2, .inl (G.2 0, 260, .inl (fun _ => 0))), (q3, .inl (G.2 1, 2, .inl (fun _ => 0))), (q4, .inl (G.2 0, 60, .inl (fun _ => 0))), (q5, .inl (G.2 0, 60, .inl (fun _ => 0))), (q6, .inl (G.2 0, 60, .inl (fun _ => 0)))]) := hD
  refine W.widen (k := 6) (n := 572) (Nat.le_of_ble_eq_true rfl) (Nat.le_of_ble_eq_true rfl) ?_
  refine va_putF (D := G.1) (ci := 4) (v := .ref q6) (ty := tyX4 6) (C := RX4) (T := TX4) (N := 12) hx hb hts iwX4 tyX4 tyX4_ok nmX4 hown hK hP hD hS 0 rfl rfl 6 (by decide) ha10 (fun _ h9 => h9) rfl hin rfl (by decide +kernel) rfl rfl (Nat.le_of_ble_eq_true rfl) dX4_init_50 (fun H locs hP hD hS => ?_)
  replace hP : va_P G.1 vwCl ([(h0, .inr (4, [.ref q1, .ref q2, .ref q3, .ref q4, .int 0, .ref q5, .ref q6, .null, .null, .null, .int 0, .null])), (q1, .inl (G.2 0, 130, .inl (fun _ => 0))), (q2, .inl (G.2 0, 260, .inl (fun _ => 0))), (q3, .inl (G.2 1, 2, .inl (fun _ => 0))), (q4, .inl (G.2 0, 60, .inl (fun _ => 0))), (q5, .inl (G.2 0, 60, .inl (fun _ => 0))), (q6, .inl (G.2 0, 60, .inl (fun _ => 0)))]) H := hP
  replace hD : va_D A ([(h0, .inr (4, [.ref q1, .ref q2, .ref q3, .ref q4, .int 0, .ref q5, .ref q6, .null, .null, .null, .int 0, .null])), (q1, .inl (G.2 0, 130, .inl (fun _ => 0))), (q2, .inl (G.2 0, 260, .inl (fun _ => 0))), (q3, .inl (G.2 1, 2, .inl (fun _ => 0))), (q4, .inl (G.2 0, 60, .inl (fun _ => 0))), (q5, .inl (G.2 0, 60, .inl (fun _ => 0))), (q6, .inl (G.2 0, 60, .inl (fun _ => 0)))]) := hD
  refine lv_aload_n hx hb dX4_init_53 rfl (lv_at hl 0 rfl) ?_
  refine lv_bipush (v := 120) hx hb dX4_init_54 (by decide) ?_
  refine y_newi (N' := 120) hx hb ha3 hK hP hD hS hA (by decide) (by decide) (Nat.le_of_ble_eq_true rfl) (Nat.le_of_ble_eq_true rfl) (Nat.le_of_ble_eq_true rfl) dX4_init_56 (fun q7 H hP hD hS => ?_)
  replace hP : va_P G.1 vwCl ([(h0, .inr (4, [.ref q1, .ref q2, .ref q3, .ref q4, .int 0, .ref q5, .ref q6, .null, .null, .null, .int 0, .null])), (q1, .inl (G.2 0, 130, .inl (fun _ => 0))), (q2, .inl (G.2 0, 260, .inl (fun _ => 0))), (q3, .inl (G.2 1, 2, .inl (fun _ => 0))), (q4, .inl (G.2 0, 60, .inl (fun _ => 0))), (q5, .inl (G.2 0, 60, .inl (fun _ => 0))), (q6, .inl (G.2 0, 60, .inl (fun _ => 0))), (q7, .inl (G.2 0, 120, .inl (fun _ => 0)))]) H := hP
  replace hD : va_D A ([(h0, .inr (4, [.ref q1, .ref q2, .ref q3, .ref q4, .int 0, .ref q5, .ref q6, .null, .null, .null, .int 0, .null])), (q1, .inl (G.2 0, 130, .inl (fun _ => 0))), (q2, .inl (G.2 0, 260, .inl (fun _ => 0))), (q3, .inl (G.2 1, 2, .inl (fun _ => 0))), (q4, .inl (G.2 0, 60, .inl (fun _ => 0))), (q5, .inl (G.2 0, 60, .inl (fun _ => 0))), (q6, .inl (G.2 0, 60, .inl (fun _ => 0))), (q7, .inl (G.2 0, 120, .inl (fun _ => 0)))]) := hD
  refine W.widen (k := 7) (n := 692) (Nat.le_of_ble_eq_true rfl) (Nat.le_of_ble_eq_true rfl) ?_
  refine va_putF (D := G.1) (ci := 4) (v := .ref q7) (ty := tyX4 7) (C := RX4) (T := TX4) (N := 12) hx hb hts iwX4 tyX4 tyX4_ok nmX4 hown hK hP hD hS 0 rfl rfl 7 (by decide) ha11 (fun _ h9 => h9) rfl hin rfl (by decide +kernel) rfl rfl (Nat.le_of_ble_eq_true rfl) dX4_init_58 (fun H locs hP hD hS => ?_)
  replace hP : va_P G.1 vwCl ([(h0, .inr (4, [.ref q1, .ref q2, .ref q3, .ref q4, .int 0, .ref q5, .ref q6, .ref q7, .null, .null, .int 0, .null])), (q1, .inl (G.2 0, 130, .inl (fun _ => 0))), (q2, .inl (G.2 0, 260, .inl (fun _ => 0))), (q3, .inl (G.2 1, 2, .inl (fun _ => 0))), (q4, .inl (G.2 0, 60, .inl (fun _ => 0))), (q5, .inl (G.2 0, 60, .inl (fun _ => 0))), (q6, .inl (G.2 0, 60, .inl (fun _ => 0))), (q7, .inl (G.2 0, 120, .inl (fun _ => 0)))]) H := hP
  replace hD : va_D A ([(h0, .inr (4, [.ref q1, .ref q2, .ref q3, .ref q4, .int 0, .ref q5, .ref q6, .ref q7, .null, .null, .int 0, .null])), (q1, .inl (G.2 0, 130, .inl (fun _ => 0))), (q2, .inl (G.2 0, 260, .inl (fun _ => 0))), (q3, .inl (G.2 1, 2, .inl (fun _ => 0))), (q4, .inl (G.2 0, 60, .inl (fun _ => 0))), (q5, .inl (G.2 0, 60, .inl (fun _ => 0))), (q6, .inl (G.2 0, 60, .inl (fun _ => 0))), (q7, .inl (G.2 0, 120, .inl (fun _ => 0)))]) := hD
  refine lv_aload_n hx hb dX4_init_61 rfl (lv_at hl 0 rfl) ?_
  refine lv_sipush (v := 130) hx hb dX4_init_62 (by decide) ?_
  refine y_newi (N' := 130) hx hb ha3 hK hP hD hS hA (by decide) (by decide) (Nat.le_of_ble_eq_true rfl) (Nat.le_of_ble_eq_true rfl) (Nat.le_of_ble_eq_true rfl) dX4_init_65 (fun q8 H hP hD hS => ?_)
  replace hP : va_P G.1 vwCl ([(h0, .inr (4, [.ref q1, .ref q2, .ref q3, .ref q4, .int 0, .ref q5, .ref q6, .ref q7, .null, .null, .int 0, .null])), (q1, .inl (G.2 0, 130, .inl (fun _ => 0))), (q2, .inl (G.2 0, 260, .inl (fun _ => 0))), (q3, .inl (G.2 1, 2, .inl (fun _ => 0))), (q4, .inl (G.2 0, 60, .inl (fun _ => 0))), (q5, .inl (G.2 0, 60, .inl (fun _ => 0))), (q6, .inl (G.2 0, 60, .inl (fun _ => 0))), (q7, .inl (G.2 0, 120, .inl (fun _ => 0))), (q8, .inl (G.2 0, 130, .inl (fun _ => 0)))]) H := hP
  replace hD : va_D A ([(h0, .inr (4, [.ref q1, .ref q2, .ref q3, .ref q4, .int 0, .ref q5, .ref q6, .ref q7, .null, .null, .int 0, .null])), (q1, .inl (G.2 0, 130, .inl (fun _ => 0))), (q2, .inl (G.2 0, 260, .inl (fun _ => 0))), (q3, .inl (G.2 1, 2, .inl (fun _ => 0))), (q4, .inl (G.2 0, 60, .inl (fun _ => 0))), (q5, .inl (G.2 0, 60, .inl (fun _ => 0))), (q6, .inl (G.2 0, 60, .inl (fun _ => 0))), (q7, .inl (G.2 0, 120, .inl (fun _ => 0))), (q8, .inl (G.2 0, 130, .inl (fun _ => 0)))]) := hD
  refine W.widen (k := 8) (n := 822) (Nat.le_of_ble_eq_true rfl) (Nat.le_of_ble_eq_true rfl) ?_
  refine va_putF (D := G.1) (ci := 4) (v := .ref q8) (ty := tyX4 8) (C := RX4) (T := TX4) (N := 12) hx hb hts iwX4 tyX4 tyX4_ok nmX4 hown hK hP hD hS 0 rfl rfl 8 (by decide) ha12 (fun _ h9 => h9) rfl hin rfl (by decide +kernel) rfl rfl (Nat.le_of_ble_eq_true rfl) dX4_init_67 (fun H locs hP hD hS => ?_)
  replace hP : va_P G.1 vwCl ([(h0, .inr (4, [.ref q1, .ref q2, .ref q3, .ref q4, .int 0, .ref q5, .ref q6, .ref q7, .ref q8, .null, .int 0, .null])), (q1, .inl (G.2 0, 130, .inl (fun _ => 0))), (q2, .inl (G.2 0, 260, .inl (fun _ => 0))), (q3, .inl (G.2 1, 2, .inl (fun _ => 0))), (q4, .inl (G.2 0, 60, .inl (fun _ => 0))), (q5, .inl (G.2 0, 60, .inl (fun _ => 0))), (q6, .inl (G.2 0, 60, .inl (fun _ => 0))), (q7, .inl (G.2 0, 120, .inl (fun _ => 0))), (q8, .inl (G.2 0, 130, .inl (fun _ => 0)))]) H := hP
  replace hD : va_D A ([(h0, .inr (4, [.ref q1, .ref q2, .ref q3, .ref q4, .int 0, .ref q5, .ref q6, .ref q7, .ref q8, .null, .int 0, .null])), (q1, .inl (G.2 0, 130, .inl (fun _ => 0))), (q2, .inl (G.2 0, 260, .inl (fun _ => 0))), (q3, .inl (G.2 1, 2, .inl (fun _ => 0))), (q4, .inl (G.2 0, 60, .inl (fun _ => 0))), (q5, .inl (G.2 0, 60, .inl (fun _ => 0))), (q6, .inl (G.2 0, 60, .inl (fun _ => 0))), (q7, .inl (G.2 0, 120, .inl (fun _ => 0))), (q8, .inl (G.2 0, 130, .inl (fun _ => 0)))]) := hD
  refine lv_aload_n hx hb dX4_init_70 rfl (lv_at hl 0 rfl) ?_
  refine lv_sipush (v := 130) hx hb dX4_init_71 (by decide) ?_
  refine y_newi (N' := 130) hx hb ha3 hK hP hD hS hA (by decide) (by decide) (Nat.le_of_ble_eq_true rfl) (Nat.le_of_ble_eq_true rfl) (Nat.le_of_ble_eq_true rfl) dX4_init_74 (fun q9 H hP hD hS => ?_)
  replace hP : va_P G.1 vwCl ([(h0, .inr (4, [.ref q1, .ref q2, .ref q3, .ref q4, .int 0, .ref q5, .ref q6, .ref q7, .ref q8, .null, .int 0, .null])), (q1, .inl (G.2 0, 130, .inl (fun _ => 0))), (q2, .inl (G.2 0, 260, .inl (fun _ => 0))), (q3, .inl (G.2 1, 2, .inl (fun _ => 0))), (q4, .inl (G.2 0, 60, .inl (fun _ => 0))), (q5, .inl (G.2 0, 60, .inl (fun _ => 0))), (q6, .inl (G.2 0, 60, .inl (fun _ => 0))), (q7, .inl (G.2 0, 120, .inl (fun _ => 0))), (q8, .inl (G.2 0, 130, .inl (fun _ => 0))), (q9, .inl (G.2 0, 130, .inl (fun _ => 0)))]) H := hP
  replace hD : va_D A ([(h0, .inr (4, [.ref q1, .ref q2, .ref q3, .ref q4, .int 0, .ref q5, .ref q6, .ref q7, .ref q8, .null, .int 0, .null])), (q1, .inl (G.2 0, 130, .inl (fun _ => 0))), (q2, .inl (G.2 0, 260, .inl (fun _ => 0))), (q3, .inl (G.2 1, 2, .inl (fun _ => 0))), (q4, .inl (G.2 0, 60, .inl (fun _ => 0))), (q5, .inl (G.2 0, 60, .inl (fun _ => 0))), (q6, .inl (G.2 0, 60, .inl (fun _ => 0))), (q7, .inl (G.2 0, 120, .inl (fun _ => 0))), (q8, .inl (G.2 0, 130, .inl (fun _ => 0))), (q9, .inl (G.2 0, 130, .inl (fun _ => 0)))]) := hD
  refine W.widen (k := 9) (n := 952) (Nat.le_of_ble_eq_true rfl) (Nat.le_of_ble_eq_true rfl) ?_
  refine va_putF (D := G.1) (ci := 4) (v := .ref q9) (ty := tyX4 9) (C := RX4) (T := TX4) (N := 12) hx hb hts iwX4 tyX4 tyX4_ok nmX4 hown hK hP hD hS 0 rfl rfl 9 (by decide) ha13 (fun _ h9 => h9) rfl hin rfl (by decide +kernel) rfl rfl (Nat.le_of_ble_eq_true rfl) dX4_init_76 (fun H locs hP hD hS => ?_)
  replace hP : va_P G.1 vwCl ([(h0, .inr (4, [.ref q1, .ref q2, .ref q3, .ref q4, .int 0, .ref q5, .ref q6, .ref q7, .ref q8, .ref q9, .int 0, .null])), (q1, .inl (G.2 0, 130, .inl (fun _ => 0))), (q2, .inl (G.2 0, 260, .inl (fun _ => 0))), (q3, .inl (G.2 1, 2, .inl (fun _ => 0))), (q4, .inl (G.2 0, 60, .inl (fun _ => 0))), (q5, .inl (G.2 0, 60, .inl (fun _ => 0))), (q6, .inl (G.2 0, 60, .inl (fun _ => 0))), (q7, .inl (G.2 0, 120, .inl (fun _ => 0))), (q8, .inl (G.2 0, 130, .inl (fun _ => 0))), (q9, .inl (G.2 0, 130, .inl (fun _ => 0)))]) H := hP
  replace hD : va_D A ([(h0, .inr (4, [.ref q1, .ref q2, .ref q3, .ref q4, .int 0, .ref q5, .ref q6, .ref q7, .ref q8, .ref q9, .int 0, .null])), (q1, .inl (G.2 0, 130, .inl (fun _ => 0))), (q2, .inl (G.2 0, 260, .inl (fun _ => 0))), (q3, .inl (G.2 1, 2, .inl (fun _ => 0))), (q4, .inl (G.2 0, 60, .inl (fun _ => 0))), (q5, .inl (G.2 0, 60, .inl (fun _ => 0))), (q6, .inl (G.2 0, 60, .inl (fun _ => 0))), (q7, .inl (G.2 0, 120, .inl (fun _ => 0))), (q8, .inl (G.2 0, 130, .inl (fun _ => 0))), (q9, .inl (G.2 0, 130, .inl (fun _ => 0)))]) := hD
  refine lv_aload_n hx hb dX4_init_79 rfl (lv_at hl 0 rfl) ?_
  refine lv_sipush (v := 130) hx hb dX4_init_80 (by decide) ?_
  refine y_newi (N' := 130) hx hb ha3 hK hP hD hS hA (by decide) (by decide) (Nat.le_of_ble_eq_true rfl) (Nat.le_of_ble_eq_true rfl) (Nat.le_of_ble_eq_true rfl) dX4_init_83 (fun q10 H hP hD hS => ?_)
  replace hP : va_P G.1 vwCl ([(h0, .inr (4, [.ref q1, .ref q2, .ref q3, .ref q4, .int 0, .ref q5, .ref q6, .ref q7, .ref q8, .ref q9, .int 0, .null])), (q1, .inl (G.2 0, 130, .inl (fun _ => 0))), (q2, .inl (G.2 0, 260, .inl (fun _ => 0))), (q3, .inl (G.2 1, 2, .inl (fun _ => 0))), (q4, .inl (G.2 0, 60, .inl (fun _ => 0))), (q5, .inl (G.2 0, 60, .inl (fun _ => 0))), (q6, .inl (G.2 0, 60, .inl (fun _ => 0))), (q7, .inl (G.2 0, 120, .inl (fun _ => 0))), (q8, .inl (G.2 0, 130, .inl (fun _ => 0))), (q9, .inl (G.2 0, 130, .inl (fun _ => 0))), (q10, .inl (G.2 0, 130, .inl (fun _ => 0)))]) H := hP
  replace hD : va_D A ([(h0, .inr (4, [.ref q1, .ref q2, .ref q3, .ref q4, .int 0, .ref q5, .ref q6, .ref q7, .ref q8, .ref q9, .int 0, .null])), (q1, .inl (G.2 0, 130, .inl (fun _ => 0))), (q2, .inl (G.2 0, 260, .inl (fun _ => 0))), (q3, .inl (G.2 1, 2, .inl (fun _ => 0))), (q4, .inl (G.2 0, 60, .inl (fun _ => 0))), (q5, .inl (G.2 0, 60, .inl (fun _ => 0))), (q6, .inl (G.2 0, 60, .inl (fun _ => 0))), (q7, .inl (G.2 0, 120, .inl (fun _ => 0))), (q8, .inl (G.2 0, 130, .inl (fun _ => 0))), (q9, .inl (G.2 0, 130, .inl (fun _ => 0))), (q10, .inl (G.2 0, 130, .inl (fun _ => 0)))]) := hD
  refine W.widen (k := 10) (n := 1082) (Nat.le_of_ble_eq_true rfl) (Nat.le_of_ble_eq_true rfl) ?_
  refine va_putF (D := G.1) (ci := 4) (v := .ref q10) (ty := tyX4 11) (C := RX4) (T := TX4) (N := 12) hx hb hts iwX4 tyX4 tyX4_ok nmX4 hown hK hP hD hS 0 rfl rfl 11 (by decide) ha14 (fun _ h9 => h9) rfl hin rfl (by decide +kernel) rfl rfl (Nat.le_of_ble_eq_true rfl) dX4_init_85 (fun H locs hP hD hS => ?_)
  replace hP : va_P G.1 vwCl ([(h0, .inr (4, [.ref q1, .ref q2, .ref q3, .ref q4, .int 0, .ref q5, .ref q6, .ref q7, .ref q8, .ref q9, .int 0, .ref q10])), (q1, .inl (G.2 0, 130, .inl (fun _ => 0))), (q2, .inl (G.2 0, 260, .inl (fun _ => 0))), (q3, .inl (G.2 1, 2, .inl (fun _ => 0))), (q4, .inl (G.2 0, 60, .inl (fun _ => 0))), (q5, .inl (G.2 0, 60, .inl (fun _ => 0))), (q6, .inl (G.2 0, 60, .inl (fun _ => 0))), (q7, .inl (G.2 0, 120, .inl (fun _ => 0))), (q8, .inl (G.2 0, 130, .inl (fun _ => 0))), (q9, .inl (G.2 0, 130, .inl (fun _ => 0))), (q10, .inl (G.2 0, 130, .inl (fun _ => 0)))]) H := hP
  replace hD : va_D A ([(h0, .inr (4, [.ref q1, .ref q2, .ref q3, .ref q4, .int 0, .ref q5, .ref q6, .ref q7, .ref q8, .ref q9, .int 0, .ref q10])), (q1, .inl (G.2 0, 130, .inl (fun _ => 0))), (q2, .inl (G.2 0, 260, .inl (fun _ => 0))), (q3, .inl (G.2 1, 2, .inl (fun _ => 0))), (q4, .inl (G.2 0, 60, .inl (fun _ => 0))), (q5, .inl (G.2 0, 60, .inl (fun _ => 0))), (q6, .inl (G.2 0, 60, .inl (fun _ => 0))), (q7, .inl (G.2 0, 120, .inl (fun _ => 0))), (q8, .inl (G.2 0, 130, .inl (fun _ => 0))), (q9, .inl (G.2 0, 130, .inl (fun _ => 0))), (q10, .inl (G.2 0, 130, .inl (fun _ => 0)))]) := hD
  refine lv_aload_n hx hb dX4_init_88 rfl (lv_at hl 0 rfl) ?_
  refine va_get (D := G.1) (ci := 4) (v := .ref q1) (C := RX4) (T := TX4) (N := 12) hx hb hts iwX4 hown hK hP 0 rfl rfl 0 (by decide) ha4 (fun _ h9 => h9) rfl dX4_init_89 ?_
  refine lv_bipush (v := 121) hx hb dX4_init_92 (by decide) ?_
  refine lv_iconst (v := 5) hx hb dX4_init_94 (by decide) ?_
  refine va_iast hx hb hK hP hD hS 1 0 rfl rfl (by decide : ¬ ((121 : Int32) < 0 ∨ 130 ≤ (121 : Int32).toNatClampNeg)) dX4_init_95 (fun H locs hP hD hS => ?_)
  replace hP : va_P G.1 vwCl ([(h0, .inr (4, [.ref q1, .ref q2, .ref q3, .ref q4, .int 0, .ref q5, .ref q6, .ref q7, .ref q8, .ref q9, .int 0, .ref q10])), (q1, .inl (G.2 0, 130, .inl (upd (fun _ => 0) 121 5))), (q2, .inl (G.2 0, 260, .inl (fun _ => 0))), (q3, .inl (G.2 1, 2, .inl (fun _ => 0))), (q4, .inl (G.2 0, 60, .inl (fun _ => 0))), (q5, .inl (G.2 0, 60, .inl (fun _ => 0))), (q6, .inl (G.2 0, 60, .inl (fun _ => 0))), (q7, .inl (G.2 0, 120, .inl (fun _ => 0))), (q8, .inl (G.2 0, 130, .inl (fun _ => 0))), (q9, .inl (G.2 0, 130, .inl (fun _ => 0))), (q10, .inl (G.2 0, 130, .inl (fun _ => 0)))]) H := hP
  replace hD : va_D A ([(h0, .inr (4, [.ref q1, .ref q2, .ref q3, .ref q4, .int 0, .ref q5, .ref q6, .ref q7, .ref q8, .ref q9, .int 0, .ref q10])), (q1, .inl (G.2 0, 130, .inl (upd (fun _ => 0) 121 5))), (q2, .inl (G.2 0, 260, .inl (fun _ => 0))), (q3, .inl (G.2 1, 2, .inl (fun _ => 0))), (q4, .inl (G.2 0, 60, .inl (fun _ => 0))), (q5, .inl (G.2 0, 60, .inl (fun _ => 0))), (q6, .inl (G.2 0, 60, .inl (fun _ => 0))), (q7, .inl (G.2 0, 120, .inl (fun _ => 0))), (q8, .inl (G.2 0, 130, .inl (fun _ => 0))), (q9, .inl (G.2 0, 130, .inl (fun _ => 0))), (q10, .inl (G.2 0, 130, .inl (fun _ => 0)))]) := hD
  refine lv_aload_n hx hb dX4_init_96 rfl (lv_at hl 0 rfl) ?_
  refine va_get (D := G.1) (ci := 4) (v := .ref q1) (C := RX4) (T := TX4) (N := 12) hx hb hts iwX4 hown hK hP 0 rfl rfl 0 (by decide) ha4 (fun _ h9 => h9) rfl dX4_init_97 ?_
  refine lv_bipush (v := 123) hx hb dX4_init_100 (by decide) ?_
  refine lv_iconst (v := 1) hx hb dX4_init_102 (by decide) ?_
  refine va_iast hx hb hK hP hD hS 1 0 rfl rfl (by decide : ¬ ((123 : Int32) < 0 ∨ 130 ≤ (123 : Int32).toNatClampNeg)) dX4_init_103 (fun H locs hP hD hS => ?_)
  replace hP : va_P G.1 vwCl ([(h0, .inr (4, [.ref q1, .ref q2, .ref q3, .ref q4, .int 0, .ref q5, .ref q6, .ref q7, .ref q8, .ref q9, .int 0, .ref q10])), (q1, .inl (G.2 0, 130, .inl (upd (upd (fun _ => 0) 121 5) 123 1))), (q2, .inl (G.2 0, 260, .inl (fun _ => 0))), (q3, .inl (G.2 1, 2, .inl (fun _ => 0))), (q4, .inl (G.2 0, 60, .inl (fun _ => 0))), (q5, .inl (G.2 0, 60, .inl (fun _ => 0))), (q6, .inl (G.2 0, 60, .inl (fun _ => 0))), (q7, .inl (G.2 0, 120, .inl (fun _ => 0))), (q8, .inl (G.2 0, 130, .inl (fun _ => 0))), (q9, .inl (G.2 0, 130, .inl (fun _ => 0))), (q10, .inl (G.2 0, 130, .inl (fun _ => 0)))]) H := hP
  replace hD : va_D A ([(h0, .inr (4, [.ref q1, .ref q2, .ref q3, .ref q4, .int 0, .ref q5, .ref q6, .ref q7, .ref q8, .ref q9, .int 0, .ref q10])), (q1, .inl (G.2 0, 130, .inl (upd (upd (fun _ => 0) 121 5) 123 1))), (q2, .inl (G.2 0, 260, .inl (fun _ => 0))), (q3, .inl (G.2 1, 2, .inl (fun _ => 0))), (q4, .inl (G.2 0, 60, .inl (fun _ => 0))), (q5, .inl (G.2 0, 60, .inl (fun _ => 0))), (q6, .inl (G.2 0, 60, .inl (fun _ => 0))), (q7, .inl (G.2 0, 120, .inl (fun _ => 0))), (q8, .inl (G.2 0, 130, .inl (fun _ => 0))), (q9, .inl (G.2 0, 130, .inl (fun _ => 0))), (q10, .inl (G.2 0, 130, .inl (fun _ => 0)))]) := hD
  refine lv_aload_n hx hb dX4_init_104 rfl (lv_at hl 0 rfl) ?_
  refine va_get (D := G.1) (ci := 4) (v := .ref q1) (C := RX4) (T := TX4) (N := 12) hx hb hts iwX4 hown hK hP 0 rfl rfl 0 (by decide) ha4 (fun _ h9 => h9) rfl dX4_init_105 ?_
  refine lv_bipush (v := 124) hx hb dX4_init_108 (by decide) ?_
  refine lv_iconst (v := 1) hx hb dX4_init_110 (by decide) ?_
  refine va_iast hx hb hK hP hD hS 1 0 rfl rfl (by decide : ¬ ((124 : Int32) < 0 ∨ 130 ≤ (124 : Int32).toNatClampNeg)) dX4_init_111 (fun H locs hP hD hS => ?_)
  replace hP : va_P G.1 vwCl ([(h0, .inr (4, [.ref q1, .ref q2, .ref q3, .ref q4, .int 0, .ref q5, .ref q6, .ref q7, .ref q8, .ref q9, .int 0, .ref q10])), (q1, .inl (G.2 0, 130, .inl (upd (upd (upd (fun _ => 0) 121 5) 123 1) 124 1))), (q2, .inl (G.2 0, 260, .inl (fun _ => 0))), (q3, .inl (G.2 1, 2, .inl (fun _ => 0))), (q4, .inl (G.2 0, 60, .inl (fun _ => 0))), (q5, .inl (G.2 0, 60, .inl (fun _ => 0))), (q6, .inl (G.2 0, 60, .inl (fun _ => 0))), (q7, .inl (G.2 0, 120, .inl (fun _ => 0))), (q8, .inl (G.2 0, 130, .inl (fun _ => 0))), (q9, .inl (G.2 0, 130, .inl (fun _ => 0))), (q10, .inl (G.2 0, 130, .inl (fun _ => 0)))]) H := hP
  replace hD : va_D A ([(h0, .inr (4, [.ref q1, .ref q2, .ref q3, .ref q4, .int 0, .ref q5, .ref q6, .ref q7, .ref q8, .ref q9, .int 0, .ref q10])), (q1, .inl (G.2 0, 130, .inl (upd (upd (upd (fun _ => 0) 121 5) 123 1) 124 1))), (q2, .inl (G.2 0, 260, .inl (fun _ => 0))), (q3, .inl (G.2 1, 2, .inl (fun _ => 0))), (q4, .inl (G.2 0, 60, .inl (fun _ => 0))), (q5, .inl (G.2 0, 60, .inl (fun _ => 0))), (q6, .inl (G.2 0, 60, .inl (fun _ => 0))), (q7, .inl (G.2 0, 120, .inl (fun _ => 0))), (q8, .inl (G.2 0, 130, .inl (fun _ => 0))), (q9, .inl (G.2 0, 130, .inl (fun _ => 0))), (q10, .inl (G.2 0, 130, .inl (fun _ => 0)))]) := hD
  refine lv_aload_n hx hb dX4_init_112 rfl (lv_at hl 0 rfl) ?_
  refine va_get (D := G.1) (ci := 4) (v := .ref q1) (C := RX4) (T := TX4) (N := 12) hx hb hts iwX4 hown hK hP 0 rfl rfl 0 (by decide) ha4 (fun _ h9 => h9) rfl dX4_init_113 ?_
  refine lv_bipush (v := 127) hx hb dX4_init_116 (by decide) ?_
  refine lv_iconst (v := 1) hx hb dX4_init_118 (by decide) ?_
  refine va_iast hx hb hK hP hD hS 1 0 rfl rfl (by decide : ¬ ((127 : Int32) < 0 ∨ 130 ≤ (127 : Int32).toNatClampNeg)) dX4_init_119 (fun H locs hP hD hS => ?_)
  replace hP : va_P G.1 vwCl ([(h0, .inr (4, [.ref q1, .ref q2, .ref q3, .ref q4, .int 0, .ref q5, .ref q6, .ref q7, .ref q8, .ref q9, .int 0, .ref q10])), (q1, .inl (G.2 0, 130, .inl (upd (upd (upd (upd (fun _ => 0) 121 5) 123 1) 124 1) 127 1))), (q2, .inl (G.2 0, 260, .inl (fun _ => 0))), (q3, .inl (G.2 1, 2, .inl (fun _ => 0))), (q4, .inl (G.2 0, 60, .inl (fun _ => 0))), (q5, .inl (G.2 0, 60, .inl (fun _ => 0))), (q6, .inl (G.2 0, 60, .inl (fun _ => 0))), (q7, .inl (G.2 0, 120, .inl (fun _ => 0))), (q8, .inl (G.2 0, 130, .inl (fun _ => 0))), (q9, .inl (G.2 0, 130, .inl (fun _ => 0))), (q10, .inl (G.2 0, 130, .inl (fun _ => 0)))]) H := hP
  replace hD : va_D A ([(h0, .inr (4, [.ref q1, .ref q2, .ref q3, .ref q4, .int 0, .ref q5, .ref q6, .ref q7, .ref q8, .ref q9, .int 0, .ref q10])), (q1, .inl (G.2 0, 130, .inl (upd (upd (upd (upd (fun _ => 0) 121 5) 123 1) 124 1) 127 1))), (q2, .inl (G.2 0, 260, .inl (fun _ => 0))), (q3, .inl (G.2 1, 2, .inl (fun _ => 0))), (q4, .inl (G.2 0, 60, .inl (fun _ => 0))), (q5, .inl (G.2 0, 60, .inl (fun _ => 0))), (q6, .inl (G.2 0, 60, .inl (fun _ => 0))), (q7, .inl (G.2 0, 120, .inl (fun _ => 0))), (q8, .inl (G.2 0, 130, .inl (fun _ => 0))), (q9, .inl (G.2 0, 130, .inl (fun _ => 0))), (q10, .inl (G.2 0, 130, .inl (fun _ => 0)))]) := hD
  refine lv_aload_n hx hb dX4_init_120 rfl (lv_at hl 0 rfl) ?_
  refine va_get (D := G.1) (ci := 4) (v := .ref q1) (C := RX4) (T := TX4) (N := 12) hx hb hts iwX4 hown hK hP 0 rfl rfl 0 (by decide) ha4 (fun _ h9 => h9) rfl dX4_init_121 ?_
  refine lv_sipush (v := 128) hx hb dX4_init_124 (by decide) ?_
  refine lv_iconst (v := 1) hx hb dX4_init_127 (by decide) ?_
  refine va_iast hx hb hK hP hD hS 1 0 rfl rfl (by decide : ¬ ((128 : Int32) < 0 ∨ 130 ≤ (128 : Int32).toNatClampNeg)) dX4_init_128 (fun H locs hP hD hS => ?_)
  replace hP : va_P G.1 vwCl ([(h0, .inr (4, [.ref q1, .ref q2, .ref q3, .ref q4, .int 0, .ref q5, .ref q6, .ref q7, .ref q8, .ref q9, .int 0, .ref q10])), (q1, .inl (G.2 0, 130, .inl (upd (upd (upd (upd (upd (fun _ => 0) 121 5) 123 1) 124 1) 127 1) 128 1))), (q2, .inl (G.2 0, 260, .inl (fun _ => 0))), (q3, .inl (G.2 1, 2, .inl (fun _ => 0))), (q4, .inl (G.2 0, 60, .inl (fun _ => 0))), (q5, .inl (G.2 0, 60, .inl (fun _ => 0))), (q6, .inl (G.2 0, 60, .inl (fun _ => 0))), (q7, .inl (G.2 0, 120, .inl (fun _ => 0))), (q8, .inl (G.2 0, 130, .inl (fun _ => 0))), (q9, .inl (G.2 0, 130, .inl (fun _ => 0))), (q10, .inl (G.2 0, 130, .inl (fun _ => 0)))]) H := hP
  replace hD : va_D A ([(h0, .inr (4, [.ref q1, .ref q2, .ref q3, .ref q4, .int 0, .ref q5, .ref q6, .ref q7, .ref q8, .ref q9, .int 0, .ref q10])), (q1, .inl (G.2 0, 130, .inl (upd (upd (upd (upd (upd (fun _ => 0) 121 5) 123 1) 124 1) 127 1) 128 1))), (q2, .inl (G.2 0, 260, .inl (fun _ => 0))), (q3, .inl (G.2 1, 2, .inl (fun _ => 0))), (q4, .inl (G.2 0, 60, .inl (fun _ => 0))), (q5, .inl (G.2 0, 60, .inl (fun _ => 0))), (q6, .inl (G.2 0, 60, .inl (fun _ => 0))), (q7, .inl (G.2 0, 120, .inl (fun _ => 0))), (q8, .inl (G.2 0, 130, .inl (fun _ => 0))), (q9, .inl (G.2 0, 130, .inl (fun _ => 0))), (q10, .inl (G.2 0, 130, .inl (fun _ => 0)))]) := hD
  refine lv_aload_n hx hb dX4_init_129 rfl (lv_at hl 0 rfl) ?_
  refine va_get (D := G.1) (ci := 4) (v := .ref q1) (C := RX4) (T := TX4) (N := 12) hx hb hts iwX4 hown hK hP 0 rfl rfl 0 (by decide) ha4 (fun _ h9 => h9) rfl dX4_init_130 ?_
  refine lv_sipush (v := 129) hx hb dX4_init_133 (by decide) ?_
  refine lv_iconst (v := 2) hx hb dX4_init_136 (by decide) ?_
  refine va_iast hx hb hK hP hD hS 1 0 rfl rfl (by decide : ¬ ((129 : Int32) < 0 ∨ 130 ≤ (129 : Int32).toNatClampNeg)) dX4_init_137 (fun H locs hP hD hS => ?_)
  replace hP : va_P G.1 vwCl ([(h0, .inr (4, [.ref q1, .ref q2, .ref q3, .ref q4, .int 0, .ref q5, .ref q6, .ref q7, .ref q8, .ref q9, .int 0, .ref q10])), (q1, .inl (G.2 0, 130, .inl (upd (upd (upd (upd (upd (upd (fun _ => 0) 121 5) 123 1) 124 1) 127 1) 128 1) 129 2))), (q2, .inl (G.2 0, 260, .inl (fun _ => 0))), (q3, .inl (G.2 1, 2, .inl (fun _ => 0))), (q4, .inl (G.2 0, 60, .inl (fun _ => 0))), (q5, .inl (G.2 0, 60, .inl (fun _ => 0))), (q6, .inl (G.2 0, 60, .inl (fun _ => 0))), (q7, .inl (G.2 0, 120, .inl (fun _ => 0))), (q8, .inl (G.2 0, 130, .inl (fun _ => 0))), (q9, .inl (G.2 0, 130, .inl (fun _ => 0))), (q10, .inl (G.2 0, 130, .inl (fun _ => 0)))]) H := hP
  replace hD : va_D A ([(h0, .inr (4, [.ref q1, .ref q2, .ref q3, .ref q4, .int 0, .ref q5, .ref q6, .ref q7, .ref q8, .ref q9, .int 0, .ref q10])), (q1, .inl (G.2 0, 130, .inl (upd (upd (upd (upd (upd (upd (fun _ => 0) 121 5) 123 1) 124 1) 127 1) 128 1) 129 2))), (q2, .inl (G.2 0, 260, .inl (fun _ => 0))), (q3, .inl (G.2 1, 2, .inl (fun _ => 0))), (q4, .inl (G.2 0, 60, .inl (fun _ => 0))), (q5, .inl (G.2 0, 60, .inl (fun _ => 0))), (q6, .inl (G.2 0, 60, .inl (fun _ => 0))), (q7, .inl (G.2 0, 120, .inl (fun _ => 0))), (q8, .inl (G.2 0, 130, .inl (fun _ => 0))), (q9, .inl (G.2 0, 130, .inl (fun _ => 0))), (q10, .inl (G.2 0, 130, .inl (fun _ => 0)))]) := hD
  obtain ⟨aF, haF⟩ : ∃ aF : Nat → Nat, aF = fun k => if k = 0 then h0 else if k = 1 then q1 else if k = 2 then q2 else if k = 3 then q3 else if k = 4 then q4 else if k = 5 then q5 else if k = 6 then q6 else if k = 7 then q7 else if k = 8 then q8 else if k = 9 then q9 else if k = 10 then q10 else 0 := ⟨_, rfl⟩
  have a0 : aF 0 = h0 := by rw [haF]; rfl
  have a1 : aF 1 = q1 := by rw [haF]; rfl
  have a2 : aF 2 = q2 := by rw [haF]; rfl
  have a3 : aF 3 = q3 := by rw [haF]; rfl
  have a4 : aF 4 = q4 := by rw [haF]; rfl
  have a5 : aF 5 = q5 := by rw [haF]; rfl
  have a6 : aF 6 = q6 := by rw [haF]; rfl
  have a7 : aF 7 = q7 := by rw [haF]; rfl
  have a8 : aF 8 = q8 := by rw [haF]; rfl
  have a9 : aF 9 = q9 := by rw [haF]; rfl
  have a10 : aF 10 = q10 := by rw [haF]; rfl
  have hP9 : va_P G.1 vwCl (wMod G aF MZ) H := by first | (rw [haF] at hP ⊢; exact hP) | (rw [haF]; exact hP)
  have hD9 : va_D A (wMod G aF MZ) := by first | (rw [haF] at hD ⊢; exact hD) | (rw [haF]; exact hD)
  exact W.vret hx hb hr (fun t2 ht2 hW => ⟨⟨aF, rfl, a0, by rw [ht2]; exact hP9, hD9⟩, hS.F ht2⟩) hS.2.2 dX4_init_138
abbrev rmX3_init : Room := { frames := 2, cells := 39, slots := 2169, locals := 44 }
set_option maxHeartbeats 8000000 in
set_option maxRecDepth 100000 in
theorem c_X3_init (l : Launch) (G : GT) (t : Nat → Nat) (h0 sz : Nat) : Met l yX3_init wsX3_init rmX3_init (PreN G t [.ref h0] [(h0, .inr (3, [.null, .null, .null, .int 0, .null, .null]))] sz) (QH G h0 (va_A [(h0, .inr (3, [.null, .null, .null, .int 0, .null, .null]))] sz)) 39 2169 (va_A [(h0, .inr (3, [.null, .null, .null, .int 0, .null, .null]))] sz) := by
  refine Met.ofW (cc := cX3_init) (maxL := 2) (ret := none) (by decide) rfl ?_
  intro p e s m args below meth c s₁ Bd hml hv
  obtain ⟨rfl, hsz, hP, hC, hD0, hN, hT0⟩ := hv
  have hx := Bd.exec
  have hb := Bd.bytes
  have hr := Bd.returns
  have hts := atoms_spec (ws := wsX3_init) Bd.pre
  have hown : s.vm.findClass RX3 = some m.cls := findClass_of_methodNamed Bd.named
  have hlocks := Bd.notSynchronized
  have hin : meth.name = "<init>" := (name_of_methodNamed Bd.named Bd.method).1
  have hK := hC.1
  have iwX0 : ∀ w ∈ wsX00, w ∈ wsX3_init := by decide +kernel
  have iwX1 : ∀ w ∈ wsX10, w ∈ wsX3_init := by decide +kernel
  have iwX2 : ∀ w ∈ wsX20, w ∈ wsX3_init := by decide +kernel
  have iwX3 : ∀ w ∈ wsX30, w ∈ wsX3_init := by decide +kernel
  have ha0 := hts (.methodLink RX3 3 objectInit) (by decide +kernel)
  have ha1 := hts (.instanceMethod objectInit) (by decide +kernel)
  have ha2 := hts (.code objectInit ⟨#[0xb1]⟩ 1 none) (by decide +kernel)
  have ha3 := hts (.classLink RX3 9 RX2) (by decide +kernel)
  have ha4 := hts (.instantiable RX2 2) (by decide +kernel)
  have ha5 := hts (.initialized RX2) (by decide +kernel)
  have ha6 := hts (.instanceMethod yX2_init) (by decide +kernel)
  have ha7 := hts (.fieldLink RX3 12 "HeadMarks" "pad" "LHeadMarks$Pad;") (by decide +kernel)
  have ha8 := hts (.classLink RX3 16 RX0) (by decide +kernel)
  have ha9 := hts (.instantiable RX0 4) (by decide +kernel)
  have ha10 := hts (.initialized RX0) (by decide +kernel)
  have ha11 := hts (.instanceMethod yX0_init) (by decide +kernel)
  have ha12 := hts (.fieldLink RX3 19 "HeadMarks" "book" "LHeadMarks$Book;") (by decide +kernel)
  have ha13 := hts (.fieldLink RX3 23 "HeadMarks" "images" "[LHeadMarks$Book;") (by decide +kernel)
  have ha14 := hts (.fieldLink RX3 27 "HeadMarks" "imagesKept" "I") (by decide +kernel)
  have ha15 := hts (.classLink RX3 31 RX1) (by decide +kernel)
  have ha16 := hts (.instantiable RX1 9) (by decide +kernel)
  have ha17 := hts (.initialized RX1) (by decide +kernel)
  have ha18 := hts (.instanceMethod yX1_init) (by decide +kernel)
  have ha19 := hts (.fieldLink RX3 34 "HeadMarks" "now" "LHeadMarks$Layout;") (by decide +kernel)
  have ha20 := hts (.fieldLink RX3 38 "HeadMarks" "trial" "LHeadMarks$Layout;") (by decide +kernel)
  subst hsz
  have hD := hD0.self (sz := s.heap.size)
  generalize hAe : va_A [(h0, .inr (3, [.null, .null, .null, .int 0, .null, .null]))] s.heap.size = A at hD hT0 ⊢
  have hA : ∀ q : Nat, s.heap.size ≤ q → A q := fun q h => by rw [← hAe]; exact Or.inr h
  have hS : va_S A s.heap s.heap [] := va_S.rf
  have hl := lv_entry [.ref h0] (n := 2) (Nat.le_of_ble_eq_true rfl)
  rw [lg_entry_eq]
  generalize (lg_sl [.ref h0] ++ List.replicate (2 - (lg_sl [.ref h0]).length) Slot.unset).toArray = ls at hl ⊢
  have hl : lv_has ls 2 [(0, .ref h0)] := hl
  refine lv_aload_n hx hb dX3_init_0 rfl (lv_at hl 0 rfl) ?_
  refine W.objInit hx hb hown ha0 ha1 ha2 rfl (by rw [hml]; exact hl.1) rfl dX3_init_1 (Nat.le_of_ble_eq_true rfl) (Nat.le_of_ble_eq_true rfl) ?_
  refine W.eq (g2 := F0 m 4 ls []) rfl ?_
  refine lv_aload_n hx hb dX3_init_4 rfl (lv_at hl 0 rfl) ?_
  refine va_new (ci := 2) (fs := [.null, .int 0]) (C := RX2) (T := TX2) (N := 2) hx hb hts iwX2 tyX2 tyX2_ok hown ha3 ha4 ha5 hK hP hD hS hA rfl (fun j hj => by rcases (show j = 0 ∨ j = 1 by omega) with rfl | rfl <;> rfl) (Nat.le_of_ble_eq_true rfl) (Nat.le_of_ble_eq_true rfl) dX3_init_5 (fun q1 H hP hD hS => ?_)
  replace hP : va_P G.1 vwCl ([(h0, .inr (3, [.null, .null, .null, .int 0, .null, .null])), (q1, .inr (2, [.null, .int 0]))]) H := hP
  replace hD : va_D A ([(h0, .inr (3, [.null, .null, .null, .int 0, .null, .null])), (q1, .inr (2, [.null, .int 0]))]) := hD
  refine W.widen (k := 1) (n := 2) (Nat.le_of_ble_eq_true rfl) (Nat.le_of_ble_eq_true rfl) ?_
  refine lv_dup hx hb dX3_init_8 rfl ?_
  have hF := va_free (wc := [(q1, .inr (2, [.null, .int 0]))]) hD hS hA [1] rfl
  refine va_callv (va_runIN (As := []) (rest := [.ref q1, .ref h0]) ⟨hx, hb, hml, hown, hts⟩ (c_X2_init l G q1 _) ⟨va_cnB 0 hts ggX3_init_X2_init rfl rfl rfl hN.1 ha5 (by decide +kernel) ⟨(Nat.le_of_ble_eq_true rfl), (Nat.le_of_ble_eq_true rfl)⟩, rfl, ha6⟩ ⟨PreW.blind, y_preW hC (hP.sub (ws' := [(q1, .inr (2, [.null, .int 0]))]) [1] rfl) (hD.sub (ws' := [(q1, .inr (2, [.null, .int 0]))]) [1] (by decide) rfl)⟩ rfl rfl hl.1 rfl (lv_room (Nat.le_of_ble_eq_true rfl)) dX3_init_9 ⟨(Nat.le_of_ble_eq_true rfl), (Nat.le_of_ble_eq_true rfl)⟩) hS (fun q _ h => hF q h) hF (fun bp2 t1 H1 locs1 ht _ hw hB _ hk1 hS1 => ?_)
  have hw : bp2 0 = q1 := hw
  rw [ht] at hB
  have hJ := va_join (wr := [(h0, .inr (3, [.null, .null, .null, .int 0, .null, .null]))]) (w1 := wPad G bp2 ZO) hP hD [1] [0] rfl rfl (by decide) (by decide) hk1 hF hB.1 hB.2
  clear hF hk1 hB hP hD hS
  have hP := hJ.1
  have hD := hJ.2
  have hS := hS1
  clear hJ hS1
  subst hw
  generalize H1 = H at hP hS ht ⊢
  replace hP : va_P G.1 vwCl ([(h0, .inr (3, [.null, .null, .null, .int 0, .null, .null]))] ++ (wPad G bp2 ZO)) H := hP
  replace hD : va_D A ([(h0, .inr (3, [.null, .null, .null, .int 0, .null, .null]))] ++ (wPad G bp2 ZO)) := hD
  refine W.widen (k := 2) (n := 62) (Nat.le_of_ble_eq_true rfl) (Nat.le_of_ble_eq_true rfl) ?_
  refine va_putF (D := G.1) (ci := 3) (v := .ref (bp2 0)) (ty := tyX3 0) (C := RX3) (T := TX3) (N := 6) hx hb hts iwX3 tyX3 tyX3_ok nmX3 hown hK hP hD hS 0 rfl rfl 0 (by decide) ha7 (fun _ h9 => h9) rfl hin rfl (by decide +kernel) rfl rfl (Nat.le_of_ble_eq_true rfl) dX3_init_12 (fun H locs hP hD hS => ?_)
  replace hP : va_P G.1 vwCl ([(h0, .inr (3, [.ref (bp2 0), .null, .null, .int 0, .null, .null]))] ++ (wPad G bp2 ZO)) H := hP
  replace hD : va_D A ([(h0, .inr (3, [.ref (bp2 0), .null, .null, .int 0, .null, .null]))] ++ (wPad G bp2 ZO)) := hD
  refine lv_aload_n hx hb dX3_init_15 rfl (lv_at hl 0 rfl) ?_
  refine va_new (ci := 0) (fs := [.null, .null, .null, .int 0]) (C := RX0) (T := TX0) (N := 4) hx hb hts iwX0 tyX0 tyX0_ok hown ha8 ha9 ha10 hK hP hD hS hA rfl (fun j hj => by rcases (show j = 0 ∨ j = 1 ∨ j = 2 ∨ j = 3 by omega) with rfl | rfl | rfl | rfl <;> rfl) (Nat.le_of_ble_eq_true rfl) (Nat.le_of_ble_eq_true rfl) dX3_init_16 (fun q3 H hP hD hS => ?_)
  replace hP : va_P G.1 vwCl ([(h0, .inr (3, [.ref (bp2 0), .null, .null, .int 0, .null, .null]))] ++ (wPad G bp2 ZO) ++ [(q3, .inr (0, [.null, .null, .null, .int 0]))]) H := hP
  replace hD : va_D A ([(h0, .inr (3, [.ref (bp2 0), .null, .null, .int 0, .null, .null]))] ++ (wPad G bp2 ZO) ++ [(q3, .inr (0, [.null, .null, .null, .int 0]))]) := hD
  refine W.widen (k := 3) (n := 66) (Nat.le_of_ble_eq_true rfl) (Nat.le_of_ble_eq_true rfl) ?_
  refine lv_dup hx hb dX3_init_19 rfl ?_
  have hF := va_free (wc := [(q3, .inr (0, [.null, .null, .null, .int 0]))]) hD hS hA [3] rfl
  refine va_callv (va_runIN (As := []) (rest := [.ref q3, .ref h0]) ⟨hx, hb, hml, hown, hts⟩ (c_X0_init l G t q3 _) ⟨va_cnB 0 hts ggX3_init_X0_init rfl rfl rfl hN.2.1 ha10 (by decide +kernel) ⟨(Nat.le_of_ble_eq_true rfl), (Nat.le_of_ble_eq_true rfl)⟩, rfl, ha11⟩ ⟨PreN.blind, y_preN hC hN hT0 hS hF (hP.sub (ws' := [(q3, .inr (0, [.null, .null, .null, .int 0]))]) [3] rfl) (hD.sub (ws' := [(q3, .inr (0, [.null, .null, .null, .int 0]))]) [3] (by decide) rfl)⟩ rfl rfl hl.1 rfl (lv_room (Nat.le_of_ble_eq_true rfl)) dX3_init_20 ⟨(Nat.le_of_ble_eq_true rfl), (Nat.le_of_ble_eq_true rfl)⟩) hS (fun q _ h => hF q h) hF (fun bb4 t1 H1 locs1 ht _ hw hB _ hk1 hS1 => ?_)
  have hw : bb4 0 = q3 := hw
  rw [ht] at hB
  have hJ := va_join (wr := [(h0, .inr (3, [.ref (bp2 0), .null, .null, .int 0, .null, .null]))] ++ (wPad G bp2 ZO)) (w1 := wBook G bb4 BZ) hP hD [3] [0, 1, 2] rfl rfl (by decide) (by decide) hk1 hF hB.1 hB.2
  clear hF hk1 hB hP hD hS
  have hP := hJ.1
  have hD := hJ.2
  have hS := hS1
  clear hJ hS1
  subst hw
  generalize H1 = H at hP hS ht ⊢
  replace hP : va_P G.1 vwCl ([(h0, .inr (3, [.ref (bp2 0), .null, .null, .int 0, .null, .null]))] ++ (wPad G bp2 ZO) ++ (wBook G bb4 BZ)) H := hP
  replace hD : va_D A ([(h0, .inr (3, [.ref (bp2 0), .null, .null, .int 0, .null, .null]))] ++ (wPad G bp2 ZO) ++ (wBook G bb4 BZ)) := hD
  refine W.widen (k := 6) (n := 195) (Nat.le_of_ble_eq_true rfl) (Nat.le_of_ble_eq_true rfl) ?_
  refine va_putF (D := G.1) (ci := 3) (v := .ref (bb4 0)) (ty := tyX3 1) (C := RX3) (T := TX3) (N := 6) hx hb hts iwX3 tyX3 tyX3_ok nmX3 hown hK hP hD hS 0 rfl rfl 1 (by decide) ha12 (fun _ h9 => h9) rfl hin rfl (by decide +kernel) rfl rfl (Nat.le_of_ble_eq_true rfl) dX3_init_23 (fun H locs hP hD hS => ?_)
  replace hP : va_P G.1 vwCl ([(h0, .inr (3, [.ref (bp2 0), .ref (bb4 0), .null, .int 0, .null, .null]))] ++ (wPad G bp2 ZO) ++ (wBook G bb4 BZ)) H := hP
  replace hD : va_D A ([(h0, .inr (3, [.ref (bp2 0), .ref (bb4 0), .null, .int 0, .null, .null]))] ++ (wPad G bp2 ZO) ++ (wBook G bb4 BZ)) := hD
  refine lv_aload_n hx hb dX3_init_26 rfl (lv_at hl 0 rfl) ?_
  refine lv_iconst (v := 2) hx hb dX3_init_27 (by decide) ?_
  refine y_newq (N' := 2) hx hb hown ha8 hN.2.2.2.2.2.1 hK hP hD hS hA (by decide) (by decide) (Nat.le_of_ble_eq_true rfl) (Nat.le_of_ble_eq_true rfl) (Nat.le_of_ble_eq_true rfl) dX3_init_28 (fun q5 H hP hD hS => ?_)
  replace hP : va_P G.1 vwCl ([(h0, .inr (3, [.ref (bp2 0), .ref (bb4 0), .null, .int 0, .null, .null]))] ++ (wPad G bp2 ZO) ++ (wBook G bb4 BZ) ++ [(q5, .inl (G.2 2, 2, .inr (.inr (.inr (.inr (fun _ => none))))))]) H := hP
  replace hD : va_D A ([(h0, .inr (3, [.ref (bp2 0), .ref (bb4 0), .null, .int 0, .null, .null]))] ++ (wPad G bp2 ZO) ++ (wBook G bb4 BZ) ++ [(q5, .inl (G.2 2, 2, .inr (.inr (.inr (.inr (fun _ => none))))))]) := hD
  refine W.widen (k := 7) (n := 197) (Nat.le_of_ble_eq_true rfl) (Nat.le_of_ble_eq_true rfl) ?_
  refine va_putF (D := G.1) (ci := 3) (v := .ref q5) (ty := tyX3 2) (C := RX3) (T := TX3) (N := 6) hx hb hts iwX3 tyX3 tyX3_ok nmX3 hown hK hP hD hS 0 rfl rfl 2 (by decide) ha13 (fun _ h9 => h9) rfl hin rfl (by decide +kernel) rfl rfl (Nat.le_of_ble_eq_true rfl) dX3_init_31 (fun H locs hP hD hS => ?_)
  replace hP : va_P G.1 vwCl ([(h0, .inr (3, [.ref (bp2 0), .ref (bb4 0), .ref q5, .int 0, .null, .null]))] ++ (wPad G bp2 ZO) ++ (wBook G bb4 BZ) ++ [(q5, .inl (G.2 2, 2, .inr (.inr (.inr (.inr (fun _ => none))))))]) H := hP
  replace hD : va_D A ([(h0, .inr (3, [.ref (bp2 0), .ref (bb4 0), .ref q5, .int 0, .null, .null]))] ++ (wPad G bp2 ZO) ++ (wBook G bb4 BZ) ++ [(q5, .inl (G.2 2, 2, .inr (.inr (.inr (.inr (fun _ => none))))))]) := hD
  refine lv_iconst (v := 0) hx hb dX3_init_34 (by decide) ?_
  refine lv_istore_n (lv' := [(1, .int 0), (0, .ref h0)]) hx hb dX3_init_35 rfl hl (by decide) rfl (fun ls hl => ?_)
  refine lv_iload_n hx hb dX3_init_36 rfl (lv_at hl 0 rfl) ?_
  refine lv_iconst (v := 2) hx hb dX3_init_37 (by decide) ?_
  refine lv_icmp_ge (tgt := 60) hx hb dX3_init_38 (by decide) (fun c9 => absurd c9 (by decide)) (fun _ => ?_)
  refine lv_aload_n hx hb dX3_init_41 rfl (lv_at hl 1 rfl) ?_
  refine va_get (D := G.1) (ci := 3) (v := .ref q5) (C := RX3) (T := TX3) (N := 6) hx hb hts iwX3 hown hK hP 0 rfl rfl 2 (by decide) ha13 (fun _ h9 => h9) rfl dX3_init_42 ?_
  refine lv_iload_n hx hb dX3_init_45 rfl (lv_at hl 0 rfl) ?_
  refine va_new (ci := 0) (fs := [.null, .null, .null, .int 0]) (C := RX0) (T := TX0) (N := 4) hx hb hts iwX0 tyX0 tyX0_ok hown ha8 ha9 ha10 hK hP hD hS hA rfl (fun j hj => by rcases (show j = 0 ∨ j = 1 ∨ j = 2 ∨ j = 3 by omega) with rfl | rfl | rfl | rfl <;> rfl) (Nat.le_of_ble_eq_true rfl) (Nat.le_of_ble_eq_true rfl) dX3_init_46 (fun q6 H hP hD hS => ?_)
  replace hP : va_P G.1 vwCl ([(h0, .inr (3, [.ref (bp2 0), .ref (bb4 0), .ref q5, .int 0, .null, .null]))] ++ (wPad G bp2 ZO) ++ (wBook G bb4 BZ) ++ [(q5, .inl (G.2 2, 2, .inr (.inr (.inr (.inr (fun _ => none)))))), (q6, .inr (0, [.null, .null, .null, .int 0]))]) H := hP
  replace hD : va_D A ([(h0, .inr (3, [.ref (bp2 0), .ref (bb4 0), .ref q5, .int 0, .null, .null]))] ++ (wPad G bp2 ZO) ++ (wBook G bb4 BZ) ++ [(q5, .inl (G.2 2, 2, .inr (.inr (.inr (.inr (fun _ => none)))))), (q6, .inr (0, [.null, .null, .null, .int 0]))]) := hD
  refine W.widen (k := 8) (n := 201) (Nat.le_of_ble_eq_true rfl) (Nat.le_of_ble_eq_true rfl) ?_
  refine lv_dup hx hb dX3_init_49 rfl ?_
  have hF := va_free (wc := [(q6, .inr (0, [.null, .null, .null, .int 0]))]) hD hS hA [8] rfl
  refine va_callv (va_runIN (As := []) (rest := [.ref q6, .int 0, .ref q5]) ⟨hx, hb, hml, hown, hts⟩ (c_X0_init l G t q6 _) ⟨va_cnB 0 hts ggX3_init_X0_init rfl rfl rfl hN.2.1 ha10 (by decide +kernel) ⟨(Nat.le_of_ble_eq_true rfl), (Nat.le_of_ble_eq_true rfl)⟩, rfl, ha11⟩ ⟨PreN.blind, y_preN hC hN hT0 hS hF (hP.sub (ws' := [(q6, .inr (0, [.null, .null, .null, .int 0]))]) [8] rfl) (hD.sub (ws' := [(q6, .inr (0, [.null, .null, .null, .int 0]))]) [8] (by decide) rfl)⟩ rfl rfl hl.1 rfl (lv_room (Nat.le_of_ble_eq_true rfl)) dX3_init_50 ⟨(Nat.le_of_ble_eq_true rfl), (Nat.le_of_ble_eq_true rfl)⟩) hS (fun q _ h => hF q h) hF (fun bb7 t1 H1 locs1 ht _ hw hB _ hk1 hS1 => ?_)
  have hw : bb7 0 = q6 := hw
  rw [ht] at hB
  have hJ := va_join (wr := [(h0, .inr (3, [.ref (bp2 0), .ref (bb4 0), .ref q5, .int 0, .null, .null]))] ++ (wPad G bp2 ZO) ++ (wBook G bb4 BZ) ++ [(q5, .inl (G.2 2, 2, .inr (.inr (.inr (.inr (fun _ => none))))))]) (w1 := wBook G bb7 BZ) hP hD [8] [0, 1, 2, 3, 4, 5, 6, 7] rfl rfl (by decide) (by decide) hk1 hF hB.1 hB.2
  clear hF hk1 hB hP hD hS
  have hP := hJ.1
  have hD := hJ.2
  have hS := hS1
  clear hJ hS1
  subst hw
  generalize H1 = H at hP hS ht ⊢
  replace hP : va_P G.1 vwCl ([(h0, .inr (3, [.ref (bp2 0), .ref (bb4 0), .ref q5, .int 0, .null, .null]))] ++ (wPad G bp2 ZO) ++ (wBook G bb4 BZ) ++ [(q5, .inl (G.2 2, 2, .inr (.inr (.inr (.inr (fun _ => none))))))] ++ (wBook G bb7 BZ)) H := hP
  replace hD : va_D A ([(h0, .inr (3, [.ref (bp2 0), .ref (bb4 0), .ref q5, .int 0, .null, .null]))] ++ (wPad G bp2 ZO) ++ (wBook G bb4 BZ) ++ [(q5, .inl (G.2 2, 2, .inr (.inr (.inr (.inr (fun _ => none))))))] ++ (wBook G bb7 BZ)) := hD
  refine W.widen (k := 11) (n := 330) (Nat.le_of_ble_eq_true rfl) (Nat.le_of_ble_eq_true rfl) ?_
  refine va_astq hx hb hK hP hD hS 7 2 8 0 rfl rfl rfl rfl (by decide : ¬ ((0 : Int32) < 0 ∨ 2 ≤ (0 : Int32).toNatClampNeg)) dX3_init_53 (fun H locs hP hD hS => ?_)
  replace hP : va_P G.1 vwCl ([(h0, .inr (3, [.ref (bp2 0), .ref (bb4 0), .ref q5, .int 0, .null, .null]))] ++ (wPad G bp2 ZO) ++ (wBook G bb4 BZ) ++ [(q5, .inl (G.2 2, 2, .inr (.inr (.inr (.inr (va_up (fun _ => none) 0 (some (bb7 0))))))))] ++ (wBook G bb7 BZ)) H := hP
  replace hD : va_D A ([(h0, .inr (3, [.ref (bp2 0), .ref (bb4 0), .ref q5, .int 0, .null, .null]))] ++ (wPad G bp2 ZO) ++ (wBook G bb4 BZ) ++ [(q5, .inl (G.2 2, 2, .inr (.inr (.inr (.inr (va_up (fun _ => none) 0 (some (bb7 0))))))))] ++ (wBook G bb7 BZ)) := hD
  refine lv_iinc (v := 1) (lv' := [(1, .int 1), (0, .ref h0)]) hx hb dX3_init_54 hl (k := 0) rfl (by decide) (by decide) rfl (fun ls hl => ?_)
  refine lv_goto (tgt := 36) hx hb dX3_init_57 (by decide) ?_
  refine lv_iload_n hx hb dX3_init_36 rfl (lv_at hl 0 rfl) ?_
  refine lv_iconst (v := 2) hx hb dX3_init_37 (by decide) ?_
  refine lv_icmp_ge (tgt := 60) hx hb dX3_init_38 (by decide) (fun c9 => absurd c9 (by decide)) (fun _ => ?_)
  refine lv_aload_n hx hb dX3_init_41 rfl (lv_at hl 1 rfl) ?_
  refine va_get (D := G.1) (ci := 3) (v := .ref q5) (C := RX3) (T := TX3) (N := 6) hx hb hts iwX3 hown hK hP 0 rfl rfl 2 (by decide) ha13 (fun _ h9 => h9) rfl dX3_init_42 ?_
  refine lv_iload_n hx hb dX3_init_45 rfl (lv_at hl 0 rfl) ?_
  refine va_new (ci := 0) (fs := [.null, .null, .null, .int 0]) (C := RX0) (T := TX0) (N := 4) hx hb hts iwX0 tyX0 tyX0_ok hown ha8 ha9 ha10 hK hP hD hS hA rfl (fun j hj => by rcases (show j = 0 ∨ j = 1 ∨ j = 2 ∨ j = 3 by omega) with rfl | rfl | rfl | rfl <;> rfl) (Nat.le_of_ble_eq_true rfl) (Nat.le_of_ble_eq_true rfl) dX3_init_46 (fun q8 H hP hD hS => ?_)
  replace hP : va_P G.1 vwCl ([(h0, .inr (3, [.ref (bp2 0), .ref (bb4 0), .ref q5, .int 0, .null, .null]))] ++ (wPad G bp2 ZO) ++ (wBook G bb4 BZ) ++ [(q5, .inl (G.2 2, 2, .inr (.inr (.inr (.inr (va_up (fun _ => none) 0 (some (bb7 0))))))))] ++ (wBook G bb7 BZ) ++ [(q8, .inr (0, [.null, .null, .null, .int 0]))]) H := hP
  replace hD : va_D A ([(h0, .inr (3, [.ref (bp2 0), .ref (bb4 0), .ref q5, .int 0, .null, .null]))] ++ (wPad G bp2 ZO) ++ (wBook G bb4 BZ) ++ [(q5, .inl (G.2 2, 2, .inr (.inr (.inr (.inr (va_up (fun _ => none) 0 (some (bb7 0))))))))] ++ (wBook G bb7 BZ) ++ [(q8, .inr (0, [.null, .null, .null, .int 0]))]) := hD
  refine W.widen (k := 12) (n := 334) (Nat.le_of_ble_eq_true rfl) (Nat.le_of_ble_eq_true rfl) ?_
  refine lv_dup hx hb dX3_init_49 rfl ?_
  have hF := va_free (wc := [(q8, .inr (0, [.null, .null, .null, .int 0]))]) hD hS hA [12] rfl
  refine va_callv (va_runIN (As := []) (rest := [.ref q8, .int 1, .ref q5]) ⟨hx, hb, hml, hown, hts⟩ (c_X0_init l G t q8 _) ⟨va_cnB 0 hts ggX3_init_X0_init rfl rfl rfl hN.2.1 ha10 (by decide +kernel) ⟨(Nat.le_of_ble_eq_true rfl), (Nat.le_of_ble_eq_true rfl)⟩, rfl, ha11⟩ ⟨PreN.blind, y_preN hC hN hT0 hS hF (hP.sub (ws' := [(q8, .inr (0, [.null, .null, .null, .int 0]))]) [12] rfl) (hD.sub (ws' := [(q8, .inr (0, [.null, .null, .null, .int 0]))]) [12] (by decide) rfl)⟩ rfl rfl hl.1 rfl (lv_room (Nat.le_of_ble_eq_true rfl)) dX3_init_50 ⟨(Nat.le_of_ble_eq_true rfl), (Nat.le_of_ble_eq_true rfl)⟩) hS (fun q _ h => hF q h) hF (fun bb9 t1 H1 locs1 ht _ hw hB _ hk1 hS1 => ?_)
  have hw : bb9 0 = q8 := hw
  rw [ht] at hB
  have hJ := va_join (wr := [(h0, .inr (3, [.ref (bp2 0), .ref (bb4 0), .ref q5, .int 0, .null, .null]))] ++ (wPad G bp2 ZO) ++ (wBook G bb4 BZ) ++ [(q5, .inl (G.2 2, 2, .inr (.inr (.inr (.inr (va_up (fun _ => none) 0 (some (bb7 0))))))))] ++ (wBook G bb7 BZ)) (w1 := wBook G bb9 BZ) hP hD [12] [0, 1, 2, 3, 4, 5, 6, 7, 8, 9, 10, 11] rfl rfl (by decide) (by decide) hk1 hF hB.1 hB.2
  clear hF hk1 hB hP hD hS
  have hP := hJ.1
  have hD := hJ.2
  have hS := hS1
  clear hJ hS1
  subst hw
  generalize H1 = H at hP hS ht ⊢
  replace hP : va_P G.1 vwCl ([(h0, .inr (3, [.ref (bp2 0), .ref (bb4 0), .ref q5, .int 0, .null, .null]))] ++ (wPad G bp2 ZO) ++ (wBook G bb4 BZ) ++ [(q5, .inl (G.2 2, 2, .inr (.inr (.inr (.inr (va_up (fun _ => none) 0 (some (bb7 0))))))))] ++ (wBook G bb7 BZ) ++ (wBook G bb9 BZ)) H := hP
  replace hD : va_D A ([(h0, .inr (3, [.ref (bp2 0), .ref (bb4 0), .ref q5, .int 0, .null, .null]))] ++ (wPad G bp2 ZO) ++ (wBook G bb4 BZ) ++ [(q5, .inl (G.2 2, 2, .inr (.inr (.inr (.inr (va_up (fun _ => none) 0 (some (bb7 0))))))))] ++ (wBook G bb7 BZ) ++ (wBook G bb9 BZ)) := hD
  refine W.widen (k := 15) (n := 463) (Nat.le_of_ble_eq_true rfl) (Nat.le_of_ble_eq_true rfl) ?_
  refine va_astq hx hb hK hP hD hS 7 2 12 0 rfl rfl rfl rfl (by decide : ¬ ((1 : Int32) < 0 ∨ 2 ≤ (1 : Int32).toNatClampNeg)) dX3_init_53 (fun H locs hP hD hS => ?_)
  replace hP : va_P G.1 vwCl ([(h0, .inr (3, [.ref (bp2 0), .ref (bb4 0), .ref q5, .int 0, .null, .null]))] ++ (wPad G bp2 ZO) ++ (wBook G bb4 BZ) ++ [(q5, .inl (G.2 2, 2, .inr (.inr (.inr (.inr (va_up (va_up (fun _ => none) 0 (some (bb7 0))) 1 (some (bb9 0))))))))] ++ (wBook G bb7 BZ) ++ (wBook G bb9 BZ)) H := hP
  replace hD : va_D A ([(h0, .inr (3, [.ref (bp2 0), .ref (bb4 0), .ref q5, .int 0, .null, .null]))] ++ (wPad G bp2 ZO) ++ (wBook G bb4 BZ) ++ [(q5, .inl (G.2 2, 2, .inr (.inr (.inr (.inr (va_up (va_up (fun _ => none) 0 (some (bb7 0))) 1 (some (bb9 0))))))))] ++ (wBook G bb7 BZ) ++ (wBook G bb9 BZ)) := hD
  refine lv_iinc (v := 2) (lv' := [(1, .int 2), (0, .ref h0)]) hx hb dX3_init_54 hl (k := 0) rfl (by decide) (by decide) rfl (fun ls hl => ?_)
  refine lv_goto (tgt := 36) hx hb dX3_init_57 (by decide) ?_
  refine lv_iload_n hx hb dX3_init_36 rfl (lv_at hl 0 rfl) ?_
  refine lv_iconst (v := 2) hx hb dX3_init_37 (by decide) ?_
  refine lv_icmp_ge (tgt := 60) hx hb dX3_init_38 (by decide) (fun _ => ?_) (fun c9 => absurd (by decide) c9)
  refine lv_aload_n hx hb dX3_init_60 rfl (lv_at hl 1 rfl) ?_
  refine lv_iconst (v := 0) hx hb dX3_init_61 (by decide) ?_
  refine va_put (D := G.1) (ci := 3) (v := .int 0) (ty := .int) (C := RX3) (T := TX3) (N := 6) hx hb hts iwX3 tyX3 tyX3_ok nmX3 hown hK hP hD hS 0 rfl rfl 3 (by decide) ha14 (fun _ h9 => h9) rfl (by decide +kernel) rfl rfl (Nat.le_of_ble_eq_true rfl) dX3_init_62 (fun H locs hP hD hS => ?_)
  replace hP : va_P G.1 vwCl ([(h0, .inr (3, [.ref (bp2 0), .ref (bb4 0), .ref q5, .int 0, .null, .null]))] ++ (wPad G bp2 ZO) ++ (wBook G bb4 BZ) ++ [(q5, .inl (G.2 2, 2, .inr (.inr (.inr (.inr (va_up (va_up (fun _ => none) 0 (some (bb7 0))) 1 (some (bb9 0))))))))] ++ (wBook G bb7 BZ) ++ (wBook G bb9 BZ)) H := hP
  replace hD : va_D A ([(h0, .inr (3, [.ref (bp2 0), .ref (bb4 0), .ref q5, .int 0, .null, .null]))] ++ (wPad G bp2 ZO) ++ (wBook G bb4 BZ) ++ [(q5, .inl (G.2 2, 2, .inr (.inr (.inr (.inr (va_up (va_up (fun _ => none) 0 (some (bb7 0))) 1 (some (bb9 0))))))))] ++ (wBook G bb7 BZ) ++ (wBook G bb9 BZ)) := hD
  refine lv_aload_n hx hb dX3_init_65 rfl (lv_at hl 1 rfl) ?_
  refine va_new (ci := 1) (fs := [.null, .null, .null, .null, .null, .null, .null, .int 0, .int 0]) (C := RX1) (T := TX1) (N := 9) hx hb hts iwX1 tyX1 tyX1_ok hown ha15 ha16 ha17 hK hP hD hS hA rfl (fun j hj => by rcases (show j = 0 ∨ j = 1 ∨ j = 2 ∨ j = 3 ∨ j = 4 ∨ j = 5 ∨ j = 6 ∨ j = 7 ∨ j = 8 by omega) with rfl | rfl | rfl | rfl | rfl | rfl | rfl | rfl | rfl <;> rfl) (Nat.le_of_ble_eq_true rfl) (Nat.le_of_ble_eq_true rfl) dX3_init_66 (fun q10 H hP hD hS => ?_)
  replace hP : va_P G.1 vwCl ([(h0, .inr (3, [.ref (bp2 0), .ref (bb4 0), .ref q5, .int 0, .null, .null]))] ++ (wPad G bp2 ZO) ++ (wBook G bb4 BZ) ++ [(q5, .inl (G.2 2, 2, .inr (.inr (.inr (.inr (va_up (va_up (fun _ => none) 0 (some (bb7 0))) 1 (some (bb9 0))))))))] ++ (wBook G bb7 BZ) ++ (wBook G bb9 BZ) ++ [(q10, .inr (1, [.null, .null, .null, .null, .null, .null, .null, .int 0, .int 0]))]) H := hP
  replace hD : va_D A ([(h0, .inr (3, [.ref (bp2 0), .ref (bb4 0), .ref q5, .int 0, .null, .null]))] ++ (wPad G bp2 ZO) ++ (wBook G bb4 BZ) ++ [(q5, .inl (G.2 2, 2, .inr (.inr (.inr (.inr (va_up (va_up (fun _ => none) 0 (some (bb7 0))) 1 (some (bb9 0))))))))] ++ (wBook G bb7 BZ) ++ (wBook G bb9 BZ) ++ [(q10, .inr (1, [.null, .null, .null, .null, .null, .null, .null, .int 0, .int 0]))]) := hD
  refine W.widen (k := 16) (n := 472) (Nat.le_of_ble_eq_true rfl) (Nat.le_of_ble_eq_true rfl) ?_
  refine lv_dup hx hb dX3_init_69 rfl ?_
  have hF := va_free (wc := [(q10, .inr (1, [.null, .null, .null, .null, .null, .null, .null, .int 0, .int 0]))]) hD hS hA [16] rfl
  refine va_callv (va_runIN (As := []) (rest := [.ref q10, .ref h0]) ⟨hx, hb, hml, hown, hts⟩ (c_X1_init l G t q10 _) ⟨va_cnB 0 hts ggX3_init_X1_init rfl rfl rfl hN.2.2.1 ha17 (by decide +kernel) ⟨(Nat.le_of_ble_eq_true rfl), (Nat.le_of_ble_eq_true rfl)⟩, rfl, ha18⟩ ⟨PreN.blind, y_preN hC hN hT0 hS hF (hP.sub (ws' := [(q10, .inr (1, [.null, .null, .null, .null, .null, .null, .null, .int 0, .int 0]))]) [16] rfl) (hD.sub (ws' := [(q10, .inr (1, [.null, .null, .null, .null, .null, .null, .null, .int 0, .int 0]))]) [16] (by decide) rfl)⟩ rfl rfl hl.1 rfl (lv_room (Nat.le_of_ble_eq_true rfl)) dX3_init_70 ⟨(Nat.le_of_ble_eq_true rfl), (Nat.le_of_ble_eq_true rfl)⟩) hS (fun q _ h => hF q h) hF (fun bl11 t1 H1 locs1 ht _ hw hB _ hk1 hS1 => ?_)
  have hw : bl11 0 = q10 := hw
  rw [ht] at hB
  have hJ := va_join (wr := [(h0, .inr (3, [.ref (bp2 0), .ref (bb4 0), .ref q5, .int 0, .null, .null]))] ++ (wPad G bp2 ZO) ++ (wBook G bb4 BZ) ++ [(q5, .inl (G.2 2, 2, .inr (.inr (.inr (.inr (va_up (va_up (fun _ => none) 0 (some (bb7 0))) 1 (some (bb9 0))))))))] ++ (wBook G bb7 BZ) ++ (wBook G bb9 BZ)) (w1 := wLay G bl11 ZO) hP hD [16] [0, 1, 2, 3, 4, 5, 6, 7, 8, 9, 10, 11, 12, 13, 14, 15] rfl rfl (by decide) (by decide) hk1 hF hB.1 hB.2
  clear hF hk1 hB hP hD hS
  have hP := hJ.1
  have hD := hJ.2
  have hS := hS1
  clear hJ hS1
  subst hw
  generalize H1 = H at hP hS ht ⊢
  replace hP : va_P G.1 vwCl ([(h0, .inr (3, [.ref (bp2 0), .ref (bb4 0), .ref q5, .int 0, .null, .null]))] ++ (wPad G bp2 ZO) ++ (wBook G bb4 BZ) ++ [(q5, .inl (G.2 2, 2, .inr (.inr (.inr (.inr (va_up (va_up (fun _ => none) 0 (some (bb7 0))) 1 (some (bb9 0))))))))] ++ (wBook G bb7 BZ) ++ (wBook G bb9 BZ) ++ (wLay G bl11 ZO)) H := hP
  replace hD : va_D A ([(h0, .inr (3, [.ref (bp2 0), .ref (bb4 0), .ref q5, .int 0, .null, .null]))] ++ (wPad G bp2 ZO) ++ (wBook G bb4 BZ) ++ [(q5, .inl (G.2 2, 2, .inr (.inr (.inr (.inr (va_up (va_up (fun _ => none) 0 (some (bb7 0))) 1 (some (bb9 0))))))))] ++ (wBook G bb7 BZ) ++ (wBook G bb9 BZ) ++ (wLay G bl11 ZO)) := hD
  refine W.widen (k := 27) (n := 1316) (Nat.le_of_ble_eq_true rfl) (Nat.le_of_ble_eq_true rfl) ?_
  refine va_putF (D := G.1) (ci := 3) (v := .ref (bl11 0)) (ty := tyX3 4) (C := RX3) (T := TX3) (N := 6) hx hb hts iwX3 tyX3 tyX3_ok nmX3 hown hK hP hD hS 0 rfl rfl 4 (by decide) ha19 (fun _ h9 => h9) rfl hin rfl (by decide +kernel) rfl rfl (Nat.le_of_ble_eq_true rfl) dX3_init_73 (fun H locs hP hD hS => ?_)
  replace hP : va_P G.1 vwCl ([(h0, .inr (3, [.ref (bp2 0), .ref (bb4 0), .ref q5, .int 0, .ref (bl11 0), .null]))] ++ (wPad G bp2 ZO) ++ (wBook G bb4 BZ) ++ [(q5, .inl (G.2 2, 2, .inr (.inr (.inr (.inr (va_up (va_up (fun _ => none) 0 (some (bb7 0))) 1 (some (bb9 0))))))))] ++ (wBook G bb7 BZ) ++ (wBook G bb9 BZ) ++ (wLay G bl11 ZO)) H := hP
  replace hD : va_D A ([(h0, .inr (3, [.ref (bp2 0), .ref (bb4 0), .ref q5, .int 0, .ref (bl11 0), .null]))] ++ (wPad G bp2 ZO) ++ (wBook G bb4 BZ) ++ [(q5, .inl (G.2 2, 2, .inr (.inr (.inr (.inr (va_up (va_up (fun _ => none) 0 (some (bb7 0))) 1 (some (bb9 0))))))))] ++ (wBook G bb7 BZ) ++ (wBook G bb9 BZ) ++ (wLay G bl11 ZO)) := hD
  refine lv_aload_n hx hb dX3_init_76 rfl (lv_at hl 1 rfl) ?_
  refine va_new (ci := 1) (fs := [.null, .null, .null, .null, .null, .null, .null, .int 0, .int 0]) (C := RX1) (T := TX1) (N := 9) hx hb hts iwX1 tyX1 tyX1_ok hown ha15 ha16 ha17 hK hP hD hS hA rfl (fun j hj => by rcases (show j = 0 ∨ j = 1 ∨ j = 2 ∨ j = 3 ∨ j = 4 ∨ j = 5 ∨ j = 6 ∨ j = 7 ∨ j = 8 by omega) with rfl | rfl | rfl | rfl | rfl | rfl | rfl | rfl | rfl <;> rfl) (Nat.le_of_ble_eq_true rfl) (Nat.le_of_ble_eq_true rfl) dX3_init_77 (fun q12 H hP hD hS => ?_)
  replace hP : va_P G.1 vwCl ([(h0, .inr (3, [.ref (bp2 0), .ref (bb4 0), .ref q5, .int 0, .ref (bl11 0), .null]))] ++ (wPad G bp2 ZO) ++ (wBook G bb4 BZ) ++ [(q5, .inl (G.2 2, 2, .inr (.inr (.inr (.inr (va_up (va_up (fun _ => none) 0 (some (bb7 0))) 1 (some (bb9 0))))))))] ++ (wBook G bb7 BZ) ++ (wBook G bb9 BZ) ++ (wLay G bl11 ZO) ++ [(q12, .inr (1, [.null, .null, .null, .null, .null, .null, .null, .int 0, .int 0]))]) H := hP
  replace hD : va_D A ([(h0, .inr (3, [.ref (bp2 0), .ref (bb4 0), .ref q5, .int 0, .ref (bl11 0), .null]))] ++ (wPad G bp2 ZO) ++ (wBook G bb4 BZ) ++ [(q5, .inl (G.2 2, 2, .inr (.inr (.inr (.inr (va_up (va_up (fun _ => none) 0 (some (bb7 0))) 1 (some (bb9 0))))))))] ++ (wBook G bb7 BZ) ++ (wBook G bb9 BZ) ++ (wLay G bl11 ZO) ++ [(q12, .inr (1, [.null, .null, .null, .null, .null, .null, .null, .int 0, .int 0]))]) := hD
  refine W.widen (k := 28) (n := 1325) (Nat.le_of_ble_eq_true rfl) (Nat.le_of_ble_eq_true rfl) ?_
  refine lv_dup hx hb dX3_init_80 rfl ?_
  have hF := va_free (wc := [(q12, .inr (1, [.null, .null, .null, .null, .null, .null, .null, .int 0, .int 0]))]) hD hS hA [28] rfl
  refine va_callv (va_runIN (As := []) (rest := [.ref q12, .ref h0]) ⟨hx, hb, hml, hown, hts⟩ (c_X1_init l G t q12 _) ⟨va_cnB 0 hts ggX3_init_X1_init rfl rfl rfl hN.2.2.1 ha17 (by decide +kernel) ⟨(Nat.le_of_ble_eq_true rfl), (Nat.le_of_ble_eq_true rfl)⟩, rfl, ha18⟩ ⟨PreN.blind, y_preN hC hN hT0 hS hF (hP.sub (ws' := [(q12, .inr (1, [.null, .null, .null, .null, .null, .null, .null, .int 0, .int 0]))]) [28] rfl) (hD.sub (ws' := [(q12, .inr (1, [.null, .null, .null, .null, .null, .null, .null, .int 0, .int 0]))]) [28] (by decide) rfl)⟩ rfl rfl hl.1 rfl (lv_room (Nat.le_of_ble_eq_true rfl)) dX3_init_81 ⟨(Nat.le_of_ble_eq_true rfl), (Nat.le_of_ble_eq_true rfl)⟩) hS (fun q _ h => hF q h) hF (fun bl13 t1 H1 locs1 ht _ hw hB _ hk1 hS1 => ?_)
  have hw : bl13 0 = q12 := hw
  rw [ht] at hB
  have hJ := va_join (wr := [(h0, .inr (3, [.ref (bp2 0), .ref (bb4 0), .ref q5, .int 0, .ref (bl11 0), .null]))] ++ (wPad G bp2 ZO) ++ (wBook G bb4 BZ) ++ [(q5, .inl (G.2 2, 2, .inr (.inr (.inr (.inr (va_up (va_up (fun _ => none) 0 (some (bb7 0))) 1 (some (bb9 0))))))))] ++ (wBook G bb7 BZ) ++ (wBook G bb9 BZ) ++ (wLay G bl11 ZO)) (w1 := wLay G bl13 ZO) hP hD [28] [0, 1, 2, 3, 4, 5, 6, 7, 8, 9, 10, 11, 12, 13, 14, 15, 16, 17, 18, 19, 20, 21, 22, 23, 24, 25, 26, 27] rfl rfl (by decide) (by decide) hk1 hF hB.1 hB.2
  clear hF hk1 hB hP hD hS
  have hP := hJ.1
  have hD := hJ.2
  have hS := hS1
  clear hJ hS1
  subst hw
  generalize H1 = H at hP hS ht ⊢
  replace hP : va_P G.1 vwCl ([(h0, .inr (3, [.ref (bp2 0), .ref (bb4 0), .ref q5, .int 0, .ref (bl11 0), .null]))] ++ (wPad G bp2 ZO) ++ (wBook G bb4 BZ) ++ [(q5, .inl (G.2 2, 2, .inr (.inr (.inr (.inr (va_up (va_up (fun _ => none) 0 (some (bb7 0))) 1 (some (bb9 0))))))))] ++ (wBook G bb7 BZ) ++ (wBook G bb9 BZ) ++ (wLay G bl11 ZO) ++ (wLay G bl13 ZO)) H := hP
  replace hD : va_D A ([(h0, .inr (3, [.ref (bp2 0), .ref (bb4 0), .ref q5, .int 0, .ref (bl11 0), .null]))] ++ (wPad G bp2 ZO) ++ (wBook G bb4 BZ) ++ [(q5, .inl (G.2 2, 2, .inr (.inr (.inr (.inr (va_up (va_up (fun _ => none) 0 (some (bb7 0))) 1 (some (bb9 0))))))))] ++ (wBook G bb7 BZ) ++ (wBook G bb9 BZ) ++ (wLay G bl11 ZO) ++ (wLay G bl13 ZO)) := hD
  refine W.widen (k := 39) (n := 2169) (Nat.le_of_ble_eq_true rfl) (Nat.le_of_ble_eq_true rfl) ?_
  refine va_putF (D := G.1) (ci := 3) (v := .ref (bl13 0)) (ty := tyX3 5) (C := RX3) (T := TX3) (N := 6) hx hb hts iwX3 tyX3 tyX3_ok nmX3 hown hK hP hD hS 0 rfl rfl 5 (by decide) ha20 (fun _ h9 => h9) rfl hin rfl (by decide +kernel) rfl rfl (Nat.le_of_ble_eq_true rfl) dX3_init_84 (fun H locs hP hD hS => ?_)
  replace hP : va_P G.1 vwCl ([(h0, .inr (3, [.ref (bp2 0), .ref (bb4 0), .ref q5, .int 0, .ref (bl11 0), .ref (bl13 0)]))] ++ (wPad G bp2 ZO) ++ (wBook G bb4 BZ) ++ [(q5, .inl (G.2 2, 2, .inr (.inr (.inr (.inr (va_up (va_up (fun _ => none) 0 (some (bb7 0))) 1 (some (bb9 0))))))))] ++ (wBook G bb7 BZ) ++ (wBook G bb9 BZ) ++ (wLay G bl11 ZO) ++ (wLay G bl13 ZO)) H := hP
  replace hD : va_D A ([(h0, .inr (3, [.ref (bp2 0), .ref (bb4 0), .ref q5, .int 0, .ref (bl11 0), .ref (bl13 0)]))] ++ (wPad G bp2 ZO) ++ (wBook G bb4 BZ) ++ [(q5, .inl (G.2 2, 2, .inr (.inr (.inr (.inr (va_up (va_up (fun _ => none) 0 (some (bb7 0))) 1 (some (bb9 0))))))))] ++ (wBook G bb7 BZ) ++ (wBook G bb9 BZ) ++ (wLay G bl11 ZO) ++ (wLay G bl13 ZO)) := hD
  obtain ⟨aF, haF⟩ : ∃ aF : Nat → Nat → Nat, aF = fun k => if k = 0 then (fun j => if j = 0 then h0 else q5) else if k = 1 then bp2 else if k = 2 then bb4 else if k = 3 then bb7 else if k = 4 then bb9 else if k = 5 then bl11 else bl13 := ⟨_, rfl⟩
  have gi : (va_up (va_up (fun _ => none) 0 (some (bb7 0))) 1 (some (bb9 0))) = (fun i => if i < 2 then some (aF (3 + i) 0) else none) := by
    funext i
    match i with
    | 0 => rw [haF]; rfl
    | 1 => rw [haF]; rfl
    | k9 + 2 => simp [va_up]
  rw [gi] at hP hD
  have hP9 : va_P G.1 vwCl (wHM G aF SZ) H := by rw [haF] at hP ⊢; exact hP.sub [0, 7, 1, 2, 3, 4, 5, 6, 8, 9, 10, 11, 12, 13, 14, 15, 16, 17, 18, 19, 20, 21, 22, 23, 24, 25, 26, 27, 28, 29, 30, 31, 32, 33, 34, 35, 36, 37, 38, 39] rfl
  have hD9 : va_D A (wHM G aF SZ) := by rw [haF] at hD ⊢; exact hD.sub [0, 7, 1, 2, 3, 4, 5, 6, 8, 9, 10, 11, 12, 13, 14, 15, 16, 17, 18, 19, 20, 21, 22, 23, 24, 25, 26, 27, 28, 29, 30, 31, 32, 33, 34, 35, 36, 37, 38, 39] (by decide) rfl
  exact W.vret hx hb hr (fun t2 ht2 hW => ⟨⟨aF, rfl, by rw [haF]; rfl, by rw [ht2]; exact hP9, hD9⟩, hS.F ht2⟩) hS.2.2 dX3_init_87
