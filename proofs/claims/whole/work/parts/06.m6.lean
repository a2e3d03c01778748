def p_X4_layHeads_36  (K : Int32 → Ob → Option (Ob)) (x1 : Int32) (y0 : Int32) (y1 : Int32) (M : Ob) : Option (Ob) := ((stO M 11 130 y1 y0).bind fun N_7 => K (x1 + nI 1) N_7)
def p_X4_layHeads_6  : Nat → Int32 → Ob → Option (Ob)
  | 0, _, _ => none
  | n + 1, x1, M => (if (nI 130) ≤ x1 then (some M) else (if (M 10 0) < x1 then p_X4_layHeads_36 (p_X4_layHeads_6 n) x1 (-6) x1 M else ((p_X4_headOf M x1).bind fun v_5 => p_X4_layHeads_36 (p_X4_layHeads_6 n) x1 v_5 x1 M)))
def p_X4_layHeads   (M : Ob) : Option (Ob) := ((p_X4_layPages M).bind fun N_2 => p_X4_layHeads_6 200 (nI 1) N_2)
abbrev rmX4_layHeads : Room := { frames := 5, cells := 0, slots := 0, locals := 113 }
set_option maxHeartbeats 4000000 in
set_option maxRecDepth 100000 in
theorem c_X4_layHeads (l : Launch) (G : GT) (am : Nat → Nat) (M : Ob) (sz : Nat) (M0 : Ob) (hrun : p_X4_layHeads M = some M0) : Met l yX4_layHeads wsX4_layHeads rmX4_layHeads (PreW G [.ref (am 0)] (wMod G am M) sz) (QV G (wMod G am M0) (va_A (wMod G am M) sz)) 0 0 (va_A (wMod G am M) sz) := by
  refine Met.ofW (cc := cX4_layHeads) (maxL := 2) (ret := none) (by decide) rfl ?_
  intro p e s m args below meth c s₁ Bd hml hv
  obtain ⟨rfl, hsz, hP, hC, hD0⟩ := hv
  have hx := Bd.exec
  have hb := Bd.bytes
  have hr := Bd.returns
  have hts := atoms_spec (ws := wsX4_layHeads) Bd.pre
  have hown : s.vm.findClass RX4 = some m.cls := findClass_of_methodNamed Bd.named
  have hlocks := Bd.notSynchronized
  have hK := hC.1
  have iwX4 : ∀ w ∈ wsX40, w ∈ wsX4_layHeads := by decide +kernel
  have ha0 := hts (.fieldLink RX4 38 "HeadMarksModel" "headNow" "[I") (by decide +kernel)
  have ha1 := hts (.fieldLink RX4 76 "HeadMarksModel" "pages" "I") (by decide +kernel)
  subst hsz
  have hD := hD0.self (sz := s.heap.size)
  generalize hAe : va_A (wMod G am M) s.heap.size = A at hD ⊢
  have hA : ∀ q : Nat, s.heap.size ≤ q → A q := fun q h => by rw [← hAe]; exact Or.inr h
  have hS : va_S A s.heap s.heap [] := va_S.rf
  have kH_6 : ∀ (n : Nat) (x1 : Int32) (M : Ob) , ∀ (H : Heap) (locs : List Loc), va_P G.1 vwCl (wMod G am M) H → va_D A (wMod G am M) → va_S A s.heap H locs → ∀ (ls : Array Slot), lv_has ls 2 [(0, .ref (am 0)), (1, .int x1)] → p_X4_layHeads_6 n x1 M = some M0 → W p l e (headSpec wsX4_layHeads rmX4_layHeads).room s m ([.ref (am 0)] : List Value).toArray below meth c H locs 0 0 (MQ below (QV G (wMod G am M0) A) ([.ref (am 0)] : List Value).toArray s 0 0 A) (F0 m 6 ls []) := by
    intro n
    induction n with
    | zero => intro x1 M H locs hP hD hS ls hl hrun; exact absurd (hrun : (none : Option (Ob)) = some M0) (fun h => by cases h)
    | succ n ih =>
      have kJ_36 : ∀ (x1 y0 y1 : Int32) (M : Ob) , ∀ (H : Heap) (locs : List Loc), va_P G.1 vwCl (wMod G am M) H → va_D A (wMod G am M) → va_S A s.heap H locs → ∀ (ls : Array Slot), lv_has ls 2 [(0, .ref (am 0)), (1, .int x1)] → p_X4_layHeads_36 (p_X4_layHeads_6 n) x1 y0 y1 M = some M0 → W p l e (headSpec wsX4_layHeads rmX4_layHeads).room s m ([.ref (am 0)] : List Value).toArray below meth c H locs 0 0 (MQ below (QV G (wMod G am M0) A) ([.ref (am 0)] : List Value).toArray s 0 0 A) (F0 m 36 ls [.int y0, .int y1, .ref (am 10)]) := by
        intro x1 y0 y1 M H locs hP hD hS ls hl hrun
        rw [p_X4_layHeads_36] at hrun
        obtain ⟨N_7, e_8, hrun⟩ := bd hrun
        replace e_8 := stO_spec e_8
        refine va_iast hx hb hK hP hD hS 10 0 rfl rfl e_8.1 dX4_layHeads_36 (fun H locs hP hD hS => ?_)
        replace hP : va_P G.1 vwCl (wMod G am N_7) H := by rw [← e_8.2]; exact hP
        replace hD : va_D A (wMod G am N_7) := by rw [← e_8.2]; exact hD
        refine lv_iinc (v := (x1 + nI 1)) (lv' := [(1, .int (x1 + nI 1)), (0, .ref (am 0))]) hx hb dX4_layHeads_37 hl (k := 1) rfl rfl (by decide) rfl (fun ls hl => ?_)
        refine lv_goto (tgt := 6) hx hb dX4_layHeads_40 (by decide) ?_
        exact ih (x1 + nI 1) N_7 _ _ hP hD hS ls (lv_sub hl [1, 0] rfl) hrun
      intro x1 M H locs hP hD hS ls hl hrun
      rw [p_X4_layHeads_6] at hrun
      refine lv_iload_n hx hb dX4_layHeads_6 rfl (lv_at hl 1 rfl) ?_
      refine lv_sipush (v := nI 130) hx hb dX4_layHeads_7 (by decide) ?_
      refine lv_icmp_ge (tgt := 43) hx hb dX4_layHeads_10 (by decide) (fun c_3 => ?_) (fun c_3 => ?_)
      · replace hrun := it_pos c_3 hrun
        have hr2 := si hrun
        exact W.vret hx hb hr (fun t ht hW => ⟨⟨(), rfl, trivial, by rw [ht, ← hr2]; exact hP, by rw [← hr2]; exact hD⟩, hS.F ht⟩) hS.2.2 dX4_layHeads_43
      · replace hrun := it_neg c_3 hrun
        refine lv_aload_n hx hb dX4_layHeads_13 rfl (lv_at hl 0 rfl) ?_
        refine va_get (D := G.1) (ci := 4) (v := .ref (am 10)) (C := RX4) (T := TX4) (N := 12) hx hb hts iwX4 hown hK hP 0 rfl rfl 11 (by decide) ha0 (fun _ h9 => h9) rfl dX4_layHeads_14 ?_
        refine lv_iload_n hx hb dX4_layHeads_17 rfl (lv_at hl 1 rfl) ?_
        refine lv_iload_n hx hb dX4_layHeads_18 rfl (lv_at hl 1 rfl) ?_
        refine lv_aload_n hx hb dX4_layHeads_19 rfl (lv_at hl 0 rfl) ?_
        refine va_get (D := G.1) (ci := 4) (v := .int (M 10 0)) (C := RX4) (T := TX4) (N := 12) hx hb hts iwX4 hown hK hP 0 rfl rfl 10 (by decide) ha1 (fun _ h9 => h9) rfl dX4_layHeads_20 ?_
        refine lv_icmp_gt (tgt := 34) hx hb dX4_layHeads_23 (by decide) (fun c_4 => ?_) (fun c_4 => ?_)
        · replace hrun := it_pos c_4 hrun
          refine lv_bipush (v := -6) hx hb dX4_layHeads_34 (by decide) ?_
          exact kJ_36 x1 (-6) x1 M _ _ hP hD hS ls (lv_sub hl [0, 1] rfl) hrun
        · replace hrun := it_neg c_4 hrun
          refine lv_aload_n hx hb dX4_layHeads_26 rfl (lv_at hl 0 rfl) ?_
          refine lv_iload_n hx hb dX4_layHeads_27 rfl (lv_at hl 1 rfl) ?_
          obtain ⟨v_5, e_6, hrun⟩ := bd hrun
          refine y_ro (va_runV (As := [.int x1]) (rest := [.int x1, .ref (am 10)]) ⟨hx, hb, hml, hown, hts⟩ (c_X4_headOf l G am M x1 v_5 e_6) (cwV 1 hts gX4_layHeads_X4_headOf rfl rfl rfl (by decide +kernel) ⟨Nat.le_of_ble_eq_true rfl, Nat.le_of_ble_eq_true rfl⟩) ⟨PreR.blind, va_recv hK hP (ci := 4) (q0 := 0) rfl rfl, y_preR hC hP⟩ rfl rfl hl.1 rfl (lv_room (Nat.le_of_ble_eq_true rfl)) dX4_layHeads_28 ⟨Nat.zero_le _, Nat.zero_le _⟩) ?_
          refine lv_goto (tgt := 36) hx hb dX4_layHeads_31 (by decide) ?_
          exact kJ_36 x1 v_5 x1 M _ _ hP hD hS ls (lv_sub hl [0, 1] rfl) hrun
  have hl := lv_entry [.ref (am 0)] (n := 2) (Nat.le_of_ble_eq_true rfl)
  rw [lg_entry_eq]
  generalize (lg_sl [.ref (am 0)] ++ List.replicate (2 - (lg_sl [.ref (am 0)]).length) Slot.unset).toArray = ls at hl ⊢
  have hl : lv_has ls 2 [(0, .ref (am 0))] := hl
  rw [p_X4_layHeads] at hrun
  refine lv_aload_n hx hb dX4_layHeads_0 rfl (lv_at hl 0 rfl) ?_
  obtain ⟨N_2, e_1, hrun⟩ := bd hrun
  have hF := y_all hD hS hA
  refine y_rwv (va_runV (As := []) (rest := []) ⟨hx, hb, hml, hown, hts⟩ (c_X4_layPages l G am M  _ N_2 e_1) (cwV 0 hts gX4_layHeads_X4_layPages rfl rfl rfl (by decide +kernel) ⟨Nat.le_of_ble_eq_true rfl, Nat.le_of_ble_eq_true rfl⟩) ⟨PreW.blind, va_recv hK hP (ci := 4) (q0 := 0) rfl rfl, y_preW hC hP hD⟩ rfl rfl hl.1 rfl (lv_room (Nat.le_of_ble_eq_true rfl)) dX4_layHeads_1 ⟨Nat.zero_le _, Nat.zero_le _⟩) hS hF (fun H locs hP1 hD1 hk1 hS => ?_)
  replace hP : va_P G.1 vwCl (wMod G am N_2) H := hP1
  replace hD : va_D A (wMod G am N_2) := hD1.weaken (fun _ q _ h => hF q.1 h)
  clear hP1 hD1 hk1 hF
  refine lv_iconst (v := nI 1) hx hb dX4_layHeads_4 (by decide) ?_
  refine lv_istore_n (lv' := [(1, .int (nI 1)), (0, .ref (am 0))]) hx hb dX4_layHeads_5 rfl hl (by decide) rfl (fun ls hl => ?_)
  exact kH_6 200 (nI 1) N_2 _ _ hP hD hS ls (lv_sub hl [1, 0] rfl) hrun
def p_X4_changedBy_68  (K : Int32 → Int32 → Int32 → Ob → Option (Int32 × Ob)) (x1 : Int32) (x3 : Int32) (y0 : Int32) (y1 : Int32) (M : Ob) : Option (Int32 × Ob) := K x1 (y1 + y0) (x3 + nI 1) M
def p_X4_changedBy_60  (K : Int32 → Int32 → Int32 → Ob → Option (Int32 × Ob)) (x1 : Int32) (x3 : Int32) (y0 : Int32) (y1 : Int32) (y2 : Int32) (M : Ob) : Option (Int32 × Ob) := (if y1 = y0 then p_X4_changedBy_68 K x1 x3 (nI 0) y2 M else p_X4_changedBy_68 K x1 x3 (nI 1) y2 M)
def p_X4_changedBy_28  : Nat → Int32 → Int32 → Int32 → Ob → Option (Int32 × Ob)
  | 0, _, _, _, _ => none
  | n + 1, x1, x2, x3, M => (if (nI 130) ≤ x3 then ((ldI (M 0) 130 ((nI 60) + x1)).bind fun v_8 => ((stO M 0 130 ((nI 60) + x1) ((nI 1) - v_8)).bind fun N_10 => (some (x2, N_10)))) else ((ldI (M 11) 130 x3).bind fun v_12 => (if (M 10 0) < x3 then p_X4_changedBy_60 (p_X4_changedBy_28 n) x1 x3 (-6) v_12 x2 M else ((p_X4_headOf M x3).bind fun v_15 => p_X4_changedBy_60 (p_X4_changedBy_28 n) x1 x3 v_15 v_12 x2 M))))
def p_X4_changedBy  (u1 : Int32) (M : Ob) : Option (Int32 × Ob) := ((ldI (M 0) 130 ((nI 60) + u1)).bind fun v_1 => ((stO M 0 130 ((nI 60) + u1) ((nI 1) - v_1)).bind fun N_3 => ((p_X4_layPages N_3).bind fun N_6 => p_X4_changedBy_28 200 u1 (nI 0) (nI 1) N_6)))
abbrev rmX4_changedBy : Room := { frames := 5, cells := 0, slots := 0, locals := 113 }
set_option maxHeartbeats 4000000 in
set_option maxRecDepth 100000 in
theorem c_X4_changedBy (l : Launch) (G : GT) (am : Nat → Nat) (M : Ob) (u1 : Int32) (sz : Nat) (r0 : Int32) (M0 : Ob) (hrun : p_X4_changedBy u1 M = some (r0, M0)) : Met l yX4_changedBy wsX4_changedBy rmX4_changedBy (PreW G [.ref (am 0), .int u1] (wMod G am M) sz) (QI G r0 (wMod G am M0) (va_A (wMod G am M) sz)) 0 0 (va_A (wMod G am M) sz) := by
  refine Met.ofW (cc := cX4_changedBy) (maxL := 4) (ret := (some .int)) (by decide) rfl ?_
  intro p e s m args below meth c s₁ Bd hml hv
  obtain ⟨rfl, hsz, hP, hC, hD0⟩ := hv
  have hx := Bd.exec
  have hb := Bd.bytes
  have hr := Bd.returns
  have hts := atoms_spec (ws := wsX4_changedBy) Bd.pre
  have hown : s.vm.findClass RX4 = some m.cls := findClass_of_methodNamed Bd.named
  have hlocks := Bd.notSynchronized
  have hK := hC.1
  have iwX4 : ∀ w ∈ wsX40, w ∈ wsX4_changedBy := by decide +kernel
  have ha0 := hts (.fieldLink RX4 7 "HeadMarksModel" "state" "[I") (by decide +kernel)
  have ha1 := hts (.fieldLink RX4 38 "HeadMarksModel" "headNow" "[I") (by decide +kernel)
  have ha2 := hts (.fieldLink RX4 76 "HeadMarksModel" "pages" "I") (by decide +kernel)
  subst hsz
  have hD := hD0.self (sz := s.heap.size)
  generalize hAe : va_A (wMod G am M) s.heap.size = A at hD ⊢
  have hA : ∀ q : Nat, s.heap.size ≤ q → A q := fun q h => by rw [← hAe]; exact Or.inr h
  have hS : va_S A s.heap s.heap [] := va_S.rf
  have kH_28 : ∀ (n : Nat) (x1 x2 x3 : Int32) (M : Ob) , ∀ (H : Heap) (locs : List Loc), va_P G.1 vwCl (wMod G am M) H → va_D A (wMod G am M) → va_S A s.heap H locs → ∀ (ls : Array Slot), lv_has ls 4 [(0, .ref (am 0)), (1, .int x1), (2, .int x2), (3, .int x3)] → p_X4_changedBy_28 n x1 x2 x3 M = some (r0, M0) → W p l e (headSpec wsX4_changedBy rmX4_changedBy).room s m ([.ref (am 0), .int u1] : List Value).toArray below meth c H locs 0 0 (MQ below (QI G r0 (wMod G am M0) A) ([.ref (am 0), .int u1] : List Value).toArray s 0 0 A) (F0 m 28 ls []) := by
    intro n
    induction n with
    | zero => intro x1 x2 x3 M H locs hP hD hS ls hl hrun; exact absurd (hrun : (none : Option (Int32 × Ob)) = some (r0, M0)) (fun h => by cases h)
    | succ n ih =>
      have kJ_68 : ∀ (x1 x3 y0 y1 : Int32) (M : Ob) , ∀ (H : Heap) (locs : List Loc), va_P G.1 vwCl (wMod G am M) H → va_D A (wMod G am M) → va_S A s.heap H locs → ∀ (ls : Array Slot), lv_has ls 4 [(0, .ref (am 0)), (1, .int x1), (3, .int x3)] → p_X4_changedBy_68 (p_X4_changedBy_28 n) x1 x3 y0 y1 M = some (r0, M0) → W p l e (headSpec wsX4_changedBy rmX4_changedBy).room s m ([.ref (am 0), .int u1] : List Value).toArray below meth c H locs 0 0 (MQ below (QI G r0 (wMod G am M0) A) ([.ref (am 0), .int u1] : List Value).toArray s 0 0 A) (F0 m 68 ls [.int y0, .int y1]) := by
        intro x1 x3 y0 y1 M H locs hP hD hS ls hl hrun
        rw [p_X4_changedBy_68] at hrun
        refine lv_iadd hx hb dX4_changedBy_68 ?_
        refine lv_istore_n (lv' := [(2, .int (y1 + y0)), (0, .ref (am 0)), (1, .int x1), (3, .int x3)]) hx hb dX4_changedBy_69 rfl hl (by decide) rfl (fun ls hl => ?_)
        refine lv_iinc (v := (x3 + nI 1)) (lv' := [(3, .int (x3 + nI 1)), (2, .int (y1 + y0)), (0, .ref (am 0)), (1, .int x1)]) hx hb dX4_changedBy_70 hl (k := 3) rfl rfl (by decide) rfl (fun ls hl => ?_)
        refine lv_goto (tgt := 28) hx hb dX4_changedBy_73 (by decide) ?_
        exact ih x1 (y1 + y0) (x3 + nI 1) M _ _ hP hD hS ls (lv_sub hl [2, 3, 1, 0] rfl) hrun
      have kJ_60 : ∀ (x1 x3 y0 y1 y2 : Int32) (M : Ob) , ∀ (H : Heap) (locs : List Loc), va_P G.1 vwCl (wMod G am M) H → va_D A (wMod G am M) → va_S A s.heap H locs → ∀ (ls : Array Slot), lv_has ls 4 [(0, .ref (am 0)), (1, .int x1), (3, .int x3)] → p_X4_changedBy_60 (p_X4_changedBy_28 n) x1 x3 y0 y1 y2 M = some (r0, M0) → W p l e (headSpec wsX4_changedBy rmX4_changedBy).room s m ([.ref (am 0), .int u1] : List Value).toArray below meth c H locs 0 0 (MQ below (QI G r0 (wMod G am M0) A) ([.ref (am 0), .int u1] : List Value).toArray s 0 0 A) (F0 m 60 ls [.int y0, .int y1, .int y2]) := by
        intro x1 x3 y0 y1 y2 M H locs hP hD hS ls hl hrun
        rw [p_X4_changedBy_60] at hrun
        refine lv_icmp_ne (tgt := 67) hx hb dX4_changedBy_60 (by decide) (fun c_17 => ?_) (fun c_17 => ?_)
        · replace hrun := it_neg c_17 hrun
          refine lv_iconst (v := nI 1) hx hb dX4_changedBy_67 (by decide) ?_
          exact kJ_68 x1 x3 (nI 1) y2 M _ _ hP hD hS ls (lv_sub hl [0, 1, 2] rfl) hrun
        · replace hrun := it_pos c_17 hrun
          refine lv_iconst (v := nI 0) hx hb dX4_changedBy_63 (by decide) ?_
          refine lv_goto (tgt := 68) hx hb dX4_changedBy_64 (by decide) ?_
          exact kJ_68 x1 x3 (nI 0) y2 M _ _ hP hD hS ls (lv_sub hl [0, 1, 2] rfl) hrun
      intro x1 x2 x3 M H locs hP hD hS ls hl hrun
      rw [p_X4_changedBy_28] at hrun
      refine lv_iload_n hx hb dX4_changedBy_28 rfl (lv_at hl 3 rfl) ?_
      refine lv_sipush (v := nI 130) hx hb dX4_changedBy_29 (by decide) ?_
      refine lv_icmp_ge (tgt := 76) hx hb dX4_changedBy_32 (by decide) (fun c_7 => ?_) (fun c_7 => ?_)
      · replace hrun := it_pos c_7 hrun
        refine lv_aload_n hx hb dX4_changedBy_76 rfl (lv_at hl 0 rfl) ?_
        refine va_get (D := G.1) (ci := 4) (v := .ref (am 1)) (C := RX4) (T := TX4) (N := 12) hx hb hts iwX4 hown hK hP 0 rfl rfl 0 (by decide) ha0 (fun _ h9 => h9) rfl dX4_changedBy_77 ?_
        refine lv_bipush (v := nI 60) hx hb dX4_changedBy_80 (by decide) ?_
        refine lv_iload_n hx hb dX4_changedBy_82 rfl (lv_at hl 1 rfl) ?_
        refine lv_iadd hx hb dX4_changedBy_83 ?_
        refine lv_iconst (v := nI 1) hx hb dX4_changedBy_84 (by decide) ?_
        refine lv_aload_n hx hb dX4_changedBy_85 rfl (lv_at hl 0 rfl) ?_
        refine va_get (D := G.1) (ci := 4) (v := .ref (am 1)) (C := RX4) (T := TX4) (N := 12) hx hb hts iwX4 hown hK hP 0 rfl rfl 0 (by decide) ha0 (fun _ h9 => h9) rfl dX4_changedBy_86 ?_
        refine lv_bipush (v := nI 60) hx hb dX4_changedBy_89 (by decide) ?_
        refine lv_iload_n hx hb dX4_changedBy_91 rfl (lv_at hl 1 rfl) ?_
        refine lv_iadd hx hb dX4_changedBy_92 ?_
        obtain ⟨v_8, e_9, hrun⟩ := bd hrun
        refine y_ald hx hb hK hP 1 0 rfl rfl e_9 dX4_changedBy_93 ?_
        refine lv_isub hx hb dX4_changedBy_94 ?_
        obtain ⟨N_10, e_11, hrun⟩ := bd hrun
        replace e_11 := stO_spec e_11
        refine va_iast hx hb hK hP hD hS 1 0 rfl rfl e_11.1 dX4_changedBy_95 (fun H locs hP hD hS => ?_)
        replace hP : va_P G.1 vwCl (wMod G am N_10) H := by rw [← e_11.2]; exact hP
        replace hD : va_D A (wMod G am N_10) := by rw [← e_11.2]; exact hD
        refine lv_iload_n hx hb dX4_changedBy_96 rfl (lv_at hl 2 rfl) ?_
        obtain ⟨hr1, hr2⟩ := si2 hrun
        exact W.iret (v := x2) hx hb hr (fun t ht hW => ⟨⟨x2, (), rfl, hr1, by rw [ht, ← hr2]; exact hP, by rw [← hr2]; exact hD⟩, hS.F ht⟩) hS.2.2 dX4_changedBy_97
      · replace hrun := it_neg c_7 hrun
        refine lv_iload_n hx hb dX4_changedBy_35 rfl (lv_at hl 2 rfl) ?_
        refine lv_aload_n hx hb dX4_changedBy_36 rfl (lv_at hl 0 rfl) ?_
        refine va_get (D := G.1) (ci := 4) (v := .ref (am 10)) (C := RX4) (T := TX4) (N := 12) hx hb hts iwX4 hown hK hP 0 rfl rfl 11 (by decide) ha1 (fun _ h9 => h9) rfl dX4_changedBy_37 ?_
        refine lv_iload_n hx hb dX4_changedBy_40 rfl (lv_at hl 3 rfl) ?_
        obtain ⟨v_12, e_13, hrun⟩ := bd hrun
        refine y_ald hx hb hK hP 10 0 rfl rfl e_13 dX4_changedBy_41 ?_
        refine lv_iload_n hx hb dX4_changedBy_42 rfl (lv_at hl 3 rfl) ?_
        refine lv_aload_n hx hb dX4_changedBy_43 rfl (lv_at hl 0 rfl) ?_
        refine va_get (D := G.1) (ci := 4) (v := .int (M 10 0)) (C := RX4) (T := TX4) (N := 12) hx hb hts iwX4 hown hK hP 0 rfl rfl 10 (by decide) ha2 (fun _ h9 => h9) rfl dX4_changedBy_44 ?_
        refine lv_icmp_gt (tgt := 58) hx hb dX4_changedBy_47 (by decide) (fun c_14 => ?_) (fun c_14 => ?_)
        · replace hrun := it_pos c_14 hrun
          refine lv_bipush (v := -6) hx hb dX4_changedBy_58 (by decide) ?_
          exact kJ_60 x1 x3 (-6) v_12 x2 M _ _ hP hD hS ls (lv_sub hl [0, 1, 3] rfl) hrun
        · replace hrun := it_neg c_14 hrun
          refine lv_aload_n hx hb dX4_changedBy_50 rfl (lv_at hl 0 rfl) ?_
          refine lv_iload_n hx hb dX4_changedBy_51 rfl (lv_at hl 3 rfl) ?_
          obtain ⟨v_15, e_16, hrun⟩ := bd hrun
          refine y_ro (va_runV (As := [.int x3]) (rest := [.int v_12, .int x2]) ⟨hx, hb, hml, hown, hts⟩ (c_X4_headOf l G am M x3 v_15 e_16) (cwV 1 hts gX4_changedBy_X4_headOf rfl rfl rfl (by decide +kernel) ⟨Nat.le_of_ble_eq_true rfl, Nat.le_of_ble_eq_true rfl⟩) ⟨PreR.blind, va_recv hK hP (ci := 4) (q0 := 0) rfl rfl, y_preR hC hP⟩ rfl rfl hl.1 rfl (lv_room (Nat.le_of_ble_eq_true rfl)) dX4_changedBy_52 ⟨Nat.zero_le _, Nat.zero_le _⟩) ?_
          refine lv_goto (tgt := 60) hx hb dX4_changedBy_55 (by decide) ?_
          exact kJ_60 x1 x3 v_15 v_12 x2 M _ _ hP hD hS ls (lv_sub hl [0, 1, 3] rfl) hrun
  have hl := lv_entry [.ref (am 0), .int u1] (n := 4) (Nat.le_of_ble_eq_true rfl)
  rw [lg_entry_eq]
  generalize (lg_sl [.ref (am 0), .int u1] ++ List.replicate (4 - (lg_sl [.ref (am 0), .int u1]).length) Slot.unset).toArray = ls at hl ⊢
  have hl : lv_has ls 4 [(0, .ref (am 0)), (1, .int u1)] := hl
  rw [p_X4_changedBy] at hrun
  refine lv_aload_n hx hb dX4_changedBy_0 rfl (lv_at hl 0 rfl) ?_
  refine va_get (D := G.1) (ci := 4) (v := .ref (am 1)) (C := RX4) (T := TX4) (N := 12) hx hb hts iwX4 hown hK hP 0 rfl rfl 0 (by decide) ha0 (fun _ h9 => h9) rfl dX4_changedBy_1 ?_
  refine lv_bipush (v := nI 60) hx hb dX4_changedBy_4 (by decide) ?_
  refine lv_iload_n hx hb dX4_changedBy_6 rfl (lv_at hl 1 rfl) ?_
  refine lv_iadd hx hb dX4_changedBy_7 ?_
  refine lv_iconst (v := nI 1) hx hb dX4_changedBy_8 (by decide) ?_
  refine lv_aload_n hx hb dX4_changedBy_9 rfl (lv_at hl 0 rfl) ?_
  refine va_get (D := G.1) (ci := 4) (v := .ref (am 1)) (C := RX4) (T := TX4) (N := 12) hx hb hts iwX4 hown hK hP 0 rfl rfl 0 (by decide) ha0 (fun _ h9 => h9) rfl dX4_changedBy_10 ?_
  refine lv_bipush (v := nI 60) hx hb dX4_changedBy_13 (by decide) ?_
  refine lv_iload_n hx hb dX4_changedBy_15 rfl (lv_at hl 1 rfl) ?_
  refine lv_iadd hx hb dX4_changedBy_16 ?_
  obtain ⟨v_1, e_2, hrun⟩ := bd hrun
  refine y_ald hx hb hK hP 1 0 rfl rfl e_2 dX4_changedBy_17 ?_
  refine lv_isub hx hb dX4_changedBy_18 ?_
  obtain ⟨N_3, e_4, hrun⟩ := bd hrun
  replace e_4 := stO_spec e_4
  refine va_iast hx hb hK hP hD hS 1 0 rfl rfl e_4.1 dX4_changedBy_19 (fun H locs hP hD hS => ?_)
  replace hP : va_P G.1 vwCl (wMod G am N_3) H := by rw [← e_4.2]; exact hP
  replace hD : va_D A (wMod G am N_3) := by rw [← e_4.2]; exact hD
  refine lv_aload_n hx hb dX4_changedBy_20 rfl (lv_at hl 0 rfl) ?_
  obtain ⟨N_6, e_5, hrun⟩ := bd hrun
  have hF := y_all hD hS hA
  refine y_rwv (va_runV (As := []) (rest := []) ⟨hx, hb, hml, hown, hts⟩ (c_X4_layPages l G am N_3  _ N_6 e_5) (cwV 0 hts gX4_changedBy_X4_layPages rfl rfl rfl (by decide +kernel) ⟨Nat.le_of_ble_eq_true rfl, Nat.le_of_ble_eq_true rfl⟩) ⟨PreW.blind, va_recv hK hP (ci := 4) (q0 := 0) rfl rfl, y_preW hC hP hD⟩ rfl rfl hl.1 rfl (lv_room (Nat.le_of_ble_eq_true rfl)) dX4_changedBy_21 ⟨Nat.zero_le _, Nat.zero_le _⟩) hS hF (fun H locs hP1 hD1 hk1 hS => ?_)
  replace hP : va_P G.1 vwCl (wMod G am N_6) H := hP1
  replace hD : va_D A (wMod G am N_6) := hD1.weaken (fun _ q _ h => hF q.1 h)
  clear hP1 hD1 hk1 hF
  refine lv_iconst (v := nI 0) hx hb dX4_changedBy_24 (by decide) ?_
  refine lv_istore_n (lv' := [(2, .int (nI 0)), (0, .ref (am 0)), (1, .int u1)]) hx hb dX4_changedBy_25 rfl hl (by decide) rfl (fun ls hl => ?_)
  refine lv_iconst (v := nI 1) hx hb dX4_changedBy_26 (by decide) ?_
  refine lv_istore_n (lv' := [(3, .int (nI 1)), (2, .int (nI 0)), (0, .ref (am 0)), (1, .int u1)]) hx hb dX4_changedBy_27 rfl hl (by decide) rfl (fun ls hl => ?_)
  exact kH_28 200 u1 (nI 0) (nI 1) N_6 _ _ hP hD hS ls (lv_sub hl [2, 3, 1, 0] rfl) hrun
def p_X4_changed  (u1 : Int32) (M : Ob) : Option (Int32 × Ob) := ((p_X4_many M).bind fun v_1 => ((p_X4_in u1 (nI 1) (v_1 - (nI 1))).bind fun v_3 => (if v_3 = nI 0 then (some ((-1), M)) else ((p_X4_layHeads M).bind fun N_8 => (bind2 (p_X4_changedBy u1 N_8) fun v_11 N_10 => (some (v_11, N_10)))))))
abbrev rmX4_changed : Room := { frames := 6, cells := 0, slots := 0, locals := 136 }
set_option maxHeartbeats 4000000 in
set_option maxRecDepth 100000 in
theorem c_X4_changed (l : Launch) (G : GT) (am : Nat → Nat) (M : Ob) (u1 : Int32) (sz : Nat) (r0 : Int32) (M0 : Ob) (hrun : p_X4_changed u1 M = some (r0, M0)) : Met l yX4_changed wsX4_changed rmX4_changed (PreW G [.ref (am 0), .int u1] (wMod G am M) sz) (QI G r0 (wMod G am M0) (va_A (wMod G am M) sz)) 0 0 (va_A (wMod G am M) sz) := by
  refine Met.ofW (cc := cX4_changed) (maxL := 2) (ret := (some .int)) (by decide) rfl ?_
  intro p e s m args below meth c s₁ Bd hml hv
  obtain ⟨rfl, hsz, hP, hC, hD0⟩ := hv
  have hx := Bd.exec
  have hb := Bd.bytes
  have hr := Bd.returns
  have hts := atoms_spec (ws := wsX4_changed) Bd.pre
  have hown : s.vm.findClass RX4 = some m.cls := findClass_of_methodNamed Bd.named
  have hlocks := Bd.notSynchronized
  have hK := hC.1
  subst hsz
  have hD := hD0.self (sz := s.heap.size)
  generalize hAe : va_A (wMod G am M) s.heap.size = A at hD ⊢
  have hA : ∀ q : Nat, s.heap.size ≤ q → A q := fun q h => by rw [← hAe]; exact Or.inr h
  have hS : va_S A s.heap s.heap [] := va_S.rf
  have hl := lv_entry [.ref (am 0), .int u1] (n := 2) (Nat.le_of_ble_eq_true rfl)
  rw [lg_entry_eq]
  generalize (lg_sl [.ref (am 0), .int u1] ++ List.replicate (2 - (lg_sl [.ref (am 0), .int u1]).length) Slot.unset).toArray = ls at hl ⊢
  have hl : lv_has ls 2 [(0, .ref (am 0)), (1, .int u1)] := hl
  rw [p_X4_changed] at hrun
  refine lv_iload_n hx hb dX4_changed_0 rfl (lv_at hl 1 rfl) ?_
  refine lv_iconst (v := nI 1) hx hb dX4_changed_1 (by decide) ?_
  refine lv_aload_n hx hb dX4_changed_2 rfl (lv_at hl 0 rfl) ?_
  obtain ⟨v_1, e_2, hrun⟩ := bd hrun
  refine y_ro (va_runV (As := []) (rest := [.int (nI 1), .int u1]) ⟨hx, hb, hml, hown, hts⟩ (c_X4_many l G am M  v_1 e_2) (cwV 0 hts gX4_changed_X4_many rfl rfl rfl (by decide +kernel) ⟨Nat.le_of_ble_eq_true rfl, Nat.le_of_ble_eq_true rfl⟩) ⟨PreR.blind, va_recv hK hP (ci := 4) (q0 := 0) rfl rfl, y_preR hC hP⟩ rfl rfl hl.1 rfl (lv_room (Nat.le_of_ble_eq_true rfl)) dX4_changed_3 ⟨Nat.zero_le _, Nat.zero_le _⟩) ?_
  refine lv_iconst (v := nI 1) hx hb dX4_changed_6 (by decide) ?_
  refine lv_isub hx hb dX4_changed_7 ?_
  obtain ⟨v_3, e_4, hrun⟩ := bd hrun
  refine y_roz (va_runS (As := [.int u1, .int (nI 1), .int (v_1 - (nI 1))]) (rest := []) ⟨hx, hb, hml, hown, hts⟩ (c_X4_in l G   u1 (nI 1) (v_1 - (nI 1)) v_3 e_4) (cwS 3 hts gX4_changed_X4_in rfl rfl rfl (by decide +kernel) ⟨Nat.le_of_ble_eq_true rfl, Nat.le_of_ble_eq_true rfl⟩) ⟨PreR.blind, y_preR hC (fun _ _ h => by cases h)⟩ rfl rfl hl.1 rfl (lv_room (Nat.le_of_ble_eq_true rfl)) dX4_changed_8 ⟨Nat.zero_le _, Nat.zero_le _⟩) (fun z_5 => ?_)
  refine lv_if_ne (tgt := 16) hx hb dX4_changed_11 (by decide) (fun c_6 => ?_) (fun c_6 => ?_)
  · replace hrun := it_neg c_6 hrun
    refine lv_aload_n hx hb dX4_changed_16 rfl (lv_at hl 0 rfl) ?_
    obtain ⟨N_8, e_7, hrun⟩ := bd hrun
    have hF := y_all hD hS hA
    refine y_rwv (va_runV (As := []) (rest := []) ⟨hx, hb, hml, hown, hts⟩ (c_X4_layHeads l G am M  _ N_8 e_7) (cwV 0 hts gX4_changed_X4_layHeads rfl rfl rfl (by decide +kernel) ⟨Nat.le_of_ble_eq_true rfl, Nat.le_of_ble_eq_true rfl⟩) ⟨PreW.blind, va_recv hK hP (ci := 4) (q0 := 0) rfl rfl, y_preW hC hP hD⟩ rfl rfl hl.1 rfl (lv_room (Nat.le_of_ble_eq_true rfl)) dX4_changed_17 ⟨Nat.zero_le _, Nat.zero_le _⟩) hS hF (fun H locs hP1 hD1 hk1 hS => ?_)
    replace hP : va_P G.1 vwCl (wMod G am N_8) H := hP1
    replace hD : va_D A (wMod G am N_8) := hD1.weaken (fun _ q _ h => hF q.1 h)
    clear hP1 hD1 hk1 hF
    refine lv_aload_n hx hb dX4_changed_20 rfl (lv_at hl 0 rfl) ?_
    refine lv_iload_n hx hb dX4_changed_21 rfl (lv_at hl 1 rfl) ?_
    obtain ⟨v_11, N_10, e_9, hrun⟩ := bd2 hrun
    have hF := y_all hD hS hA
    refine y_rwi (va_runV (As := [.int u1]) (rest := []) ⟨hx, hb, hml, hown, hts⟩ (c_X4_changedBy l G am N_8 u1 _ v_11 N_10 e_9) (cwV 1 hts gX4_changed_X4_changedBy rfl rfl rfl (by decide +kernel) ⟨Nat.le_of_ble_eq_true rfl, Nat.le_of_ble_eq_true rfl⟩) ⟨PreW.blind, va_recv hK hP (ci := 4) (q0 := 0) rfl rfl, y_preW hC hP hD⟩ rfl rfl hl.1 rfl (lv_room (Nat.le_of_ble_eq_true rfl)) dX4_changed_22 ⟨Nat.zero_le _, Nat.zero_le _⟩) hS hF (fun H locs hP1 hD1 hk1 hS => ?_)
    replace hP : va_P G.1 vwCl (wMod G am N_10) H := hP1
    replace hD : va_D A (wMod G am N_10) := hD1.weaken (fun _ q _ h => hF q.1 h)
    clear hP1 hD1 hk1 hF
    obtain ⟨hr1, hr2⟩ := si2 hrun
    exact W.iret (v := v_11) hx hb hr (fun t ht hW => ⟨⟨v_11, (), rfl, hr1, by rw [ht, ← hr2]; exact hP, by rw [← hr2]; exact hD⟩, hS.F ht⟩) hS.2.2 dX4_changed_25
  · replace hrun := it_pos c_6 hrun
    refine lv_iconst (v := -1) hx hb dX4_changed_14 (by decide) ?_
    obtain ⟨hr1, hr2⟩ := si2 hrun
    exact W.iret (v := (-1)) hx hb hr (fun t ht hW => ⟨⟨(-1), (), rfl, hr1, by rw [ht, ← hr2]; exact hP, by rw [← hr2]; exact hD⟩, hS.F ht⟩) hS.2.2 dX4_changed_15
def p_X4_worst_57  (K : Int32 → Int32 → Int32 → Int32 → Ob → Option (Int32 × Ob)) (x1 : Int32) (x2 : Int32) (x3 : Int32) (x4 : Int32) (M : Ob) : Option (Int32 × Ob) := K x1 x2 x3 (x4 + nI 1) M
def p_X4_worst_51  (K : Int32 → Int32 → Int32 → Int32 → Ob → Option (Int32 × Ob)) (x1 : Int32) (x4 : Int32) (x5 : Int32) (M : Ob) : Option (Int32 × Ob) := p_X4_worst_57 K x1 x4 x5 x4 M
def p_X4_worst_24  : Nat → Int32 → Int32 → Int32 → Int32 → Ob → Option (Int32 × Ob)
  | 0, _, _, _, _, _ => none
  | n + 1, x1, x2, x3, x4, M => ((p_X4_many M).bind fun v_7 => (if v_7 ≤ x4 then (if x1 = nI 0 then (some (x2, M)) else (some (x3, M))) else (bind2 (p_X4_changedBy x4 M) fun v_13 N_12 => (if x2 < nI 0 then p_X4_worst_51 (p_X4_worst_24 n) x1 x4 v_13 N_12 else (if v_13 ≤ x3 then p_X4_worst_57 (p_X4_worst_24 n) x1 x2 x3 x4 N_12 else p_X4_worst_51 (p_X4_worst_24 n) x1 x4 v_13 N_12)))))
def p_X4_worst  (u1 : Int32) (M : Ob) : Option (Int32 × Ob) := ((p_X4_in u1 (nI 0) (nI 1)).bind fun v_1 => (if v_1 = nI 0 then (some ((-2), M)) else ((p_X4_layHeads M).bind fun N_6 => p_X4_worst_24 200 u1 (-6) (nI 0) (nI 1) N_6)))
abbrev rmX4_worst : Room := { frames := 6, cells := 0, slots := 0, locals := 136 }
set_option maxHeartbeats 4000000 in
set_option maxRecDepth 100000 in
theorem c_X4_worst (l : Launch) (G : GT) (am : Nat → Nat) (M : Ob) (u1 : Int32) (sz : Nat) (r0 : Int32) (M0 : Ob) (hrun : p_X4_worst u1 M = some (r0, M0)) : Met l yX4_worst wsX4_worst rmX4_worst (PreW G [.ref (am 0), .int u1] (wMod G am M) sz) (QI G r0 (wMod G am M0) (va_A (wMod G am M) sz)) 0 0 (va_A (wMod G am M) sz) := by
  refine Met.ofW (cc := cX4_worst) (maxL := 6) (ret := (some .int)) (by decide) rfl ?_
  intro p e s m args below meth c s₁ Bd hml hv
  obtain ⟨rfl, hsz, hP, hC, hD0⟩ := hv
  have hx := Bd.exec
  have hb := Bd.bytes
  have hr := Bd.returns
  have hts := atoms_spec (ws := wsX4_worst) Bd.pre
  have hown : s.vm.findClass RX4 = some m.cls := findClass_of_methodNamed Bd.named
  have hlocks := Bd.notSynchronized
  have hK := hC.1
  subst hsz
  have hD := hD0.self (sz := s.heap.size)
  generalize hAe : va_A (wMod G am M) s.heap.size = A at hD ⊢
  have hA : ∀ q : Nat, s.heap.size ≤ q → A q := fun q h => by rw [← hAe]; exact Or.inr h
  have hS : va_S A s.heap s.heap [] := va_S.rf
  have kH_24 : ∀ (n : Nat) (x1 x2 x3 x4 : Int32) (M : Ob) , ∀ (H : Heap) (locs : List Loc), va_P G.1 vwCl (wMod G am M) H → va_D A (wMod G am M) → va_S A s.heap H locs → ∀ (ls : Array Slot), lv_has ls 6 [(0, .ref (am 0)), (1, .int x1), (2, .int x2), (3, .int x3), (4, .int x4)] → p_X4_worst_24 n x1 x2 x3 x4 M = some (r0, M0) → W p l e (headSpec wsX4_worst rmX4_worst).room s m ([.ref (am 0), .int u1] : List Value).toArray below meth c H locs 0 0 (MQ below (QI G r0 (wMod G am M0) A) ([.ref (am 0), .int u1] : List Value).toArray s 0 0 A) (F0 m 24 ls []) := by
    intro n
    induction n with
    | zero => intro x1 x2 x3 x4 M H locs hP hD hS ls hl hrun; exact absurd (hrun : (none : Option (Int32 × Ob)) = some (r0, M0)) (fun h => by cases h)
    | succ n ih =>
      have kJ_57 : ∀ (x1 x2 x3 x4 : Int32) (M : Ob) , ∀ (H : Heap) (locs : List Loc), va_P G.1 vwCl (wMod G am M) H → va_D A (wMod G am M) → va_S A s.heap H locs → ∀ (ls : Array Slot), lv_has ls 6 [(0, .ref (am 0)), (1, .int x1), (2, .int x2), (3, .int x3), (4, .int x4)] → p_X4_worst_57 (p_X4_worst_24 n) x1 x2 x3 x4 M = some (r0, M0) → W p l e (headSpec wsX4_worst rmX4_worst).room s m ([.ref (am 0), .int u1] : List Value).toArray below meth c H locs 0 0 (MQ below (QI G r0 (wMod G am M0) A) ([.ref (am 0), .int u1] : List Value).toArray s 0 0 A) (F0 m 57 ls []) := by
        intro x1 x2 x3 x4 M H locs hP hD hS ls hl hrun
        rw [p_X4_worst_57] at hrun
        refine lv_iinc (v := (x4 + nI 1)) (lv' := [(4, .int (x4 + nI 1)), (0, .ref (am 0)), (1, .int x1), (2, .int x2), (3, .int x3)]) hx hb dX4_worst_57 hl (k := 4) rfl rfl (by decide) rfl (fun ls hl => ?_)
        refine lv_goto (tgt := 24) hx hb dX4_worst_60 (by decide) ?_
        exact ih x1 x2 x3 (x4 + nI 1) M _ _ hP hD hS ls (lv_sub hl [1, 2, 3, 4, 0] rfl) hrun
      have kJ_51 : ∀ (x1 x4 x5 : Int32) (M : Ob) , ∀ (H : Heap) (locs : List Loc), va_P G.1 vwCl (wMod G am M) H → va_D A (wMod G am M) → va_S A s.heap H locs → ∀ (ls : Array Slot), lv_has ls 6 [(0, .ref (am 0)), (1, .int x1), (4, .int x4), (5, .int x5)] → p_X4_worst_51 (p_X4_worst_24 n) x1 x4 x5 M = some (r0, M0) → W p l e (headSpec wsX4_worst rmX4_worst).room s m ([.ref (am 0), .int u1] : List Value).toArray below meth c H locs 0 0 (MQ below (QI G r0 (wMod G am M0) A) ([.ref (am 0), .int u1] : List Value).toArray s 0 0 A) (F0 m 51 ls []) := by
        intro x1 x4 x5 M H locs hP hD hS ls hl hrun
        rw [p_X4_worst_51] at hrun
        refine lv_iload hx hb dX4_worst_51 (lv_at hl 2 rfl) ?_
        refine lv_istore_n (lv' := [(2, .int x4), (0, .ref (am 0)), (1, .int x1), (4, .int x4), (5, .int x5)]) hx hb dX4_worst_53 rfl hl (by decide) rfl (fun ls hl => ?_)
        refine lv_iload hx hb dX4_worst_54 (lv_at hl 4 rfl) ?_
        refine lv_istore_n (lv' := [(3, .int x5), (2, .int x4), (0, .ref (am 0)), (1, .int x1), (4, .int x4), (5, .int x5)]) hx hb dX4_worst_56 rfl hl (by decide) rfl (fun ls hl => ?_)
        exact kJ_57 x1 x4 x5 x4 M _ _ hP hD hS ls (lv_sub hl [2, 3, 1, 0, 4] rfl) hrun
      intro x1 x2 x3 x4 M H locs hP hD hS ls hl hrun
      rw [p_X4_worst_24] at hrun
      refine lv_iload hx hb dX4_worst_24 (lv_at hl 4 rfl) ?_
      refine lv_aload_n hx hb dX4_worst_26 rfl (lv_at hl 0 rfl) ?_
      obtain ⟨v_7, e_8, hrun⟩ := bd hrun
      refine y_ro (va_runV (As := []) (rest := [.int x4]) ⟨hx, hb, hml, hown, hts⟩ (c_X4_many l G am M  v_7 e_8) (cwV 0 hts gX4_worst_X4_many rfl rfl rfl (by decide +kernel) ⟨Nat.le_of_ble_eq_true rfl, Nat.le_of_ble_eq_true rfl⟩) ⟨PreR.blind, va_recv hK hP (ci := 4) (q0 := 0) rfl rfl, y_preR hC hP⟩ rfl rfl hl.1 rfl (lv_room (Nat.le_of_ble_eq_true rfl)) dX4_worst_27 ⟨Nat.zero_le _, Nat.zero_le _⟩) ?_
      refine lv_icmp_ge (tgt := 63) hx hb dX4_worst_30 (by decide) (fun c_9 => ?_) (fun c_9 => ?_)
      · replace hrun := it_pos c_9 hrun
        refine lv_iload_n hx hb dX4_worst_63 rfl (lv_at hl 1 rfl) ?_
        refine lv_if_ne (tgt := 71) hx hb dX4_worst_64 (by decide) (fun c_10 => ?_) (fun c_10 => ?_)
        · replace hrun := it_neg c_10 hrun
          refine lv_iload_n hx hb dX4_worst_71 rfl (lv_at hl 3 rfl) ?_
          obtain ⟨hr1, hr2⟩ := si2 hrun
          exact W.iret (v := x3) hx hb hr (fun t ht hW => ⟨⟨x3, (), rfl, hr1, by rw [ht, ← hr2]; exact hP, by rw [← hr2]; exact hD⟩, hS.F ht⟩) hS.2.2 dX4_worst_72
        · replace hrun := it_pos c_10 hrun
          refine lv_iload_n hx hb dX4_worst_67 rfl (lv_at hl 2 rfl) ?_
          refine lv_goto (tgt := 72) hx hb dX4_worst_68 (by decide) ?_
          obtain ⟨hr1, hr2⟩ := si2 hrun
          exact W.iret (v := x2) hx hb hr (fun t ht hW => ⟨⟨x2, (), rfl, hr1, by rw [ht, ← hr2]; exact hP, by rw [← hr2]; exact hD⟩, hS.F ht⟩) hS.2.2 dX4_worst_72
      · replace hrun := it_neg c_9 hrun
        refine lv_aload_n hx hb dX4_worst_33 rfl (lv_at hl 0 rfl) ?_
        refine lv_iload hx hb dX4_worst_34 (lv_at hl 4 rfl) ?_
        obtain ⟨v_13, N_12, e_11, hrun⟩ := bd2 hrun
        have hF := y_all hD hS hA
        refine y_rwi (va_runV (As := [.int x4]) (rest := []) ⟨hx, hb, hml, hown, hts⟩ (c_X4_changedBy l G am M x4 _ v_13 N_12 e_11) (cwV 1 hts gX4_worst_X4_changedBy rfl rfl rfl (by decide +kernel) ⟨Nat.le_of_ble_eq_true rfl, Nat.le_of_ble_eq_true rfl⟩) ⟨PreW.blind, va_recv hK hP (ci := 4) (q0 := 0) rfl rfl, y_preW hC hP hD⟩ rfl rfl hl.1 rfl (lv_room (Nat.le_of_ble_eq_true rfl)) dX4_worst_36 ⟨Nat.zero_le _, Nat.zero_le _⟩) hS hF (fun H locs hP1 hD1 hk1 hS => ?_)
        replace hP : va_P G.1 vwCl (wMod G am N_12) H := hP1
        replace hD : va_D A (wMod G am N_12) := hD1.weaken (fun _ q _ h => hF q.1 h)
        clear hP1 hD1 hk1 hF
        refine lv_istore (lv' := [(5, .int v_13), (0, .ref (am 0)), (1, .int x1), (2, .int x2), (3, .int x3), (4, .int x4)]) hx hb dX4_worst_39 hl (by decide) rfl (fun ls hl => ?_)
        refine lv_iload_n hx hb dX4_worst_41 rfl (lv_at hl 3 rfl) ?_
        refine lv_if_lt (tgt := 51) hx hb dX4_worst_42 (by decide) (fun c_14 => ?_) (fun c_14 => ?_)
        · replace hrun := it_pos c_14 hrun
          exact kJ_51 x1 x4 v_13 N_12 _ _ hP hD hS ls (lv_sub hl [1, 2, 5, 0] rfl) hrun
        · replace hrun := it_neg c_14 hrun
          refine lv_iload hx hb dX4_worst_45 (lv_at hl 0 rfl) ?_
          refine lv_iload_n hx hb dX4_worst_47 rfl (lv_at hl 4 rfl) ?_
          refine lv_icmp_le (tgt := 57) hx hb dX4_worst_48 (by decide) (fun c_15 => ?_) (fun c_15 => ?_)
          · replace hrun := it_pos c_15 hrun
            exact kJ_57 x1 x2 x3 x4 N_12 _ _ hP hD hS ls (lv_sub hl [1, 2, 3, 4, 5] rfl) hrun
          · replace hrun := it_neg c_15 hrun
            exact kJ_51 x1 x4 v_13 N_12 _ _ hP hD hS ls (lv_sub hl [1, 2, 5, 0] rfl) hrun
  have hl := lv_entry [.ref (am 0), .int u1] (n := 6) (Nat.le_of_ble_eq_true rfl)
  rw [lg_entry_eq]
  generalize (lg_sl [.ref (am 0), .int u1] ++ List.replicate (6 - (lg_sl [.ref (am 0), .int u1]).length) Slot.unset).toArray = ls at hl ⊢
  have hl : lv_has ls 6 [(0, .ref (am 0)), (1, .int u1)] := hl
  rw [p_X4_worst] at hrun
  refine lv_iload_n hx hb dX4_worst_0 rfl (lv_at hl 1 rfl) ?_
  refine lv_iconst (v := nI 0) hx hb dX4_worst_1 (by decide) ?_
  refine lv_iconst (v := nI 1) hx hb dX4_worst_2 (by decide) ?_
  obtain ⟨v_1, e_2, hrun⟩ := bd hrun
  refine y_roz (va_runS (As := [.int u1, .int (nI 0), .int (nI 1)]) (rest := []) ⟨hx, hb, hml, hown, hts⟩ (c_X4_in l G   u1 (nI 0) (nI 1) v_1 e_2) (cwS 3 hts gX4_worst_X4_in rfl rfl rfl (by decide +kernel) ⟨Nat.le_of_ble_eq_true rfl, Nat.le_of_ble_eq_true rfl⟩) ⟨PreR.blind, y_preR hC (fun _ _ h => by cases h)⟩ rfl rfl hl.1 rfl (lv_room (Nat.le_of_ble_eq_true rfl)) dX4_worst_3 ⟨Nat.zero_le _, Nat.zero_le _⟩) (fun z_3 => ?_)
  refine lv_if_ne (tgt := 12) hx hb dX4_worst_6 (by decide) (fun c_4 => ?_) (fun c_4 => ?_)
  · replace hrun := it_neg c_4 hrun
    refine lv_aload_n hx hb dX4_worst_12 rfl (lv_at hl 0 rfl) ?_
    obtain ⟨N_6, e_5, hrun⟩ := bd hrun
    have hF := y_all hD hS hA
    refine y_rwv (va_runV (As := []) (rest := []) ⟨hx, hb, hml, hown, hts⟩ (c_X4_layHeads l G am M  _ N_6 e_5) (cwV 0 hts gX4_worst_X4_layHeads rfl rfl rfl (by decide +kernel) ⟨Nat.le_of_ble_eq_true rfl, Nat.le_of_ble_eq_true rfl⟩) ⟨PreW.blind, va_recv hK hP (ci := 4) (q0 := 0) rfl rfl, y_preW hC hP hD⟩ rfl rfl hl.1 rfl (lv_room (Nat.le_of_ble_eq_true rfl)) dX4_worst_13 ⟨Nat.zero_le _, Nat.zero_le _⟩) hS hF (fun H locs hP1 hD1 hk1 hS => ?_)
    replace hP : va_P G.1 vwCl (wMod G am N_6) H := hP1
    replace hD : va_D A (wMod G am N_6) := hD1.weaken (fun _ q _ h => hF q.1 h)
    clear hP1 hD1 hk1 hF
    refine lv_bipush (v := -6) hx hb dX4_worst_16 (by decide) ?_
    refine lv_istore_n (lv' := [(2, .int (-6)), (0, .ref (am 0)), (1, .int u1)]) hx hb dX4_worst_18 rfl hl (by decide) rfl (fun ls hl => ?_)
    refine lv_iconst (v := nI 0) hx hb dX4_worst_19 (by decide) ?_
    refine lv_istore_n (lv' := [(3, .int (nI 0)), (2, .int (-6)), (0, .ref (am 0)), (1, .int u1)]) hx hb dX4_worst_20 rfl hl (by decide) rfl (fun ls hl => ?_)
    refine lv_iconst (v := nI 1) hx hb dX4_worst_21 (by decide) ?_
    refine lv_istore (lv' := [(4, .int (nI 1)), (3, .int (nI 0)), (2, .int (-6)), (0, .ref (am 0)), (1, .int u1)]) hx hb dX4_worst_22 hl (by decide) rfl (fun ls hl => ?_)
    exact kH_24 200 u1 (-6) (nI 0) (nI 1) N_6 _ _ hP hD hS ls (lv_sub hl [3, 4, 2, 1, 0] rfl) hrun
  · replace hrun := it_pos c_4 hrun
    refine lv_bipush (v := -2) hx hb dX4_worst_9 (by decide) ?_
    obtain ⟨hr1, hr2⟩ := si2 hrun
    exact W.iret (v := (-2)) hx hb hr (fun t ht hW => ⟨⟨(-2), (), rfl, hr1, by rw [ht, ← hr2]; exact hP, by rw [← hr2]; exact hD⟩, hS.F ht⟩) hS.2.2 dX4_worst_11
def p_X4_fit_73  (K : Int32 → Int32 → Int32 → Int32 → Ob → Option (Int32 × Ob)) (x1 : Int32) (x2 : Int32) (x4 : Int32) (y0 : Int32) (M : Ob) : Option (Int32 × Ob) := K x1 x2 y0 (x4 + (-1)) M
def p_X4_fit_80  (x2 : Int32) (x3 : Int32) (M : Ob) : Option (Int32 × Ob) := ((stO M 0 130 (nI 121) x2).bind fun N_16 => (some (x3, N_16)))
def p_X4_fit_28  : Nat → Int32 → Int32 → Int32 → Int32 → Ob → Option (Int32 × Ob)
  | 0, _, _, _, _, _ => none
  | n + 1, x1, x2, x3, x4, M => (if x4 < (nI 2) then p_X4_fit_80 x2 x3 M else ((ldI (M 0) 130 (nI 123)).bind fun v_8 => (if x4 ≤ v_8 then p_X4_fit_80 x2 x3 M else ((stO M 0 130 (nI 121) x4).bind fun N_11 => ((p_X4_layPages N_11).bind fun N_14 => (if x1 < (N_14 10 0) then p_X4_fit_73 (p_X4_fit_28 n) x1 x2 x4 x3 N_14 else p_X4_fit_73 (p_X4_fit_28 n) x1 x2 x4 x4 N_14))))))
def p_X4_fit  (u1 : Int32) (M : Ob) : Option (Int32 × Ob) := ((p_X4_in u1 (nI 0) (nI 99)).bind fun v_1 => (if v_1 = nI 0 then (some ((-2), M)) else ((ldI (M 0) 130 (nI 121)).bind fun v_5 => p_X4_fit_28 200 u1 v_5 (-6) (nI 9) M)))
abbrev rmX4_fit : Room := { frames := 4, cells := 0, slots := 0, locals := 86 }
set_option maxHeartbeats 4000000 in
set_option maxRecDepth 100000 in
theorem c_X4_fit (l : Launch) (G : GT) (am : Nat → Nat) (M : Ob) (u1 : Int32) (sz : Nat) (r0 : Int32) (M0 : Ob) (hrun : p_X4_fit u1 M = some (r0, M0)) : Met l yX4_fit wsX4_fit rmX4_fit (PreW G [.ref (am 0), .int u1] (wMod G am M) sz) (QI G r0 (wMod G am M0) (va_A (wMod G am M) sz)) 0 0 (va_A (wMod G am M) sz) := by
  refine Met.ofW (cc := cX4_fit) (maxL := 5) (ret := (some .int)) (by decide) rfl ?_
  intro p e s m args below meth c s₁ Bd hml hv
  obtain ⟨rfl, hsz, hP, hC, hD0⟩ := hv
  have hx := Bd.exec
  have hb := Bd.bytes
  have hr := Bd.returns
  have hts := atoms_spec (ws := wsX4_fit) Bd.pre
  have hown : s.vm.findClass RX4 = some m.cls := findClass_of_methodNamed Bd.named
  have hlocks := Bd.notSynchronized
  have hK := hC.1
  have iwX4 : ∀ w ∈ wsX40, w ∈ wsX4_fit := by decide +kernel
  have ha0 := hts (.fieldLink RX4 7 "HeadMarksModel" "state" "[I") (by decide +kernel)
  have ha1 := hts (.fieldLink RX4 76 "HeadMarksModel" "pages" "I") (by decide +kernel)
  subst hsz
  have hD := hD0.self (sz := s.heap.size)
  generalize hAe : va_A (wMod G am M) s.heap.size = A at hD ⊢
  have hA : ∀ q : Nat, s.heap.size ≤ q → A q := fun q h => by rw [← hAe]; exact Or.inr h
  have hS : va_S A s.heap s.heap [] := va_S.rf
  have kJ_80 : ∀ (x2 x3 : Int32) (M : Ob) , ∀ (H : Heap) (locs : List Loc), va_P G.1 vwCl (wMod G am M) H → va_D A (wMod G am M) → va_S A s.heap H locs → ∀ (ls : Array Slot), lv_has ls 5 [(0, .ref (am 0)), (2, .int x2), (3, .int x3)] → p_X4_fit_80 x2 x3 M = some (r0, M0) → W p l e (headSpec wsX4_fit rmX4_fit).room s m ([.ref (am 0), .int u1] : List Value).toArray below meth c H locs 0 0 (MQ below (QI G r0 (wMod G am M0) A) ([.ref (am 0), .int u1] : List Value).toArray s 0 0 A) (F0 m 80 ls []) := by
    intro x2 x3 M H locs hP hD hS ls hl hrun
    rw [p_X4_fit_80] at hrun
    refine lv_aload_n hx hb dX4_fit_80 rfl (lv_at hl 0 rfl) ?_
    refine va_get (D := G.1) (ci := 4) (v := .ref (am 1)) (C := RX4) (T := TX4) (N := 12) hx hb hts iwX4 hown hK hP 0 rfl rfl 0 (by decide) ha0 (fun _ h9 => h9) rfl dX4_fit_81 ?_
    refine lv_bipush (v := nI 121) hx hb dX4_fit_84 (by decide) ?_
    refine lv_iload_n hx hb dX4_fit_86 rfl (lv_at hl 1 rfl) ?_
    obtain ⟨N_16, e_17, hrun⟩ := bd hrun
    replace e_17 := stO_spec e_17
    refine va_iast hx hb hK hP hD hS 1 0 rfl rfl e_17.1 dX4_fit_87 (fun H locs hP hD hS => ?_)
    replace hP : va_P G.1 vwCl (wMod G am N_16) H := by rw [← e_17.2]; exact hP
    replace hD : va_D A (wMod G am N_16) := by rw [← e_17.2]; exact hD
    refine lv_iload_n hx hb dX4_fit_88 rfl (lv_at hl 2 rfl) ?_
    obtain ⟨hr1, hr2⟩ := si2 hrun
    exact W.iret (v := x3) hx hb hr (fun t ht hW => ⟨⟨x3, (), rfl, hr1, by rw [ht, ← hr2]; exact hP, by rw [← hr2]; exact hD⟩, hS.F ht⟩) hS.2.2 dX4_fit_89
  have kH_28 : ∀ (n : Nat) (x1 x2 x3 x4 : Int32) (M : Ob) , ∀ (H : Heap) (locs : List Loc), va_P G.1 vwCl (wMod G am M) H → va_D A (wMod G am M) → va_S A s.heap H locs → ∀ (ls : Array Slot), lv_has ls 5 [(0, .ref (am 0)), (1, .int x1), (2, .int x2), (3, .int x3), (4, .int x4)] → p_X4_fit_28 n x1 x2 x3 x4 M = some (r0, M0) → W p l e (headSpec wsX4_fit rmX4_fit).room s m ([.ref (am 0), .int u1] : List Value).toArray below meth c H locs 0 0 (MQ below (QI G r0 (wMod G am M0) A) ([.ref (am 0), .int u1] : List Value).toArray s 0 0 A) (F0 m 28 ls []) := by
    intro n
    induction n with
    | zero => intro x1 x2 x3 x4 M H locs hP hD hS ls hl hrun; exact absurd (hrun : (none : Option (Int32 × Ob)) = some (r0, M0)) (fun h => by cases h)
    | succ n ih =>
      have kJ_73 : ∀ (x1 x2 x4 y0 : Int32) (M : Ob) , ∀ (H : Heap) (locs : List Loc), va_P G.1 vwCl (wMod G am M) H → va_D A (wMod G am M) → va_S A s.heap H locs → ∀ (ls : Array Slot), lv_has ls 5 [(0, .ref (am 0)), (1, .int x1), (2, .int x2), (4, .int x4)] → p_X4_fit_73 (p_X4_fit_28 n) x1 x2 x4 y0 M = some (r0, M0) → W p l e (headSpec wsX4_fit rmX4_fit).room s m ([.ref (am 0), .int u1] : List Value).toArray below meth c H locs 0 0 (MQ below (QI G r0 (wMod G am M0) A) ([.ref (am 0), .int u1] : List Value).toArray s 0 0 A) (F0 m 73 ls [.int y0]) := by
        intro x1 x2 x4 y0 M H locs hP hD hS ls hl hrun
        rw [p_X4_fit_73] at hrun
        refine lv_istore_n (lv' := [(3, .int y0), (0, .ref (am 0)), (1, .int x1), (2, .int x2), (4, .int x4)]) hx hb dX4_fit_73 rfl hl (by decide) rfl (fun ls hl => ?_)
        refine lv_iinc (v := (x4 + (-1))) (lv' := [(4, .int (x4 + (-1))), (3, .int y0), (0, .ref (am 0)), (1, .int x1), (2, .int x2)]) hx hb dX4_fit_74 hl (k := 4) rfl rfl (by decide) rfl (fun ls hl => ?_)
        refine lv_goto (tgt := 28) hx hb dX4_fit_77 (by decide) ?_
        exact ih x1 x2 y0 (x4 + (-1)) M _ _ hP hD hS ls (lv_sub hl [2, 3, 4, 1, 0] rfl) hrun
      intro x1 x2 x3 x4 M H locs hP hD hS ls hl hrun
      rw [p_X4_fit_28] at hrun
      refine lv_iload hx hb dX4_fit_28 (lv_at hl 4 rfl) ?_
      refine lv_iconst (v := nI 2) hx hb dX4_fit_30 (by decide) ?_
      refine lv_icmp_lt (tgt := 80) hx hb dX4_fit_31 (by decide) (fun c_7 => ?_) (fun c_7 => ?_)
      · replace hrun := it_pos c_7 hrun
        exact kJ_80 x2 x3 M _ _ hP hD hS ls (lv_sub hl [0, 2, 3] rfl) hrun
      · replace hrun := it_neg c_7 hrun
        refine lv_iload hx hb dX4_fit_34 (lv_at hl 4 rfl) ?_
        refine lv_aload_n hx hb dX4_fit_36 rfl (lv_at hl 0 rfl) ?_
        refine va_get (D := G.1) (ci := 4) (v := .ref (am 1)) (C := RX4) (T := TX4) (N := 12) hx hb hts iwX4 hown hK hP 0 rfl rfl 0 (by decide) ha0 (fun _ h9 => h9) rfl dX4_fit_37 ?_
        refine lv_bipush (v := nI 123) hx hb dX4_fit_40 (by decide) ?_
        obtain ⟨v_8, e_9, hrun⟩ := bd hrun
        refine y_ald hx hb hK hP 1 0 rfl rfl e_9 dX4_fit_42 ?_
        refine lv_icmp_le (tgt := 80) hx hb dX4_fit_43 (by decide) (fun c_10 => ?_) (fun c_10 => ?_)
        · replace hrun := it_pos c_10 hrun
          exact kJ_80 x2 x3 M _ _ hP hD hS ls (lv_sub hl [0, 2, 3] rfl) hrun
        · replace hrun := it_neg c_10 hrun
          refine lv_aload_n hx hb dX4_fit_46 rfl (lv_at hl 0 rfl) ?_
          refine va_get (D := G.1) (ci := 4) (v := .ref (am 1)) (C := RX4) (T := TX4) (N := 12) hx hb hts iwX4 hown hK hP 0 rfl rfl 0 (by decide) ha0 (fun _ h9 => h9) rfl dX4_fit_47 ?_
          refine lv_bipush (v := nI 121) hx hb dX4_fit_50 (by decide) ?_
          refine lv_iload hx hb dX4_fit_52 (lv_at hl 4 rfl) ?_
          obtain ⟨N_11, e_12, hrun⟩ := bd hrun
          replace e_12 := stO_spec e_12
          refine va_iast hx hb hK hP hD hS 1 0 rfl rfl e_12.1 dX4_fit_54 (fun H locs hP hD hS => ?_)
          replace hP : va_P G.1 vwCl (wMod G am N_11) H := by rw [← e_12.2]; exact hP
          replace hD : va_D A (wMod G am N_11) := by rw [← e_12.2]; exact hD
          refine lv_aload_n hx hb dX4_fit_55 rfl (lv_at hl 0 rfl) ?_
          obtain ⟨N_14, e_13, hrun⟩ := bd hrun
          have hF := y_all hD hS hA
          refine y_rwv (va_runV (As := []) (rest := []) ⟨hx, hb, hml, hown, hts⟩ (c_X4_layPages l G am N_11  _ N_14 e_13) (cwV 0 hts gX4_fit_X4_layPages rfl rfl rfl (by decide +kernel) ⟨Nat.le_of_ble_eq_true rfl, Nat.le_of_ble_eq_true rfl⟩) ⟨PreW.blind, va_recv hK hP (ci := 4) (q0 := 0) rfl rfl, y_preW hC hP hD⟩ rfl rfl hl.1 rfl (lv_room (Nat.le_of_ble_eq_true rfl)) dX4_fit_56 ⟨Nat.zero_le _, Nat.zero_le _⟩) hS hF (fun H locs hP1 hD1 hk1 hS => ?_)
          replace hP : va_P G.1 vwCl (wMod G am N_14) H := hP1
          replace hD : va_D A (wMod G am N_14) := hD1.weaken (fun _ q _ h => hF q.1 h)
          clear hP1 hD1 hk1 hF
          refine lv_aload_n hx hb dX4_fit_59 rfl (lv_at hl 0 rfl) ?_
          refine va_get (D := G.1) (ci := 4) (v := .int (N_14 10 0)) (C := RX4) (T := TX4) (N := 12) hx hb hts iwX4 hown hK hP 0 rfl rfl 10 (by decide) ha1 (fun _ h9 => h9) rfl dX4_fit_60 ?_
          refine lv_iload_n hx hb dX4_fit_63 rfl (lv_at hl 1 rfl) ?_
          refine lv_icmp_gt (tgt := 72) hx hb dX4_fit_64 (by decide) (fun c_15 => ?_) (fun c_15 => ?_)
          · replace hrun := it_pos c_15 hrun
            refine lv_iload_n hx hb dX4_fit_72 rfl (lv_at hl 3 rfl) ?_
            exact kJ_73 x1 x2 x4 x3 N_14 _ _ hP hD hS ls (lv_sub hl [0, 1, 2, 4] rfl) hrun
          · replace hrun := it_neg c_15 hrun
            refine lv_iload hx hb dX4_fit_67 (lv_at hl 4 rfl) ?_
            refine lv_goto (tgt := 73) hx hb dX4_fit_69 (by decide) ?_
            exact kJ_73 x1 x2 x4 x4 N_14 _ _ hP hD hS ls (lv_sub hl [0, 1, 2, 4] rfl) hrun
  have hl := lv_entry [.ref (am 0), .int u1] (n := 5) (Nat.le_of_ble_eq_true rfl)
  rw [lg_entry_eq]
  generalize (lg_sl [.ref (am 0), .int u1] ++ List.replicate (5 - (lg_sl [.ref (am 0), .int u1]).length) Slot.unset).toArray = ls at hl ⊢
  have hl : lv_has ls 5 [(0, .ref (am 0)), (1, .int u1)] := hl
  rw [p_X4_fit] at hrun
  refine lv_iload_n hx hb dX4_fit_0 rfl (lv_at hl 1 rfl) ?_
  refine lv_iconst (v := nI 0) hx hb dX4_fit_1 (by decide) ?_
  refine lv_bipush (v := nI 99) hx hb dX4_fit_2 (by decide) ?_
  obtain ⟨v_1, e_2, hrun⟩ := bd hrun
  refine y_roz (va_runS (As := [.int u1, .int (nI 0), .int (nI 99)]) (rest := []) ⟨hx, hb, hml, hown, hts⟩ (c_X4_in l G   u1 (nI 0) (nI 99) v_1 e_2) (cwS 3 hts gX4_fit_X4_in rfl rfl rfl (by decide +kernel) ⟨Nat.le_of_ble_eq_true rfl, Nat.le_of_ble_eq_true rfl⟩) ⟨PreR.blind, y_preR hC (fun _ _ h => by cases h)⟩ rfl rfl hl.1 rfl (lv_room (Nat.le_of_ble_eq_true rfl)) dX4_fit_4 ⟨Nat.zero_le _, Nat.zero_le _⟩) (fun z_3 => ?_)
  refine lv_if_ne (tgt := 13) hx hb dX4_fit_7 (by decide) (fun c_4 => ?_) (fun c_4 => ?_)
  · replace hrun := it_neg c_4 hrun
    refine lv_aload_n hx hb dX4_fit_13 rfl (lv_at hl 0 rfl) ?_
    refine va_get (D := G.1) (ci := 4) (v := .ref (am 1)) (C := RX4) (T := TX4) (N := 12) hx hb hts iwX4 hown hK hP 0 rfl rfl 0 (by decide) ha0 (fun _ h9 => h9) rfl dX4_fit_14 ?_
    refine lv_bipush (v := nI 121) hx hb dX4_fit_17 (by decide) ?_
    obtain ⟨v_5, e_6, hrun⟩ := bd hrun
    refine y_ald hx hb hK hP 1 0 rfl rfl e_6 dX4_fit_19 ?_
    refine lv_istore_n (lv' := [(2, .int v_5), (0, .ref (am 0)), (1, .int u1)]) hx hb dX4_fit_20 rfl hl (by decide) rfl (fun ls hl => ?_)
    refine lv_bipush (v := -6) hx hb dX4_fit_21 (by decide) ?_
    refine lv_istore_n (lv' := [(3, .int (-6)), (2, .int v_5), (0, .ref (am 0)), (1, .int u1)]) hx hb dX4_fit_23 rfl hl (by decide) rfl (fun ls hl => ?_)
    refine lv_bipush (v := nI 9) hx hb dX4_fit_24 (by decide) ?_
    refine lv_istore (lv' := [(4, .int (nI 9)), (3, .int (-6)), (2, .int v_5), (0, .ref (am 0)), (1, .int u1)]) hx hb dX4_fit_26 hl (by decide) rfl (fun ls hl => ?_)
    exact kH_28 200 u1 v_5 (-6) (nI 9) M _ _ hP hD hS ls (lv_sub hl [3, 4, 2, 1, 0] rfl) hrun
  · replace hrun := it_pos c_4 hrun
    refine lv_bipush (v := -2) hx hb dX4_fit_10 (by decide) ?_
    obtain ⟨hr1, hr2⟩ := si2 hrun
    exact W.iret (v := (-2)) hx hb hr (fun t ht hW => ⟨⟨(-2), (), rfl, hr1, by rw [ht, ← hr2]; exact hP, by rw [← hr2]; exact hD⟩, hS.F ht⟩) hS.2.2 dX4_fit_12
def p_X4_image_14  : Nat → Int32 → Int32 → Ob → Option (Int32 × Ob)
  | 0, _, _, _ => none
  | n + 1, x1, x2, M => (if (nI 130) ≤ x2 then ((stO M 2 2 x1 (nI 1)).bind fun N_6 => (some ((nI 1), N_6))) else ((ldI (M 0) 130 x2).bind fun v_8 => ((stO M 1 260 (((nI 130) * x1) + x2) v_8).bind fun N_10 => p_X4_image_14 n x1 (x2 + nI 1) N_10)))
def p_X4_image  (u1 : Int32) (M : Ob) : Option (Int32 × Ob) := ((p_X4_in u1 (nI 0) (nI 1)).bind fun v_1 => (if v_1 = nI 0 then (some ((-2), M)) else p_X4_image_14 200 u1 (nI 0) M))
abbrev rmX4_image : Room := { frames := 1, cells := 0, slots := 0, locals := 22 }
set_option maxHeartbeats 4000000 in
set_option maxRecDepth 100000 in
theorem c_X4_image (l : Launch) (G : GT) (am : Nat → Nat) (M : Ob) (u1 : Int32) (sz : Nat) (r0 : Int32) (M0 : Ob) (hrun : p_X4_image u1 M = some (r0, M0)) : Met l yX4_image wsX4_image rmX4_image (PreW G [.ref (am 0), .int u1] (wMod G am M) sz) (QI G r0 (wMod G am M0) (va_A (wMod G am M) sz)) 0 0 (va_A (wMod G am M) sz) := by
  refine Met.ofW (cc := cX4_image) (maxL := 3) (ret := (some .int)) (by decide) rfl ?_
  intro p e s m args below meth c s₁ Bd hml hv
  obtain ⟨rfl, hsz, hP, hC, hD0⟩ := hv
  have hx := Bd.exec
  have hb := Bd.bytes
  have hr := Bd.returns
  have hts := atoms_spec (ws := wsX4_image) Bd.pre
  have hown : s.vm.findClass RX4 = some m.cls := findClass_of_methodNamed Bd.named
  have hlocks := Bd.notSynchronized
  have hK := hC.1
  have iwX4 : ∀ w ∈ wsX40, w ∈ wsX4_image := by decide +kernel
  have ha0 := hts (.fieldLink RX4 16 "HeadMarksModel" "isKept" "[Z") (by decide +kernel)
  have ha1 := hts (.fieldLink RX4 13 "HeadMarksModel" "images" "[I") (by decide +kernel)
  have ha2 := hts (.fieldLink RX4 7 "HeadMarksModel" "state" "[I") (by decide +kernel)
  subst hsz
  have hD := hD0.self (sz := s.heap.size)
  generalize hAe : va_A (wMod G am M) s.heap.size = A at hD ⊢
  have hA : ∀ q : Nat, s.heap.size ≤ q → A q := fun q h => by rw [← hAe]; exact Or.inr h
  have hS : va_S A s.heap s.heap [] := va_S.rf
  have kH_14 : ∀ (n : Nat) (x1 x2 : Int32) (M : Ob) , ∀ (H : Heap) (locs : List Loc), va_P G.1 vwCl (wMod G am M) H → va_D A (wMod G am M) → va_S A s.heap H locs → ∀ (ls : Array Slot), lv_has ls 3 [(0, .ref (am 0)), (1, .int x1), (2, .int x2)] → p_X4_image_14 n x1 x2 M = some (r0, M0) → W p l e (headSpec wsX4_image rmX4_image).room s m ([.ref (am 0), .int u1] : List Value).toArray below meth c H locs 0 0 (MQ below (QI G r0 (wMod G am M0) A) ([.ref (am 0), .int u1] : List Value).toArray s 0 0 A) (F0 m 14 ls []) := by
    intro n
    induction n with
    | zero => intro x1 x2 M H locs hP hD hS ls hl hrun; exact absurd (hrun : (none : Option (Int32 × Ob)) = some (r0, M0)) (fun h => by cases h)
    | succ n ih =>
      intro x1 x2 M H locs hP hD hS ls hl hrun
      rw [p_X4_image_14] at hrun
      refine lv_iload_n hx hb dX4_image_14 rfl (lv_at hl 2 rfl) ?_
      refine lv_sipush (v := nI 130) hx hb dX4_image_15 (by decide) ?_
      refine lv_icmp_ge (tgt := 45) hx hb dX4_image_18 (by decide) (fun c_5 => ?_) (fun c_5 => ?_)
      · replace hrun := it_pos c_5 hrun
        refine lv_aload_n hx hb dX4_image_45 rfl (lv_at hl 0 rfl) ?_
        refine va_get (D := G.1) (ci := 4) (v := .ref (am 3)) (C := RX4) (T := TX4) (N := 12) hx hb hts iwX4 hown hK hP 0 rfl rfl 2 (by decide) ha0 (fun _ h9 => h9) rfl dX4_image_46 ?_
        refine lv_iload_n hx hb dX4_image_49 rfl (lv_at hl 1 rfl) ?_
        refine lv_iconst (v := nI 1) hx hb dX4_image_50 (by decide) ?_
        obtain ⟨N_6, e_7, hrun⟩ := bd hrun
        replace e_7 := stO_spec e_7
        refine va_zast hx hb hK hP hD hS 3 1 rfl rfl e_7.1 dX4_image_51 (fun H locs hP hD hS => ?_)
        replace hP : va_P G.1 vwCl (wMod G am N_6) H := by rw [← e_7.2]; exact hP
        replace hD : va_D A (wMod G am N_6) := by rw [← e_7.2]; exact hD
        refine lv_iconst (v := nI 1) hx hb dX4_image_52 (by decide) ?_
        obtain ⟨hr1, hr2⟩ := si2 hrun
        exact W.iret (v := (nI 1)) hx hb hr (fun t ht hW => ⟨⟨(nI 1), (), rfl, hr1, by rw [ht, ← hr2]; exact hP, by rw [← hr2]; exact hD⟩, hS.F ht⟩) hS.2.2 dX4_image_53
      · replace hrun := it_neg c_5 hrun
        refine lv_aload_n hx hb dX4_image_21 rfl (lv_at hl 0 rfl) ?_
        refine va_get (D := G.1) (ci := 4) (v := .ref (am 2)) (C := RX4) (T := TX4) (N := 12) hx hb hts iwX4 hown hK hP 0 rfl rfl 1 (by decide) ha1 (fun _ h9 => h9) rfl dX4_image_22 ?_
        refine lv_sipush (v := nI 130) hx hb dX4_image_25 (by decide) ?_
        refine lv_iload_n hx hb dX4_image_28 rfl (lv_at hl 1 rfl) ?_
        refine lv_imul hx hb dX4_image_29 ?_
        refine lv_iload_n hx hb dX4_image_30 rfl (lv_at hl 2 rfl) ?_
        refine lv_iadd hx hb dX4_image_31 ?_
        refine lv_aload_n hx hb dX4_image_32 rfl (lv_at hl 0 rfl) ?_
        refine va_get (D := G.1) (ci := 4) (v := .ref (am 1)) (C := RX4) (T := TX4) (N := 12) hx hb hts iwX4 hown hK hP 0 rfl rfl 0 (by decide) ha2 (fun _ h9 => h9) rfl dX4_image_33 ?_
        refine lv_iload_n hx hb dX4_image_36 rfl (lv_at hl 2 rfl) ?_
        obtain ⟨v_8, e_9, hrun⟩ := bd hrun
        refine y_ald hx hb hK hP 1 0 rfl rfl e_9 dX4_image_37 ?_
        obtain ⟨N_10, e_11, hrun⟩ := bd hrun
        replace e_11 := stO_spec e_11
        refine va_iast hx hb hK hP hD hS 2 0 rfl rfl e_11.1 dX4_image_38 (fun H locs hP hD hS => ?_)
        replace hP : va_P G.1 vwCl (wMod G am N_10) H := by rw [← e_11.2]; exact hP
        replace hD : va_D A (wMod G am N_10) := by rw [← e_11.2]; exact hD
        refine lv_iinc (v := (x2 + nI 1)) (lv' := [(2, .int (x2 + nI 1)), (0, .ref (am 0)), (1, .int x1)]) hx hb dX4_image_39 hl (k := 2) rfl rfl (by decide) rfl (fun ls hl => ?_)
        refine lv_goto (tgt := 14) hx hb dX4_image_42 (by decide) ?_
        exact ih x1 (x2 + nI 1) N_10 _ _ hP hD hS ls (lv_sub hl [1, 2, 0] rfl) hrun
  have hl := lv_entry [.ref (am 0), .int u1] (n := 3) (Nat.le_of_ble_eq_true rfl)
  rw [lg_entry_eq]
  generalize (lg_sl [.ref (am 0), .int u1] ++ List.replicate (3 - (lg_sl [.ref (am 0), .int u1]).length) Slot.unset).toArray = ls at hl ⊢
  have hl : lv_has ls 3 [(0, .ref (am 0)), (1, .int u1)] := hl
  rw [p_X4_image] at hrun
  refine lv_iload_n hx hb dX4_image_0 rfl (lv_at hl 1 rfl) ?_
  refine lv_iconst (v := nI 0) hx hb dX4_image_1 (by decide) ?_
  refine lv_iconst (v := nI 1) hx hb dX4_image_2 (by decide) ?_
  obtain ⟨v_1, e_2, hrun⟩ := bd hrun
  refine y_roz (va_runS (As := [.int u1, .int (nI 0), .int (nI 1)]) (rest := []) ⟨hx, hb, hml, hown, hts⟩ (c_X4_in l G   u1 (nI 0) (nI 1) v_1 e_2) (cwS 3 hts gX4_image_X4_in rfl rfl rfl (by decide +kernel) ⟨Nat.le_of_ble_eq_true rfl, Nat.le_of_ble_eq_true rfl⟩) ⟨PreR.blind, y_preR hC (fun _ _ h => by cases h)⟩ rfl rfl hl.1 rfl (lv_room (Nat.le_of_ble_eq_true rfl)) dX4_image_3 ⟨Nat.zero_le _, Nat.zero_le _⟩) (fun z_3 => ?_)
  refine lv_if_ne (tgt := 12) hx hb dX4_image_6 (by decide) (fun c_4 => ?_) (fun c_4 => ?_)
  · replace hrun := it_neg c_4 hrun
    refine lv_iconst (v := nI 0) hx hb dX4_image_12 (by decide) ?_
    refine lv_istore_n (lv' := [(2, .int (nI 0)), (0, .ref (am 0)), (1, .int u1)]) hx hb dX4_image_13 rfl hl (by decide) rfl (fun ls hl => ?_)
    exact kH_14 200 u1 (nI 0) M _ _ hP hD hS ls (lv_sub hl [1, 2, 0] rfl) hrun
  · replace hrun := it_pos c_4 hrun
    refine lv_bipush (v := -2) hx hb dX4_image_9 (by decide) ?_
    obtain ⟨hr1, hr2⟩ := si2 hrun
    exact W.iret (v := (-2)) hx hb hr (fun t ht hW => ⟨⟨(-2), (), rfl, hr1, by rw [ht, ← hr2]; exact hP, by rw [← hr2]; exact hD⟩, hS.F ht⟩) hS.2.2 dX4_image_11
