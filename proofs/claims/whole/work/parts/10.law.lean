/-- what the law asks of say -/
def K_say (I : (Nat → Ob) → Ob → Prop) : Prop := ∀ (S : Nat → Ob) (M : Ob) (x1 : Int32), I S M → ∃ (r : Int32) (S1 : Nat → Ob) (M1 : Ob), p_X3_say x1 S = some (r, S1) ∧ p_X4_say x1 M = some (r, M1) ∧ I S1 M1
/-- what the law asks of wipe -/
def K_wipe (I : (Nat → Ob) → Ob → Prop) : Prop := ∀ (S : Nat → Ob) (M : Ob), I S M → ∃ (r : Int32) (S1 : Nat → Ob) (M1 : Ob), p_X3_wipe  S = some (r, S1) ∧ p_X4_wipe  M = some (r, M1) ∧ I S1 M1
/-- what the law asks of fault -/
def K_fault (I : (Nat → Ob) → Ob → Prop) : Prop := ∀ (S : Nat → Ob) (M : Ob), I S M → ∃ (r : Int32), p_X3_fault S  = some r ∧ p_X4_fault M  = some r ∧ I S M
/-- what the law asks of read -/
def K_read (I : (Nat → Ob) → Ob → Prop) : Prop := ∀ (S : Nat → Ob) (M : Ob), I S M → ∃ (r : Int32) (S1 : Nat → Ob) (M1 : Ob), p_X3_read  S = some (r, S1) ∧ p_X4_read  M = some (r, M1) ∧ I S1 M1
/-- what the law asks of rule -/
def K_rule (I : (Nat → Ob) → Ob → Prop) : Prop := ∀ (S : Nat → Ob) (M : Ob) (x1 : Int32) (x2 : Int32), I S M → ∃ (r : Int32) (S1 : Nat → Ob) (M1 : Ob), p_X3_rule x1 x2 S = some (r, S1) ∧ p_X4_rule x1 x2 M = some (r, M1) ∧ I S1 M1
/-- what the law asks of cut -/
def K_cut (I : (Nat → Ob) → Ob → Prop) : Prop := ∀ (S : Nat → Ob) (M : Ob) (x1 : Int32) (x2 : Int32), I S M → ∃ (r : Int32) (S1 : Nat → Ob) (M1 : Ob), p_X3_cut x1 x2 S = some (r, S1) ∧ p_X4_cut x1 x2 M = some (r, M1) ∧ I S1 M1
/-- what the law asks of line -/
def K_line (I : (Nat → Ob) → Ob → Prop) : Prop := ∀ (S : Nat → Ob) (M : Ob) (x1 : Int32) (x2 : Int32), I S M → ∃ (r : Int32) (M1 : Ob), p_X3_line S x1 x2 = some r ∧ p_X4_line x1 x2 M = some (r, M1) ∧ I S M1
/-- what the law asks of page -/
def K_page (I : (Nat → Ob) → Ob → Prop) : Prop := ∀ (S : Nat → Ob) (M : Ob) (x1 : Int32) (x2 : Int32), I S M → ∃ (r : Int32) (M1 : Ob), p_X3_page S x1 x2 = some r ∧ p_X4_page x1 x2 M = some (r, M1) ∧ I S M1
/-- what the law asks of mark -/
def K_mark (I : (Nat → Ob) → Ob → Prop) : Prop := ∀ (S : Nat → Ob) (M : Ob) (x1 : Int32) (x2 : Int32) (x3 : Int32), I S M → ∃ (r : Int32) (M1 : Ob), p_X3_mark S x1 x2 x3 = some r ∧ p_X4_mark x1 x2 x3 M = some (r, M1) ∧ I S M1
/-- what the law asks of headed -/
def K_headed (I : (Nat → Ob) → Ob → Prop) : Prop := ∀ (S : Nat → Ob) (M : Ob) (x1 : Int32) (x2 : Int32), I S M → ∃ (r : Int32) (M1 : Ob), p_X3_headed S x1 x2 = some r ∧ p_X4_headed x1 x2 M = some (r, M1) ∧ I S M1
/-- what the law asks of chapter -/
def K_chapter (I : (Nat → Ob) → Ob → Prop) : Prop := ∀ (S : Nat → Ob) (M : Ob) (x1 : Int32) (x2 : Int32), I S M → ∃ (r : Int32) (M1 : Ob), p_X3_chapter S x1 x2 = some r ∧ p_X4_chapter x1 x2 M = some (r, M1) ∧ I S M1
/-- what the law asks of changed -/
def K_changed (I : (Nat → Ob) → Ob → Prop) : Prop := ∀ (S : Nat → Ob) (M : Ob) (x1 : Int32), I S M → ∃ (r : Int32) (S1 : Nat → Ob) (M1 : Ob), p_X3_changed x1 S = some (r, S1) ∧ p_X4_changed x1 M = some (r, M1) ∧ I S1 M1
/-- what the law asks of worst -/
def K_worst (I : (Nat → Ob) → Ob → Prop) : Prop := ∀ (S : Nat → Ob) (M : Ob) (x1 : Int32), I S M → ∃ (r : Int32) (S1 : Nat → Ob) (M1 : Ob), p_X3_worst x1 S = some (r, S1) ∧ p_X4_worst x1 M = some (r, M1) ∧ I S1 M1
/-- what the law asks of fit -/
def K_fit (I : (Nat → Ob) → Ob → Prop) : Prop := ∀ (S : Nat → Ob) (M : Ob) (x1 : Int32), I S M → ∃ (r : Int32) (S1 : Nat → Ob) (M1 : Ob), p_X3_fit x1 S = some (r, S1) ∧ p_X4_fit x1 M = some (r, M1) ∧ I S1 M1
/-- what the law asks of image -/
def K_image (I : (Nat → Ob) → Ob → Prop) : Prop := ∀ (S : Nat → Ob) (M : Ob) (x1 : Int32), I S M → ∃ (r : Int32) (S1 : Nat → Ob) (M1 : Ob), p_X3_image x1 S = some (r, S1) ∧ p_X4_image x1 M = some (r, M1) ∧ I S1 M1
/-- what the law asks of restore -/
def K_restore (I : (Nat → Ob) → Ob → Prop) : Prop := ∀ (S : Nat → Ob) (M : Ob) (x1 : Int32), I S M → ∃ (r : Int32) (S1 : Nat → Ob) (M1 : Ob), p_X3_restore x1 S = some (r, S1) ∧ p_X4_restore x1 M = some (r, M1) ∧ I S1 M1
/-- what the law asks of count -/
def K_count (I : (Nat → Ob) → Ob → Prop) : Prop := ∀ (S : Nat → Ob) (M : Ob) (x1 : Int32), I S M → ∃ (r : Int32) (M1 : Ob), p_X3_count S x1 = some r ∧ p_X4_count x1 M = some (r, M1) ∧ I S M1
def LawOK (I : (Nat → Ob) → Ob → Prop) : Prop := I SZ MZ ∧ K_say I ∧ K_wipe I ∧ K_fault I ∧ K_read I ∧ K_rule I ∧ K_cut I ∧ K_line I ∧ K_page I ∧ K_mark I ∧ K_headed I ∧ K_chapter I ∧ K_changed I ∧ K_worst I ∧ K_fit I ∧ K_image I ∧ K_restore I ∧ K_count I
set_option maxHeartbeats 4000000 in
set_option maxRecDepth 100000 in
theorem law_say {p : Program} {l : Launch} {e : Env} {s : State} {m : MethodId} {below : List Frame} {meth : Method} {c : Code} {b L : Nat} {xs : Nat → Int32} {G : GT} {t : Nat → Nat} {I : (Nat → Ob) → Ob → Prop} {a : Nat → Nat → Nat} {am : Nat → Nat} (C0 : lw_At p s m meth c b L xs) (hC : Cx G s) (hT1 : T1 t (fun q : Nat => s.heap.size ≤ q) s s.heap) (hT2 : T2 t (fun q : Nat => s.heap.size ≤ q) s s.heap) (hOK : K_say I) (i : Nat) (x3 : Int32) (ex3 : x3 = nI i) (hi : i + 4 ≤ L) (hL : L ≤ 2048) (kT : ∀ (S : Nat → Ob) (M : Ob) (H : Heap) (locs : List Loc) (ls : Array Slot), I S M → va_P G.1 vwCl (wHM G a S ++ wMod G am M) H → va_D (fun q : Nat => s.heap.size ≤ q) (wHM G a S ++ wMod G am M) → va_S (fun q : Nat => s.heap.size ≤ q) s.heap H locs → lv_has ls 4 [(0, .ref b), (1, .ref (a 0 0)), (2, .ref (am 0)), (3, .int x3)] → W p l e room_1 s m #[Value.ref b] below meth c H locs 51 3269 (lw_Z below #[Value.ref b] s) (F0 m 557 ls [])) (S : Nat → Ob) (M : Ob) (H : Heap) (locs : List Loc) (ls : Array Slot) (hI : I S M) (hP : va_P G.1 vwCl (wHM G a S ++ wMod G am M) H) (hD : va_D (fun q : Nat => s.heap.size ≤ q) (wHM G a S ++ wMod G am M)) (hS : va_S (fun q : Nat => s.heap.size ≤ q) s.heap H locs) (hl : lv_has ls 4 [(0, .ref b), (1, .ref (a 0 0)), (2, .ref (am 0)), (3, .int x3)]) : W p l e room_1 s m #[Value.ref b] below meth c H locs 51 3269 (lw_Z below #[Value.ref b] s) (F0 m 116 ls []) := by
  obtain ⟨hx, hb, hr, hml, hown0, hts0, hX, hbl, hlocks, hgv⟩ := C0
  have hts : ∀ w ∈ wsL_law, w.before #[Value.ref b] s = true := fun w h => hts0 w (wsL_law_in w h)
  have hown : s.vm.findClass RL = some m.cls := hown0
  have hA : ∀ q : Nat, s.heap.size ≤ q → (fun q : Nat => s.heap.size ≤ q) q := fun _ h => h
  have hbA : ¬ (fun q : Nat => s.heap.size ≤ q) b := Nat.not_le.mpr hbl
  have hK := hC.1
  have hi1 : vp_in (x3 + 1) L := by rw [ex3, show nI i + 1 = nI (i + 1) from nI_add i 1]; exact vp_in_nI (by omega) (by omega)
  obtain ⟨r, S1, M1, hs, hm, hI1⟩ := hOK S M (xs (x3 + 1).toNatClampNeg) hI
  refine lv_aload_n hx hb dL_law_116 rfl (lv_at hl 1 rfl) ?_
  refine lv_aload_n hx hb dL_law_117 rfl (lv_at hl 0 rfl) ?_
  refine lv_iload_n hx hb dL_law_118 rfl (lv_at hl 3 rfl) ?_
  refine lv_iconst (v := 1) hx hb dL_law_119 (by decide) ?_
  refine lv_iadd hx hb dL_law_120 ?_
  refine va_sld hx hb hX hbl hbA hS hi1 dL_law_121 ?_
  refine y_rwi (va_runV (As := [.int (xs (x3 + 1).toNatClampNeg)]) (rest := []) ⟨hx, hb, hml, hown, hts⟩ (c_X3_say l G a S (xs (x3 + 1).toNatClampNeg) _ r S1 hs) (cwV 1 hts gL_law_X3_say rfl rfl rfl (by decide +kernel) ⟨Nat.le_of_ble_eq_true rfl, Nat.le_of_ble_eq_true rfl⟩) ⟨PreW.blind, va_recv hK (wl_P hP) (ci := 3) (q0 := 0) rfl rfl, y_preW hC (wl_P hP) (wl_D hD)⟩ rfl rfl hl.1 rfl (lv_room (Nat.le_of_ble_eq_true rfl)) dL_law_122 ⟨Nat.le_of_ble_eq_true rfl, Nat.le_of_ble_eq_true rfl⟩) hS (y_all (wl_D hD) hS hA) (fun H1 locs1 hP1 hD1 hk1 hS1 => ?_)
  replace hP := w_join_l hP hD hk1 (y_all (wl_D hD) hS hA) hP1 hD1
  replace hD := hP.2
  replace hP := hP.1
  replace hS := hS1
  clear hP1 hD1 hk1 hS1
  refine lv_aload_n hx hb dL_law_125 rfl (lv_at hl 2 rfl) ?_
  refine lv_aload_n hx hb dL_law_126 rfl (lv_at hl 0 rfl) ?_
  refine lv_iload_n hx hb dL_law_127 rfl (lv_at hl 3 rfl) ?_
  refine lv_iconst (v := 1) hx hb dL_law_128 (by decide) ?_
  refine lv_iadd hx hb dL_law_129 ?_
  refine va_sld hx hb hX hbl hbA hS hi1 dL_law_130 ?_
  refine y_rwi (va_runV (As := [.int (xs (x3 + 1).toNatClampNeg)]) (rest := [.int r]) ⟨hx, hb, hml, hown, hts⟩ (c_X4_say l G am M (xs (x3 + 1).toNatClampNeg) _ r M1 hm) (cwV 1 hts gL_law_X4_say rfl rfl rfl (by decide +kernel) ⟨Nat.le_of_ble_eq_true rfl, Nat.le_of_ble_eq_true rfl⟩) ⟨PreW.blind, va_recv hK (wr_P hP) (ci := 4) (q0 := 0) rfl rfl, y_preW hC (wr_P hP) (wr_D hD)⟩ rfl rfl hl.1 rfl (lv_room (Nat.le_of_ble_eq_true rfl)) dL_law_131 ⟨Nat.le_of_ble_eq_true rfl, Nat.le_of_ble_eq_true rfl⟩) hS (y_all (wr_D hD) hS hA) (fun H1 locs1 hP1 hD1 hk1 hS1 => ?_)
  replace hP := w_join_r hP hD hk1 (y_all (wr_D hD) hS hA) hP1 hD1
  replace hD := hP.2
  replace hP := hP.1
  replace hS := hS1
  clear hP1 hD1 hk1 hS1
  refine lv_icmp_eq (tgt := 557) hx hb dL_law_134 (by decide) (fun _ => ?_) (fun c9 => absurd rfl c9)
  exact kT _ _ _ _ ls hI1 hP hD hS hl
set_option maxHeartbeats 4000000 in
set_option maxRecDepth 100000 in
theorem law_wipe {p : Program} {l : Launch} {e : Env} {s : State} {m : MethodId} {below : List Frame} {meth : Method} {c : Code} {b L : Nat} {xs : Nat → Int32} {G : GT} {t : Nat → Nat} {I : (Nat → Ob) → Ob → Prop} {a : Nat → Nat → Nat} {am : Nat → Nat} (C0 : lw_At p s m meth c b L xs) (hC : Cx G s) (hT1 : T1 t (fun q : Nat => s.heap.size ≤ q) s s.heap) (hT2 : T2 t (fun q : Nat => s.heap.size ≤ q) s s.heap) (hOK : K_wipe I) (i : Nat) (x3 : Int32) (ex3 : x3 = nI i) (hi : i + 4 ≤ L) (hL : L ≤ 2048) (kT : ∀ (S : Nat → Ob) (M : Ob) (H : Heap) (locs : List Loc) (ls : Array Slot), I S M → va_P G.1 vwCl (wHM G a S ++ wMod G am M) H → va_D (fun q : Nat => s.heap.size ≤ q) (wHM G a S ++ wMod G am M) → va_S (fun q : Nat => s.heap.size ≤ q) s.heap H locs → lv_has ls 4 [(0, .ref b), (1, .ref (a 0 0)), (2, .ref (am 0)), (3, .int x3)] → W p l e room_1 s m #[Value.ref b] below meth c H locs 51 3269 (lw_Z below #[Value.ref b] s) (F0 m 557 ls [])) (S : Nat → Ob) (M : Ob) (H : Heap) (locs : List Loc) (ls : Array Slot) (hI : I S M) (hP : va_P G.1 vwCl (wHM G a S ++ wMod G am M) H) (hD : va_D (fun q : Nat => s.heap.size ≤ q) (wHM G a S ++ wMod G am M)) (hS : va_S (fun q : Nat => s.heap.size ≤ q) s.heap H locs) (hl : lv_has ls 4 [(0, .ref b), (1, .ref (a 0 0)), (2, .ref (am 0)), (3, .int x3)]) : W p l e room_1 s m #[Value.ref b] below meth c H locs 51 3269 (lw_Z below #[Value.ref b] s) (F0 m 139 ls []) := by
  obtain ⟨hx, hb, hr, hml, hown0, hts0, hX, hbl, hlocks, hgv⟩ := C0
  have hts : ∀ w ∈ wsL_law, w.before #[Value.ref b] s = true := fun w h => hts0 w (wsL_law_in w h)
  have hown : s.vm.findClass RL = some m.cls := hown0
  have hA : ∀ q : Nat, s.heap.size ≤ q → (fun q : Nat => s.heap.size ≤ q) q := fun _ h => h
  have hbA : ¬ (fun q : Nat => s.heap.size ≤ q) b := Nat.not_le.mpr hbl
  have hK := hC.1
  obtain ⟨r, S1, M1, hs, hm, hI1⟩ := hOK S M  hI
  refine lv_aload_n hx hb dL_law_139 rfl (lv_at hl 1 rfl) ?_
  refine y_rwi (va_runV (As := []) (rest := []) ⟨hx, hb, hml, hown, hts⟩ (c_X3_wipe l G a S  _ r S1 hs) (cwV 0 hts gL_law_X3_wipe rfl rfl rfl (by decide +kernel) ⟨Nat.le_of_ble_eq_true rfl, Nat.le_of_ble_eq_true rfl⟩) ⟨PreW.blind, va_recv hK (wl_P hP) (ci := 3) (q0 := 0) rfl rfl, y_preW hC (wl_P hP) (wl_D hD)⟩ rfl rfl hl.1 rfl (lv_room (Nat.le_of_ble_eq_true rfl)) dL_law_140 ⟨Nat.le_of_ble_eq_true rfl, Nat.le_of_ble_eq_true rfl⟩) hS (y_all (wl_D hD) hS hA) (fun H1 locs1 hP1 hD1 hk1 hS1 => ?_)
  replace hP := w_join_l hP hD hk1 (y_all (wl_D hD) hS hA) hP1 hD1
  replace hD := hP.2
  replace hP := hP.1
  replace hS := hS1
  clear hP1 hD1 hk1 hS1
  refine lv_aload_n hx hb dL_law_143 rfl (lv_at hl 2 rfl) ?_
  refine y_rwi (va_runV (As := []) (rest := [.int r]) ⟨hx, hb, hml, hown, hts⟩ (c_X4_wipe l G am M  _ r M1 hm) (cwV 0 hts gL_law_X4_wipe rfl rfl rfl (by decide +kernel) ⟨Nat.le_of_ble_eq_true rfl, Nat.le_of_ble_eq_true rfl⟩) ⟨PreW.blind, va_recv hK (wr_P hP) (ci := 4) (q0 := 0) rfl rfl, y_preW hC (wr_P hP) (wr_D hD)⟩ rfl rfl hl.1 rfl (lv_room (Nat.le_of_ble_eq_true rfl)) dL_law_144 ⟨Nat.le_of_ble_eq_true rfl, Nat.le_of_ble_eq_true rfl⟩) hS (y_all (wr_D hD) hS hA) (fun H1 locs1 hP1 hD1 hk1 hS1 => ?_)
  replace hP := w_join_r hP hD hk1 (y_all (wr_D hD) hS hA) hP1 hD1
  replace hD := hP.2
  replace hP := hP.1
  replace hS := hS1
  clear hP1 hD1 hk1 hS1
  refine lv_icmp_eq (tgt := 557) hx hb dL_law_147 (by decide) (fun _ => ?_) (fun c9 => absurd rfl c9)
  exact kT _ _ _ _ ls hI1 hP hD hS hl
set_option maxHeartbeats 4000000 in
set_option maxRecDepth 100000 in
theorem law_fault {p : Program} {l : Launch} {e : Env} {s : State} {m : MethodId} {below : List Frame} {meth : Method} {c : Code} {b L : Nat} {xs : Nat → Int32} {G : GT} {t : Nat → Nat} {I : (Nat → Ob) → Ob → Prop} {a : Nat → Nat → Nat} {am : Nat → Nat} (C0 : lw_At p s m meth c b L xs) (hC : Cx G s) (hT1 : T1 t (fun q : Nat => s.heap.size ≤ q) s s.heap) (hT2 : T2 t (fun q : Nat => s.heap.size ≤ q) s s.heap) (hOK : K_fault I) (i : Nat) (x3 : Int32) (ex3 : x3 = nI i) (hi : i + 4 ≤ L) (hL : L ≤ 2048) (kT : ∀ (S : Nat → Ob) (M : Ob) (H : Heap) (locs : List Loc) (ls : Array Slot), I S M → va_P G.1 vwCl (wHM G a S ++ wMod G am M) H → va_D (fun q : Nat => s.heap.size ≤ q) (wHM G a S ++ wMod G am M) → va_S (fun q : Nat => s.heap.size ≤ q) s.heap H locs → lv_has ls 4 [(0, .ref b), (1, .ref (a 0 0)), (2, .ref (am 0)), (3, .int x3)] → W p l e room_1 s m #[Value.ref b] below meth c H locs 51 3269 (lw_Z below #[Value.ref b] s) (F0 m 557 ls [])) (S : Nat → Ob) (M : Ob) (H : Heap) (locs : List Loc) (ls : Array Slot) (hI : I S M) (hP : va_P G.1 vwCl (wHM G a S ++ wMod G am M) H) (hD : va_D (fun q : Nat => s.heap.size ≤ q) (wHM G a S ++ wMod G am M)) (hS : va_S (fun q : Nat => s.heap.size ≤ q) s.heap H locs) (hl : lv_has ls 4 [(0, .ref b), (1, .ref (a 0 0)), (2, .ref (am 0)), (3, .int x3)]) : W p l e room_1 s m #[Value.ref b] below meth c H locs 51 3269 (lw_Z below #[Value.ref b] s) (F0 m 152 ls []) := by
  obtain ⟨hx, hb, hr, hml, hown0, hts0, hX, hbl, hlocks, hgv⟩ := C0
  have hts : ∀ w ∈ wsL_law, w.before #[Value.ref b] s = true := fun w h => hts0 w (wsL_law_in w h)
  have hown : s.vm.findClass RL = some m.cls := hown0
  have hA : ∀ q : Nat, s.heap.size ≤ q → (fun q : Nat => s.heap.size ≤ q) q := fun _ h => h
  have hbA : ¬ (fun q : Nat => s.heap.size ≤ q) b := Nat.not_le.mpr hbl
  have hK := hC.1
  obtain ⟨r, hs, hm, hI1⟩ := hOK S M  hI
  refine lv_aload_n hx hb dL_law_152 rfl (lv_at hl 1 rfl) ?_
  refine y_ro (va_runV (As := []) (rest := []) ⟨hx, hb, hml, hown, hts⟩ (c_X3_fault l G a S  r hs) (cwV 0 hts gL_law_X3_fault rfl rfl rfl (by decide +kernel) ⟨Nat.le_of_ble_eq_true rfl, Nat.le_of_ble_eq_true rfl⟩) ⟨PreR.blind, va_recv hK (wl_P hP) (ci := 3) (q0 := 0) rfl rfl, y_preR hC (wl_P hP)⟩ rfl rfl hl.1 rfl (lv_room (Nat.le_of_ble_eq_true rfl)) dL_law_153 ⟨Nat.le_of_ble_eq_true rfl, Nat.le_of_ble_eq_true rfl⟩) ?_
  refine lv_aload_n hx hb dL_law_156 rfl (lv_at hl 2 rfl) ?_
  refine y_ro (va_runV (As := []) (rest := [.int r]) ⟨hx, hb, hml, hown, hts⟩ (c_X4_fault l G am M  r hm) (cwV 0 hts gL_law_X4_fault rfl rfl rfl (by decide +kernel) ⟨Nat.le_of_ble_eq_true rfl, Nat.le_of_ble_eq_true rfl⟩) ⟨PreR.blind, va_recv hK (wr_P hP) (ci := 4) (q0 := 0) rfl rfl, y_preR hC (wr_P hP)⟩ rfl rfl hl.1 rfl (lv_room (Nat.le_of_ble_eq_true rfl)) dL_law_157 ⟨Nat.le_of_ble_eq_true rfl, Nat.le_of_ble_eq_true rfl⟩) ?_
  refine lv_icmp_eq (tgt := 557) hx hb dL_law_160 (by decide) (fun _ => ?_) (fun c9 => absurd rfl c9)
  exact kT _ _ _ _ ls hI1 hP hD hS hl
set_option maxHeartbeats 4000000 in
set_option maxRecDepth 100000 in
theorem law_read {p : Program} {l : Launch} {e : Env} {s : State} {m : MethodId} {below : List Frame} {meth : Method} {c : Code} {b L : Nat} {xs : Nat → Int32} {G : GT} {t : Nat → Nat} {I : (Nat → Ob) → Ob → Prop} {a : Nat → Nat → Nat} {am : Nat → Nat} (C0 : lw_At p s m meth c b L xs) (hC : Cx G s) (hT1 : T1 t (fun q : Nat => s.heap.size ≤ q) s s.heap) (hT2 : T2 t (fun q : Nat => s.heap.size ≤ q) s s.heap) (hOK : K_read I) (i : Nat) (x3 : Int32) (ex3 : x3 = nI i) (hi : i + 4 ≤ L) (hL : L ≤ 2048) (kT : ∀ (S : Nat → Ob) (M : Ob) (H : Heap) (locs : List Loc) (ls : Array Slot), I S M → va_P G.1 vwCl (wHM G a S ++ wMod G am M) H → va_D (fun q : Nat => s.heap.size ≤ q) (wHM G a S ++ wMod G am M) → va_S (fun q : Nat => s.heap.size ≤ q) s.heap H locs → lv_has ls 4 [(0, .ref b), (1, .ref (a 0 0)), (2, .ref (am 0)), (3, .int x3)] → W p l e room_1 s m #[Value.ref b] below meth c H locs 51 3269 (lw_Z below #[Value.ref b] s) (F0 m 557 ls [])) (S : Nat → Ob) (M : Ob) (H : Heap) (locs : List Loc) (ls : Array Slot) (hI : I S M) (hP : va_P G.1 vwCl (wHM G a S ++ wMod G am M) H) (hD : va_D (fun q : Nat => s.heap.size ≤ q) (wHM G a S ++ wMod G am M)) (hS : va_S (fun q : Nat => s.heap.size ≤ q) s.heap H locs) (hl : lv_has ls 4 [(0, .ref b), (1, .ref (a 0 0)), (2, .ref (am 0)), (3, .int x3)]) : W p l e room_1 s m #[Value.ref b] below meth c H locs 51 3269 (lw_Z below #[Value.ref b] s) (F0 m 165 ls []) := by
  obtain ⟨hx, hb, hr, hml, hown0, hts0, hX, hbl, hlocks, hgv⟩ := C0
  have hts : ∀ w ∈ wsL_law, w.before #[Value.ref b] s = true := fun w h => hts0 w (wsL_law_in w h)
  have hown : s.vm.findClass RL = some m.cls := hown0
  have hA : ∀ q : Nat, s.heap.size ≤ q → (fun q : Nat => s.heap.size ≤ q) q := fun _ h => h
  have hbA : ¬ (fun q : Nat => s.heap.size ≤ q) b := Nat.not_le.mpr hbl
  have hK := hC.1
  obtain ⟨r, S1, M1, hs, hm, hI1⟩ := hOK S M  hI
  refine lv_aload_n hx hb dL_law_165 rfl (lv_at hl 1 rfl) ?_
  refine y_rwi (va_runV (As := []) (rest := []) ⟨hx, hb, hml, hown, hts⟩ (c_X3_read l G a S  _ r S1 hs) (cwV 0 hts gL_law_X3_read rfl rfl rfl (by decide +kernel) ⟨Nat.le_of_ble_eq_true rfl, Nat.le_of_ble_eq_true rfl⟩) ⟨PreW.blind, va_recv hK (wl_P hP) (ci := 3) (q0 := 0) rfl rfl, y_preW hC (wl_P hP) (wl_D hD)⟩ rfl rfl hl.1 rfl (lv_room (Nat.le_of_ble_eq_true rfl)) dL_law_166 ⟨Nat.le_of_ble_eq_true rfl, Nat.le_of_ble_eq_true rfl⟩) hS (y_all (wl_D hD) hS hA) (fun H1 locs1 hP1 hD1 hk1 hS1 => ?_)
  replace hP := w_join_l hP hD hk1 (y_all (wl_D hD) hS hA) hP1 hD1
  replace hD := hP.2
  replace hP := hP.1
  replace hS := hS1
  clear hP1 hD1 hk1 hS1
  refine lv_aload_n hx hb dL_law_169 rfl (lv_at hl 2 rfl) ?_
  refine y_rwi (va_runV (As := []) (rest := [.int r]) ⟨hx, hb, hml, hown, hts⟩ (c_X4_read l G am M  _ r M1 hm) (cwV 0 hts gL_law_X4_read rfl rfl rfl (by decide +kernel) ⟨Nat.le_of_ble_eq_true rfl, Nat.le_of_ble_eq_true rfl⟩) ⟨PreW.blind, va_recv hK (wr_P hP) (ci := 4) (q0 := 0) rfl rfl, y_preW hC (wr_P hP) (wr_D hD)⟩ rfl rfl hl.1 rfl (lv_room (Nat.le_of_ble_eq_true rfl)) dL_law_170 ⟨Nat.le_of_ble_eq_true rfl, Nat.le_of_ble_eq_true rfl⟩) hS (y_all (wr_D hD) hS hA) (fun H1 locs1 hP1 hD1 hk1 hS1 => ?_)
  replace hP := w_join_r hP hD hk1 (y_all (wr_D hD) hS hA) hP1 hD1
  replace hD := hP.2
  replace hP := hP.1
  replace hS := hS1
  clear hP1 hD1 hk1 hS1
  refine lv_icmp_eq (tgt := 557) hx hb dL_law_173 (by decide) (fun _ => ?_) (fun c9 => absurd rfl c9)
  exact kT _ _ _ _ ls hI1 hP hD hS hl
set_option maxHeartbeats 4000000 in
set_option maxRecDepth 100000 in
theorem law_rule {p : Program} {l : Launch} {e : Env} {s : State} {m : MethodId} {below : List Frame} {meth : Method} {c : Code} {b L : Nat} {xs : Nat → Int32} {G : GT} {t : Nat → Nat} {I : (Nat → Ob) → Ob → Prop} {a : Nat → Nat → Nat} {am : Nat → Nat} (C0 : lw_At p s m meth c b L xs) (hC : Cx G s) (hT1 : T1 t (fun q : Nat => s.heap.size ≤ q) s s.heap) (hT2 : T2 t (fun q : Nat => s.heap.size ≤ q) s s.heap) (hOK : K_rule I) (i : Nat) (x3 : Int32) (ex3 : x3 = nI i) (hi : i + 4 ≤ L) (hL : L ≤ 2048) (kT : ∀ (S : Nat → Ob) (M : Ob) (H : Heap) (locs : List Loc) (ls : Array Slot), I S M → va_P G.1 vwCl (wHM G a S ++ wMod G am M) H → va_D (fun q : Nat => s.heap.size ≤ q) (wHM G a S ++ wMod G am M) → va_S (fun q : Nat => s.heap.size ≤ q) s.heap H locs → lv_has ls 4 [(0, .ref b), (1, .ref (a 0 0)), (2, .ref (am 0)), (3, .int x3)] → W p l e room_1 s m #[Value.ref b] below meth c H locs 51 3269 (lw_Z below #[Value.ref b] s) (F0 m 557 ls [])) (S : Nat → Ob) (M : Ob) (H : Heap) (locs : List Loc) (ls : Array Slot) (hI : I S M) (hP : va_P G.1 vwCl (wHM G a S ++ wMod G am M) H) (hD : va_D (fun q : Nat => s.heap.size ≤ q) (wHM G a S ++ wMod G am M)) (hS : va_S (fun q : Nat => s.heap.size ≤ q) s.heap H locs) (hl : lv_has ls 4 [(0, .ref b), (1, .ref (a 0 0)), (2, .ref (am 0)), (3, .int x3)]) : W p l e room_1 s m #[Value.ref b] below meth c H locs 51 3269 (lw_Z below #[Value.ref b] s) (F0 m 178 ls []) := by
  obtain ⟨hx, hb, hr, hml, hown0, hts0, hX, hbl, hlocks, hgv⟩ := C0
  have hts : ∀ w ∈ wsL_law, w.before #[Value.ref b] s = true := fun w h => hts0 w (wsL_law_in w h)
  have hown : s.vm.findClass RL = some m.cls := hown0
  have hA : ∀ q : Nat, s.heap.size ≤ q → (fun q : Nat => s.heap.size ≤ q) q := fun _ h => h
  have hbA : ¬ (fun q : Nat => s.heap.size ≤ q) b := Nat.not_le.mpr hbl
  have hK := hC.1
  have hi1 : vp_in (x3 + 1) L := by rw [ex3, show nI i + 1 = nI (i + 1) from nI_add i 1]; exact vp_in_nI (by omega) (by omega)
  have hi2 : vp_in (x3 + 2) L := by rw [ex3, show nI i + 2 = nI (i + 2) from nI_add i 2]; exact vp_in_nI (by omega) (by omega)
  obtain ⟨r, S1, M1, hs, hm, hI1⟩ := hOK S M (xs (x3 + 1).toNatClampNeg) (xs (x3 + 2).toNatClampNeg) hI
  refine lv_aload_n hx hb dL_law_178 rfl (lv_at hl 1 rfl) ?_
  refine lv_aload_n hx hb dL_law_179 rfl (lv_at hl 0 rfl) ?_
  refine lv_iload_n hx hb dL_law_180 rfl (lv_at hl 3 rfl) ?_
  refine lv_iconst (v := 1) hx hb dL_law_181 (by decide) ?_
  refine lv_iadd hx hb dL_law_182 ?_
  refine va_sld hx hb hX hbl hbA hS hi1 dL_law_183 ?_
  refine lv_aload_n hx hb dL_law_184 rfl (lv_at hl 0 rfl) ?_
  refine lv_iload_n hx hb dL_law_185 rfl (lv_at hl 3 rfl) ?_
  refine lv_iconst (v := 2) hx hb dL_law_186 (by decide) ?_
  refine lv_iadd hx hb dL_law_187 ?_
  refine va_sld hx hb hX hbl hbA hS hi2 dL_law_188 ?_
  refine y_rwi (va_runV (As := [.int (xs (x3 + 1).toNatClampNeg), .int (xs (x3 + 2).toNatClampNeg)]) (rest := []) ⟨hx, hb, hml, hown, hts⟩ (c_X3_rule l G t a S (xs (x3 + 1).toNatClampNeg) (xs (x3 + 2).toNatClampNeg) _ r S1 hs) (cwV 2 hts gL_law_X3_rule rfl rfl rfl (by decide +kernel) ⟨Nat.le_of_ble_eq_true rfl, Nat.le_of_ble_eq_true rfl⟩) ⟨PreU.blind, va_recv hK (wl_P hP) (ci := 3) (q0 := 0) rfl rfl, y_preU hC hT1 hT2 hS (y_all (wl_D hD) hS hA) (wl_P hP) (wl_D hD)⟩ rfl rfl hl.1 rfl (lv_room (Nat.le_of_ble_eq_true rfl)) dL_law_189 ⟨Nat.le_of_ble_eq_true rfl, Nat.le_of_ble_eq_true rfl⟩) hS (y_all (wl_D hD) hS hA) (fun H1 locs1 hP1 hD1 hk1 hS1 => ?_)
  replace hP := w_join_l hP hD hk1 (y_all (wl_D hD) hS hA) hP1 hD1
  replace hD := hP.2
  replace hP := hP.1
  replace hS := hS1
  clear hP1 hD1 hk1 hS1
  refine lv_aload_n hx hb dL_law_192 rfl (lv_at hl 2 rfl) ?_
  refine lv_aload_n hx hb dL_law_193 rfl (lv_at hl 0 rfl) ?_
  refine lv_iload_n hx hb dL_law_194 rfl (lv_at hl 3 rfl) ?_
  refine lv_iconst (v := 1) hx hb dL_law_195 (by decide) ?_
  refine lv_iadd hx hb dL_law_196 ?_
  refine va_sld hx hb hX hbl hbA hS hi1 dL_law_197 ?_
  refine lv_aload_n hx hb dL_law_198 rfl (lv_at hl 0 rfl) ?_
  refine lv_iload_n hx hb dL_law_199 rfl (lv_at hl 3 rfl) ?_
  refine lv_iconst (v := 2) hx hb dL_law_200 (by decide) ?_
  refine lv_iadd hx hb dL_law_201 ?_
  refine va_sld hx hb hX hbl hbA hS hi2 dL_law_202 ?_
  refine y_rwi (va_runV (As := [.int (xs (x3 + 1).toNatClampNeg), .int (xs (x3 + 2).toNatClampNeg)]) (rest := [.int r]) ⟨hx, hb, hml, hown, hts⟩ (c_X4_rule l G am M (xs (x3 + 1).toNatClampNeg) (xs (x3 + 2).toNatClampNeg) _ r M1 hm) (cwV 2 hts gL_law_X4_rule rfl rfl rfl (by decide +kernel) ⟨Nat.le_of_ble_eq_true rfl, Nat.le_of_ble_eq_true rfl⟩) ⟨PreW.blind, va_recv hK (wr_P hP) (ci := 4) (q0 := 0) rfl rfl, y_preW hC (wr_P hP) (wr_D hD)⟩ rfl rfl hl.1 rfl (lv_room (Nat.le_of_ble_eq_true rfl)) dL_law_203 ⟨Nat.le_of_ble_eq_true rfl, Nat.le_of_ble_eq_true rfl⟩) hS (y_all (wr_D hD) hS hA) (fun H1 locs1 hP1 hD1 hk1 hS1 => ?_)
  replace hP := w_join_r hP hD hk1 (y_all (wr_D hD) hS hA) hP1 hD1
  replace hD := hP.2
  replace hP := hP.1
  replace hS := hS1
  clear hP1 hD1 hk1 hS1
  refine lv_icmp_eq (tgt := 557) hx hb dL_law_206 (by decide) (fun _ => ?_) (fun c9 => absurd rfl c9)
  exact kT _ _ _ _ ls hI1 hP hD hS hl
set_option maxHeartbeats 4000000 in
set_option maxRecDepth 100000 in
theorem law_cut {p : Program} {l : Launch} {e : Env} {s : State} {m : MethodId} {below : List Frame} {meth : Method} {c : Code} {b L : Nat} {xs : Nat → Int32} {G : GT} {t : Nat → Nat} {I : (Nat → Ob) → Ob → Prop} {a : Nat → Nat → Nat} {am : Nat → Nat} (C0 : lw_At p s m meth c b L xs) (hC : Cx G s) (hT1 : T1 t (fun q : Nat => s.heap.size ≤ q) s s.heap) (hT2 : T2 t (fun q : Nat => s.heap.size ≤ q) s s.heap) (hOK : K_cut I) (i : Nat) (x3 : Int32) (ex3 : x3 = nI i) (hi : i + 4 ≤ L) (hL : L ≤ 2048) (kT : ∀ (S : Nat → Ob) (M : Ob) (H : Heap) (locs : List Loc) (ls : Array Slot), I S M → va_P G.1 vwCl (wHM G a S ++ wMod G am M) H → va_D (fun q : Nat => s.heap.size ≤ q) (wHM G a S ++ wMod G am M) → va_S (fun q : Nat => s.heap.size ≤ q) s.heap H locs → lv_has ls 4 [(0, .ref b), (1, .ref (a 0 0)), (2, .ref (am 0)), (3, .int x3)] → W p l e room_1 s m #[Value.ref b] below meth c H locs 51 3269 (lw_Z below #[Value.ref b] s) (F0 m 557 ls [])) (S : Nat → Ob) (M : Ob) (H : Heap) (locs : List Loc) (ls : Array Slot) (hI : I S M) (hP : va_P G.1 vwCl (wHM G a S ++ wMod G am M) H) (hD : va_D (fun q : Nat => s.heap.size ≤ q) (wHM G a S ++ wMod G am M)) (hS : va_S (fun q : Nat => s.heap.size ≤ q) s.heap H locs) (hl : lv_has ls 4 [(0, .ref b), (1, .ref (a 0 0)), (2, .ref (am 0)), (3, .int x3)]) : W p l e room_1 s m #[Value.ref b] below meth c H locs 51 3269 (lw_Z below #[Value.ref b] s) (F0 m 211 ls []) := by
  obtain ⟨hx, hb, hr, hml, hown0, hts0, hX, hbl, hlocks, hgv⟩ := C0
  have hts : ∀ w ∈ wsL_law, w.before #[Value.ref b] s = true := fun w h => hts0 w (wsL_law_in w h)
  have hown : s.vm.findClass RL = some m.cls := hown0
  have hA : ∀ q : Nat, s.heap.size ≤ q → (fun q : Nat => s.heap.size ≤ q) q := fun _ h => h
  have hbA : ¬ (fun q : Nat => s.heap.size ≤ q) b := Nat.not_le.mpr hbl
  have hK := hC.1
  have hi1 : vp_in (x3 + 1) L := by rw [ex3, show nI i + 1 = nI (i + 1) from nI_add i 1]; exact vp_in_nI (by omega) (by omega)
  have hi2 : vp_in (x3 + 2) L := by rw [ex3, show nI i + 2 = nI (i + 2) from nI_add i 2]; exact vp_in_nI (by omega) (by omega)
  obtain ⟨r, S1, M1, hs, hm, hI1⟩ := hOK S M (xs (x3 + 1).toNatClampNeg) (xs (x3 + 2).toNatClampNeg) hI
  refine lv_aload_n hx hb dL_law_211 rfl (lv_at hl 1 rfl) ?_
  refine lv_aload_n hx hb dL_law_212 rfl (lv_at hl 0 rfl) ?_
  refine lv_iload_n hx hb dL_law_213 rfl (lv_at hl 3 rfl) ?_
  refine lv_iconst (v := 1) hx hb dL_law_214 (by decide) ?_
  refine lv_iadd hx hb dL_law_215 ?_
  refine va_sld hx hb hX hbl hbA hS hi1 dL_law_216 ?_
  refine lv_aload_n hx hb dL_law_217 rfl (lv_at hl 0 rfl) ?_
  refine lv_iload_n hx hb dL_law_218 rfl (lv_at hl 3 rfl) ?_
  refine lv_iconst (v := 2) hx hb dL_law_219 (by decide) ?_
  refine lv_iadd hx hb dL_law_220 ?_
  refine va_sld hx hb hX hbl hbA hS hi2 dL_law_221 ?_
  refine y_rwi (va_runV (As := [.int (xs (x3 + 1).toNatClampNeg), .int (xs (x3 + 2).toNatClampNeg)]) (rest := []) ⟨hx, hb, hml, hown, hts⟩ (c_X3_cut l G a S (xs (x3 + 1).toNatClampNeg) (xs (x3 + 2).toNatClampNeg) _ r S1 hs) (cwV 2 hts gL_law_X3_cut rfl rfl rfl (by decide +kernel) ⟨Nat.le_of_ble_eq_true rfl, Nat.le_of_ble_eq_true rfl⟩) ⟨PreW.blind, va_recv hK (wl_P hP) (ci := 3) (q0 := 0) rfl rfl, y_preW hC (wl_P hP) (wl_D hD)⟩ rfl rfl hl.1 rfl (lv_room (Nat.le_of_ble_eq_true rfl)) dL_law_222 ⟨Nat.le_of_ble_eq_true rfl, Nat.le_of_ble_eq_true rfl⟩) hS (y_all (wl_D hD) hS hA) (fun H1 locs1 hP1 hD1 hk1 hS1 => ?_)
  replace hP := w_join_l hP hD hk1 (y_all (wl_D hD) hS hA) hP1 hD1
  replace hD := hP.2
  replace hP := hP.1
  replace hS := hS1
  clear hP1 hD1 hk1 hS1
  refine lv_aload_n hx hb dL_law_225 rfl (lv_at hl 2 rfl) ?_
  refine lv_aload_n hx hb dL_law_226 rfl (lv_at hl 0 rfl) ?_
  refine lv_iload_n hx hb dL_law_227 rfl (lv_at hl 3 rfl) ?_
  refine lv_iconst (v := 1) hx hb dL_law_228 (by decide) ?_
  refine lv_iadd hx hb dL_law_229 ?_
  refine va_sld hx hb hX hbl hbA hS hi1 dL_law_230 ?_
  refine lv_aload_n hx hb dL_law_231 rfl (lv_at hl 0 rfl) ?_
  refine lv_iload_n hx hb dL_law_232 rfl (lv_at hl 3 rfl) ?_
  refine lv_iconst (v := 2) hx hb dL_law_233 (by decide) ?_
  refine lv_iadd hx hb dL_law_234 ?_
  refine va_sld hx hb hX hbl hbA hS hi2 dL_law_235 ?_
  refine y_rwi (va_runV (As := [.int (xs (x3 + 1).toNatClampNeg), .int (xs (x3 + 2).toNatClampNeg)]) (rest := [.int r]) ⟨hx, hb, hml, hown, hts⟩ (c_X4_cut l G am M (xs (x3 + 1).toNatClampNeg) (xs (x3 + 2).toNatClampNeg) _ r M1 hm) (cwV 2 hts gL_law_X4_cut rfl rfl rfl (by decide +kernel) ⟨Nat.le_of_ble_eq_true rfl, Nat.le_of_ble_eq_true rfl⟩) ⟨PreW.blind, va_recv hK (wr_P hP) (ci := 4) (q0 := 0) rfl rfl, y_preW hC (wr_P hP) (wr_D hD)⟩ rfl rfl hl.1 rfl (lv_room (Nat.le_of_ble_eq_true rfl)) dL_law_236 ⟨Nat.le_of_ble_eq_true rfl, Nat.le_of_ble_eq_true rfl⟩) hS (y_all (wr_D hD) hS hA) (fun H1 locs1 hP1 hD1 hk1 hS1 => ?_)
  replace hP := w_join_r hP hD hk1 (y_all (wr_D hD) hS hA) hP1 hD1
  replace hD := hP.2
  replace hP := hP.1
  replace hS := hS1
  clear hP1 hD1 hk1 hS1
  refine lv_icmp_eq (tgt := 557) hx hb dL_law_239 (by decide) (fun _ => ?_) (fun c9 => absurd rfl c9)
  exact kT _ _ _ _ ls hI1 hP hD hS hl
set_option maxHeartbeats 4000000 in
set_option maxRecDepth 100000 in
theorem law_line {p : Program} {l : Launch} {e : Env} {s : State} {m : MethodId} {below : List Frame} {meth : Method} {c : Code} {b L : Nat} {xs : Nat → Int32} {G : GT} {t : Nat → Nat} {I : (Nat → Ob) → Ob → Prop} {a : Nat → Nat → Nat} {am : Nat → Nat} (C0 : lw_At p s m meth c b L xs) (hC : Cx G s) (hT1 : T1 t (fun q : Nat => s.heap.size ≤ q) s s.heap) (hT2 : T2 t (fun q : Nat => s.heap.size ≤ q) s s.heap) (hOK : K_line I) (i : Nat) (x3 : Int32) (ex3 : x3 = nI i) (hi : i + 4 ≤ L) (hL : L ≤ 2048) (kT : ∀ (S : Nat → Ob) (M : Ob) (H : Heap) (locs : List Loc) (ls : Array Slot), I S M → va_P G.1 vwCl (wHM G a S ++ wMod G am M) H → va_D (fun q : Nat => s.heap.size ≤ q) (wHM G a S ++ wMod G am M) → va_S (fun q : Nat => s.heap.size ≤ q) s.heap H locs → lv_has ls 4 [(0, .ref b), (1, .ref (a 0 0)), (2, .ref (am 0)), (3, .int x3)] → W p l e room_1 s m #[Value.ref b] below meth c H locs 51 3269 (lw_Z below #[Value.ref b] s) (F0 m 557 ls [])) (S : Nat → Ob) (M : Ob) (H : Heap) (locs : List Loc) (ls : Array Slot) (hI : I S M) (hP : va_P G.1 vwCl (wHM G a S ++ wMod G am M) H) (hD : va_D (fun q : Nat => s.heap.size ≤ q) (wHM G a S ++ wMod G am M)) (hS : va_S (fun q : Nat => s.heap.size ≤ q) s.heap H locs) (hl : lv_has ls 4 [(0, .ref b), (1, .ref (a 0 0)), (2, .ref (am 0)), (3, .int x3)]) : W p l e room_1 s m #[Value.ref b] below meth c H locs 51 3269 (lw_Z below #[Value.ref b] s) (F0 m 244 ls []) := by
  obtain ⟨hx, hb, hr, hml, hown0, hts0, hX, hbl, hlocks, hgv⟩ := C0
  have hts : ∀ w ∈ wsL_law, w.before #[Value.ref b] s = true := fun w h => hts0 w (wsL_law_in w h)
  have hown : s.vm.findClass RL = some m.cls := hown0
  have hA : ∀ q : Nat, s.heap.size ≤ q → (fun q : Nat => s.heap.size ≤ q) q := fun _ h => h
  have hbA : ¬ (fun q : Nat => s.heap.size ≤ q) b := Nat.not_le.mpr hbl
  have hK := hC.1
  have hi1 : vp_in (x3 + 1) L := by rw [ex3, show nI i + 1 = nI (i + 1) from nI_add i 1]; exact vp_in_nI (by omega) (by omega)
  have hi2 : vp_in (x3 + 2) L := by rw [ex3, show nI i + 2 = nI (i + 2) from nI_add i 2]; exact vp_in_nI (by omega) (by omega)
  obtain ⟨r, M1, hs, hm, hI1⟩ := hOK S M (xs (x3 + 1).toNatClampNeg) (xs (x3 + 2).toNatClampNeg) hI
  refine lv_aload_n hx hb dL_law_244 rfl (lv_at hl 1 rfl) ?_
  refine lv_aload_n hx hb dL_law_245 rfl (lv_at hl 0 rfl) ?_
  refine lv_iload_n hx hb dL_law_246 rfl (lv_at hl 3 rfl) ?_
  refine lv_iconst (v := 1) hx hb dL_law_247 (by decide) ?_
  refine lv_iadd hx hb dL_law_248 ?_
  refine va_sld hx hb hX hbl hbA hS hi1 dL_law_249 ?_
  refine lv_aload_n hx hb dL_law_250 rfl (lv_at hl 0 rfl) ?_
  refine lv_iload_n hx hb dL_law_251 rfl (lv_at hl 3 rfl) ?_
  refine lv_iconst (v := 2) hx hb dL_law_252 (by decide) ?_
  refine lv_iadd hx hb dL_law_253 ?_
  refine va_sld hx hb hX hbl hbA hS hi2 dL_law_254 ?_
  refine y_ro (va_runV (As := [.int (xs (x3 + 1).toNatClampNeg), .int (xs (x3 + 2).toNatClampNeg)]) (rest := []) ⟨hx, hb, hml, hown, hts⟩ (c_X3_line l G a S (xs (x3 + 1).toNatClampNeg) (xs (x3 + 2).toNatClampNeg) r hs) (cwV 2 hts gL_law_X3_line rfl rfl rfl (by decide +kernel) ⟨Nat.le_of_ble_eq_true rfl, Nat.le_of_ble_eq_true rfl⟩) ⟨PreR.blind, va_recv hK (wl_P hP) (ci := 3) (q0 := 0) rfl rfl, y_preR hC (wl_P hP)⟩ rfl rfl hl.1 rfl (lv_room (Nat.le_of_ble_eq_true rfl)) dL_law_255 ⟨Nat.le_of_ble_eq_true rfl, Nat.le_of_ble_eq_true rfl⟩) ?_
  refine lv_aload_n hx hb dL_law_258 rfl (lv_at hl 2 rfl) ?_
  refine lv_aload_n hx hb dL_law_259 rfl (lv_at hl 0 rfl) ?_
  refine lv_iload_n hx hb dL_law_260 rfl (lv_at hl 3 rfl) ?_
  refine lv_iconst (v := 1) hx hb dL_law_261 (by decide) ?_
  refine lv_iadd hx hb dL_law_262 ?_
  refine va_sld hx hb hX hbl hbA hS hi1 dL_law_263 ?_
  refine lv_aload_n hx hb dL_law_264 rfl (lv_at hl 0 rfl) ?_
  refine lv_iload_n hx hb dL_law_265 rfl (lv_at hl 3 rfl) ?_
  refine lv_iconst (v := 2) hx hb dL_law_266 (by decide) ?_
  refine lv_iadd hx hb dL_law_267 ?_
  refine va_sld hx hb hX hbl hbA hS hi2 dL_law_268 ?_
  refine y_rwi (va_runV (As := [.int (xs (x3 + 1).toNatClampNeg), .int (xs (x3 + 2).toNatClampNeg)]) (rest := [.int r]) ⟨hx, hb, hml, hown, hts⟩ (c_X4_line l G am M (xs (x3 + 1).toNatClampNeg) (xs (x3 + 2).toNatClampNeg) _ r M1 hm) (cwV 2 hts gL_law_X4_line rfl rfl rfl (by decide +kernel) ⟨Nat.le_of_ble_eq_true rfl, Nat.le_of_ble_eq_true rfl⟩) ⟨PreW.blind, va_recv hK (wr_P hP) (ci := 4) (q0 := 0) rfl rfl, y_preW hC (wr_P hP) (wr_D hD)⟩ rfl rfl hl.1 rfl (lv_room (Nat.le_of_ble_eq_true rfl)) dL_law_269 ⟨Nat.le_of_ble_eq_true rfl, Nat.le_of_ble_eq_true rfl⟩) hS (y_all (wr_D hD) hS hA) (fun H1 locs1 hP1 hD1 hk1 hS1 => ?_)
  replace hP := w_join_r hP hD hk1 (y_all (wr_D hD) hS hA) hP1 hD1
  replace hD := hP.2
  replace hP := hP.1
  replace hS := hS1
  clear hP1 hD1 hk1 hS1
  refine lv_icmp_eq (tgt := 557) hx hb dL_law_272 (by decide) (fun _ => ?_) (fun c9 => absurd rfl c9)
  exact kT _ _ _ _ ls hI1 hP hD hS hl
set_option maxHeartbeats 4000000 in
set_option maxRecDepth 100000 in
theorem law_page {p : Program} {l : Launch} {e : Env} {s : State} {m : MethodId} {below : List Frame} {meth : Method} {c : Code} {b L : Nat} {xs : Nat → Int32} {G : GT} {t : Nat → Nat} {I : (Nat → Ob) → Ob → Prop} {a : Nat → Nat → Nat} {am : Nat → Nat} (C0 : lw_At p s m meth c b L xs) (hC : Cx G s) (hT1 : T1 t (fun q : Nat => s.heap.size ≤ q) s s.heap) (hT2 : T2 t (fun q : Nat => s.heap.size ≤ q) s s.heap) (hOK : K_page I) (i : Nat) (x3 : Int32) (ex3 : x3 = nI i) (hi : i + 4 ≤ L) (hL : L ≤ 2048) (kT : ∀ (S : Nat → Ob) (M : Ob) (H : Heap) (locs : List Loc) (ls : Array Slot), I S M → va_P G.1 vwCl (wHM G a S ++ wMod G am M) H → va_D (fun q : Nat => s.heap.size ≤ q) (wHM G a S ++ wMod G am M) → va_S (fun q : Nat => s.heap.size ≤ q) s.heap H locs → lv_has ls 4 [(0, .ref b), (1, .ref (a 0 0)), (2, .ref (am 0)), (3, .int x3)] → W p l e room_1 s m #[Value.ref b] below meth c H locs 51 3269 (lw_Z below #[Value.ref b] s) (F0 m 557 ls [])) (S : Nat → Ob) (M : Ob) (H : Heap) (locs : List Loc) (ls : Array Slot) (hI : I S M) (hP : va_P G.1 vwCl (wHM G a S ++ wMod G am M) H) (hD : va_D (fun q : Nat => s.heap.size ≤ q) (wHM G a S ++ wMod G am M)) (hS : va_S (fun q : Nat => s.heap.size ≤ q) s.heap H locs) (hl : lv_has ls 4 [(0, .ref b), (1, .ref (a 0 0)), (2, .ref (am 0)), (3, .int x3)]) : W p l e room_1 s m #[Value.ref b] below meth c H locs 51 3269 (lw_Z below #[Value.ref b] s) (F0 m 277 ls []) := by
  obtain ⟨hx, hb, hr, hml, hown0, hts0, hX, hbl, hlocks, hgv⟩ := C0
  have hts : ∀ w ∈ wsL_law, w.before #[Value.ref b] s = true := fun w h => hts0 w (wsL_law_in w h)
  have hown : s.vm.findClass RL = some m.cls := hown0
  have hA : ∀ q : Nat, s.heap.size ≤ q → (fun q : Nat => s.heap.size ≤ q) q := fun _ h => h
  have hbA : ¬ (fun q : Nat => s.heap.size ≤ q) b := Nat.not_le.mpr hbl
  have hK := hC.1
  have hi1 : vp_in (x3 + 1) L := by rw [ex3, show nI i + 1 = nI (i + 1) from nI_add i 1]; exact vp_in_nI (by omega) (by omega)
  have hi2 : vp_in (x3 + 2) L := by rw [ex3, show nI i + 2 = nI (i + 2) from nI_add i 2]; exact vp_in_nI (by omega) (by omega)
  obtain ⟨r, M1, hs, hm, hI1⟩ := hOK S M (xs (x3 + 1).toNatClampNeg) (xs (x3 + 2).toNatClampNeg) hI
  refine lv_aload_n hx hb dL_law_277 rfl (lv_at hl 1 rfl) ?_
  refine lv_aload_n hx hb dL_law_278 rfl (lv_at hl 0 rfl) ?_
  refine lv_iload_n hx hb dL_law_279 rfl (lv_at hl 3 rfl) ?_
  refine lv_iconst (v := 1) hx hb dL_law_280 (by decide) ?_
  refine lv_iadd hx hb dL_law_281 ?_
  refine va_sld hx hb hX hbl hbA hS hi1 dL_law_282 ?_
  refine lv_aload_n hx hb dL_law_283 rfl (lv_at hl 0 rfl) ?_
  refine lv_iload_n hx hb dL_law_284 rfl (lv_at hl 3 rfl) ?_
  refine lv_iconst (v := 2) hx hb dL_law_285 (by decide) ?_
  refine lv_iadd hx hb dL_law_286 ?_
  refine va_sld hx hb hX hbl hbA hS hi2 dL_law_287 ?_
  refine y_ro (va_runV (As := [.int (xs (x3 + 1).toNatClampNeg), .int (xs (x3 + 2).toNatClampNeg)]) (rest := []) ⟨hx, hb, hml, hown, hts⟩ (c_X3_page l G a S (xs (x3 + 1).toNatClampNeg) (xs (x3 + 2).toNatClampNeg) r hs) (cwV 2 hts gL_law_X3_page rfl rfl rfl (by decide +kernel) ⟨Nat.le_of_ble_eq_true rfl, Nat.le_of_ble_eq_true rfl⟩) ⟨PreR.blind, va_recv hK (wl_P hP) (ci := 3) (q0 := 0) rfl rfl, y_preR hC (wl_P hP)⟩ rfl rfl hl.1 rfl (lv_room (Nat.le_of_ble_eq_true rfl)) dL_law_288 ⟨Nat.le_of_ble_eq_true rfl, Nat.le_of_ble_eq_true rfl⟩) ?_
  refine lv_aload_n hx hb dL_law_291 rfl (lv_at hl 2 rfl) ?_
  refine lv_aload_n hx hb dL_law_292 rfl (lv_at hl 0 rfl) ?_
  refine lv_iload_n hx hb dL_law_293 rfl (lv_at hl 3 rfl) ?_
  refine lv_iconst (v := 1) hx hb dL_law_294 (by decide) ?_
  refine lv_iadd hx hb dL_law_295 ?_
  refine va_sld hx hb hX hbl hbA hS hi1 dL_law_296 ?_
  refine lv_aload_n hx hb dL_law_297 rfl (lv_at hl 0 rfl) ?_
  refine lv_iload_n hx hb dL_law_298 rfl (lv_at hl 3 rfl) ?_
  refine lv_iconst (v := 2) hx hb dL_law_299 (by decide) ?_
  refine lv_iadd hx hb dL_law_300 ?_
  refine va_sld hx hb hX hbl hbA hS hi2 dL_law_301 ?_
  refine y_rwi (va_runV (As := [.int (xs (x3 + 1).toNatClampNeg), .int (xs (x3 + 2).toNatClampNeg)]) (rest := [.int r]) ⟨hx, hb, hml, hown, hts⟩ (c_X4_page l G am M (xs (x3 + 1).toNatClampNeg) (xs (x3 + 2).toNatClampNeg) _ r M1 hm) (cwV 2 hts gL_law_X4_page rfl rfl rfl (by decide +kernel) ⟨Nat.le_of_ble_eq_true rfl, Nat.le_of_ble_eq_true rfl⟩) ⟨PreW.blind, va_recv hK (wr_P hP) (ci := 4) (q0 := 0) rfl rfl, y_preW hC (wr_P hP) (wr_D hD)⟩ rfl rfl hl.1 rfl (lv_room (Nat.le_of_ble_eq_true rfl)) dL_law_302 ⟨Nat.le_of_ble_eq_true rfl, Nat.le_of_ble_eq_true rfl⟩) hS (y_all (wr_D hD) hS hA) (fun H1 locs1 hP1 hD1 hk1 hS1 => ?_)
  replace hP := w_join_r hP hD hk1 (y_all (wr_D hD) hS hA) hP1 hD1
  replace hD := hP.2
  replace hP := hP.1
  replace hS := hS1
  clear hP1 hD1 hk1 hS1
  refine lv_icmp_eq (tgt := 557) hx hb dL_law_305 (by decide) (fun _ => ?_) (fun c9 => absurd rfl c9)
  exact kT _ _ _ _ ls hI1 hP hD hS hl
set_option maxHeartbeats 4000000 in
set_option maxRecDepth 100000 in
theorem law_mark {p : Program} {l : Launch} {e : Env} {s : State} {m : MethodId} {below : List Frame} {meth : Method} {c : Code} {b L : Nat} {xs : Nat → Int32} {G : GT} {t : Nat → Nat} {I : (Nat → Ob) → Ob → Prop} {a : Nat → Nat → Nat} {am : Nat → Nat} (C0 : lw_At p s m meth c b L xs) (hC : Cx G s) (hT1 : T1 t (fun q : Nat => s.heap.size ≤ q) s s.heap) (hT2 : T2 t (fun q : Nat => s.heap.size ≤ q) s s.heap) (hOK : K_mark I) (i : Nat) (x3 : Int32) (ex3 : x3 = nI i) (hi : i + 4 ≤ L) (hL : L ≤ 2048) (kT : ∀ (S : Nat → Ob) (M : Ob) (H : Heap) (locs : List Loc) (ls : Array Slot), I S M → va_P G.1 vwCl (wHM G a S ++ wMod G am M) H → va_D (fun q : Nat => s.heap.size ≤ q) (wHM G a S ++ wMod G am M) → va_S (fun q : Nat => s.heap.size ≤ q) s.heap H locs → lv_has ls 4 [(0, .ref b), (1, .ref (a 0 0)), (2, .ref (am 0)), (3, .int x3)] → W p l e room_1 s m #[Value.ref b] below meth c H locs 51 3269 (lw_Z below #[Value.ref b] s) (F0 m 557 ls [])) (S : Nat → Ob) (M : Ob) (H : Heap) (locs : List Loc) (ls : Array Slot) (hI : I S M) (hP : va_P G.1 vwCl (wHM G a S ++ wMod G am M) H) (hD : va_D (fun q : Nat => s.heap.size ≤ q) (wHM G a S ++ wMod G am M)) (hS : va_S (fun q : Nat => s.heap.size ≤ q) s.heap H locs) (hl : lv_has ls 4 [(0, .ref b), (1, .ref (a 0 0)), (2, .ref (am 0)), (3, .int x3)]) : W p l e room_1 s m #[Value.ref b] below meth c H locs 51 3269 (lw_Z below #[Value.ref b] s) (F0 m 310 ls []) := by
  obtain ⟨hx, hb, hr, hml, hown0, hts0, hX, hbl, hlocks, hgv⟩ := C0
  have hts : ∀ w ∈ wsL_law, w.before #[Value.ref b] s = true := fun w h => hts0 w (wsL_law_in w h)
  have hown : s.vm.findClass RL = some m.cls := hown0
  have hA : ∀ q : Nat, s.heap.size ≤ q → (fun q : Nat => s.heap.size ≤ q) q := fun _ h => h
  have hbA : ¬ (fun q : Nat => s.heap.size ≤ q) b := Nat.not_le.mpr hbl
  have hK := hC.1
  have hi1 : vp_in (x3 + 1) L := by rw [ex3, show nI i + 1 = nI (i + 1) from nI_add i 1]; exact vp_in_nI (by omega) (by omega)
  have hi2 : vp_in (x3 + 2) L := by rw [ex3, show nI i + 2 = nI (i + 2) from nI_add i 2]; exact vp_in_nI (by omega) (by omega)
  have hi3 : vp_in (x3 + 3) L := by rw [ex3, show nI i + 3 = nI (i + 3) from nI_add i 3]; exact vp_in_nI (by omega) (by omega)
  obtain ⟨r, M1, hs, hm, hI1⟩ := hOK S M (xs (x3 + 1).toNatClampNeg) (xs (x3 + 2).toNatClampNeg) (xs (x3 + 3).toNatClampNeg) hI
  refine lv_aload_n hx hb dL_law_310 rfl (lv_at hl 1 rfl) ?_
  refine lv_aload_n hx hb dL_law_311 rfl (lv_at hl 0 rfl) ?_
  refine lv_iload_n hx hb dL_law_312 rfl (lv_at hl 3 rfl) ?_
  refine lv_iconst (v := 1) hx hb dL_law_313 (by decide) ?_
  refine lv_iadd hx hb dL_law_314 ?_
  refine va_sld hx hb hX hbl hbA hS hi1 dL_law_315 ?_
  refine lv_aload_n hx hb dL_law_316 rfl (lv_at hl 0 rfl) ?_
  refine lv_iload_n hx hb dL_law_317 rfl (lv_at hl 3 rfl) ?_
  refine lv_iconst (v := 2) hx hb dL_law_318 (by decide) ?_
  refine lv_iadd hx hb dL_law_319 ?_
  refine va_sld hx hb hX hbl hbA hS hi2 dL_law_320 ?_
  refine lv_aload_n hx hb dL_law_321 rfl (lv_at hl 0 rfl) ?_
  refine lv_iload_n hx hb dL_law_322 rfl (lv_at hl 3 rfl) ?_
  refine lv_iconst (v := 3) hx hb dL_law_323 (by decide) ?_
  refine lv_iadd hx hb dL_law_324 ?_
  refine va_sld hx hb hX hbl hbA hS hi3 dL_law_325 ?_
  refine y_ro (va_runV (As := [.int (xs (x3 + 1).toNatClampNeg), .int (xs (x3 + 2).toNatClampNeg), .int (xs (x3 + 3).toNatClampNeg)]) (rest := []) ⟨hx, hb, hml, hown, hts⟩ (c_X3_mark l G a S (xs (x3 + 1).toNatClampNeg) (xs (x3 + 2).toNatClampNeg) (xs (x3 + 3).toNatClampNeg) r hs) (cwV 3 hts gL_law_X3_mark rfl rfl rfl (by decide +kernel) ⟨Nat.le_of_ble_eq_true rfl, Nat.le_of_ble_eq_true rfl⟩) ⟨PreR.blind, va_recv hK (wl_P hP) (ci := 3) (q0 := 0) rfl rfl, y_preR hC (wl_P hP)⟩ rfl rfl hl.1 rfl (lv_room (Nat.le_of_ble_eq_true rfl)) dL_law_326 ⟨Nat.le_of_ble_eq_true rfl, Nat.le_of_ble_eq_true rfl⟩) ?_
  refine lv_aload_n hx hb dL_law_329 rfl (lv_at hl 2 rfl) ?_
  refine lv_aload_n hx hb dL_law_330 rfl (lv_at hl 0 rfl) ?_
  refine lv_iload_n hx hb dL_law_331 rfl (lv_at hl 3 rfl) ?_
  refine lv_iconst (v := 1) hx hb dL_law_332 (by decide) ?_
  refine lv_iadd hx hb dL_law_333 ?_
  refine va_sld hx hb hX hbl hbA hS hi1 dL_law_334 ?_
  refine lv_aload_n hx hb dL_law_335 rfl (lv_at hl 0 rfl) ?_
  refine lv_iload_n hx hb dL_law_336 rfl (lv_at hl 3 rfl) ?_
  refine lv_iconst (v := 2) hx hb dL_law_337 (by decide) ?_
  refine lv_iadd hx hb dL_law_338 ?_
  refine va_sld hx hb hX hbl hbA hS hi2 dL_law_339 ?_
  refine lv_aload_n hx hb dL_law_340 rfl (lv_at hl 0 rfl) ?_
  refine lv_iload_n hx hb dL_law_341 rfl (lv_at hl 3 rfl) ?_
  refine lv_iconst (v := 3) hx hb dL_law_342 (by decide) ?_
  refine lv_iadd hx hb dL_law_343 ?_
  refine va_sld hx hb hX hbl hbA hS hi3 dL_law_344 ?_
  refine y_rwi (va_runV (As := [.int (xs (x3 + 1).toNatClampNeg), .int (xs (x3 + 2).toNatClampNeg), .int (xs (x3 + 3).toNatClampNeg)]) (rest := [.int r]) ⟨hx, hb, hml, hown, hts⟩ (c_X4_mark l G am M (xs (x3 + 1).toNatClampNeg) (xs (x3 + 2).toNatClampNeg) (xs (x3 + 3).toNatClampNeg) _ r M1 hm) (cwV 3 hts gL_law_X4_mark rfl rfl rfl (by decide +kernel) ⟨Nat.le_of_ble_eq_true rfl, Nat.le_of_ble_eq_true rfl⟩) ⟨PreW.blind, va_recv hK (wr_P hP) (ci := 4) (q0 := 0) rfl rfl, y_preW hC (wr_P hP) (wr_D hD)⟩ rfl rfl hl.1 rfl (lv_room (Nat.le_of_ble_eq_true rfl)) dL_law_345 ⟨Nat.le_of_ble_eq_true rfl, Nat.le_of_ble_eq_true rfl⟩) hS (y_all (wr_D hD) hS hA) (fun H1 locs1 hP1 hD1 hk1 hS1 => ?_)
  replace hP := w_join_r hP hD hk1 (y_all (wr_D hD) hS hA) hP1 hD1
  replace hD := hP.2
  replace hP := hP.1
  replace hS := hS1
  clear hP1 hD1 hk1 hS1
  refine lv_icmp_eq (tgt := 557) hx hb dL_law_348 (by decide) (fun _ => ?_) (fun c9 => absurd rfl c9)
  exact kT _ _ _ _ ls hI1 hP hD hS hl
set_option maxHeartbeats 4000000 in
set_option maxRecDepth 100000 in
theorem law_headed {p : Program} {l : Launch} {e : Env} {s : State} {m : MethodId} {below : List Frame} {meth : Method} {c : Code} {b L : Nat} {xs : Nat → Int32} {G : GT} {t : Nat → Nat} {I : (Nat → Ob) → Ob → Prop} {a : Nat → Nat → Nat} {am : Nat → Nat} (C0 : lw_At p s m meth c b L xs) (hC : Cx G s) (hT1 : T1 t (fun q : Nat => s.heap.size ≤ q) s s.heap) (hT2 : T2 t (fun q : Nat => s.heap.size ≤ q) s s.heap) (hOK : K_headed I) (i : Nat) (x3 : Int32) (ex3 : x3 = nI i) (hi : i + 4 ≤ L) (hL : L ≤ 2048) (kT : ∀ (S : Nat → Ob) (M : Ob) (H : Heap) (locs : List Loc) (ls : Array Slot), I S M → va_P G.1 vwCl (wHM G a S ++ wMod G am M) H → va_D (fun q : Nat => s.heap.size ≤ q) (wHM G a S ++ wMod G am M) → va_S (fun q : Nat => s.heap.size ≤ q) s.heap H locs → lv_has ls 4 [(0, .ref b), (1, .ref (a 0 0)), (2, .ref (am 0)), (3, .int x3)] → W p l e room_1 s m #[Value.ref b] below meth c H locs 51 3269 (lw_Z below #[Value.ref b] s) (F0 m 557 ls [])) (S : Nat → Ob) (M : Ob) (H : Heap) (locs : List Loc) (ls : Array Slot) (hI : I S M) (hP : va_P G.1 vwCl (wHM G a S ++ wMod G am M) H) (hD : va_D (fun q : Nat => s.heap.size ≤ q) (wHM G a S ++ wMod G am M)) (hS : va_S (fun q : Nat => s.heap.size ≤ q) s.heap H locs) (hl : lv_has ls 4 [(0, .ref b), (1, .ref (a 0 0)), (2, .ref (am 0)), (3, .int x3)]) : W p l e room_1 s m #[Value.ref b] below meth c H locs 51 3269 (lw_Z below #[Value.ref b] s) (F0 m 353 ls []) := by
  obtain ⟨hx, hb, hr, hml, hown0, hts0, hX, hbl, hlocks, hgv⟩ := C0
  have hts : ∀ w ∈ wsL_law, w.before #[Value.ref b] s = true := fun w h => hts0 w (wsL_law_in w h)
  have hown : s.vm.findClass RL = some m.cls := hown0
  have hA : ∀ q : Nat, s.heap.size ≤ q → (fun q : Nat => s.heap.size ≤ q) q := fun _ h => h
  have hbA : ¬ (fun q : Nat => s.heap.size ≤ q) b := Nat.not_le.mpr hbl
  have hK := hC.1
  have hi1 : vp_in (x3 + 1) L := by rw [ex3, show nI i + 1 = nI (i + 1) from nI_add i 1]; exact vp_in_nI (by omega) (by omega)
  have hi2 : vp_in (x3 + 2) L := by rw [ex3, show nI i + 2 = nI (i + 2) from nI_add i 2]; exact vp_in_nI (by omega) (by omega)
  obtain ⟨r, M1, hs, hm, hI1⟩ := hOK S M (xs (x3 + 1).toNatClampNeg) (xs (x3 + 2).toNatClampNeg) hI
  refine lv_aload_n hx hb dL_law_353 rfl (lv_at hl 1 rfl) ?_
  refine lv_aload_n hx hb dL_law_354 rfl (lv_at hl 0 rfl) ?_
  refine lv_iload_n hx hb dL_law_355 rfl (lv_at hl 3 rfl) ?_
  refine lv_iconst (v := 1) hx hb dL_law_356 (by decide) ?_
  refine lv_iadd hx hb dL_law_357 ?_
  refine va_sld hx hb hX hbl hbA hS hi1 dL_law_358 ?_
  refine lv_aload_n hx hb dL_law_359 rfl (lv_at hl 0 rfl) ?_
  refine lv_iload_n hx hb dL_law_360 rfl (lv_at hl 3 rfl) ?_
  refine lv_iconst (v := 2) hx hb dL_law_361 (by decide) ?_
  refine lv_iadd hx hb dL_law_362 ?_
  refine va_sld hx hb hX hbl hbA hS hi2 dL_law_363 ?_
  refine y_ro (va_runV (As := [.int (xs (x3 + 1).toNatClampNeg), .int (xs (x3 + 2).toNatClampNeg)]) (rest := []) ⟨hx, hb, hml, hown, hts⟩ (c_X3_headed l G a S (xs (x3 + 1).toNatClampNeg) (xs (x3 + 2).toNatClampNeg) r hs) (cwV 2 hts gL_law_X3_headed rfl rfl rfl (by decide +kernel) ⟨Nat.le_of_ble_eq_true rfl, Nat.le_of_ble_eq_true rfl⟩) ⟨PreR.blind, va_recv hK (wl_P hP) (ci := 3) (q0 := 0) rfl rfl, y_preR hC (wl_P hP)⟩ rfl rfl hl.1 rfl (lv_room (Nat.le_of_ble_eq_true rfl)) dL_law_364 ⟨Nat.le_of_ble_eq_true rfl, Nat.le_of_ble_eq_true rfl⟩) ?_
  refine lv_aload_n hx hb dL_law_367 rfl (lv_at hl 2 rfl) ?_
  refine lv_aload_n hx hb dL_law_368 rfl (lv_at hl 0 rfl) ?_
  refine lv_iload_n hx hb dL_law_369 rfl (lv_at hl 3 rfl) ?_
  refine lv_iconst (v := 1) hx hb dL_law_370 (by decide) ?_
  refine lv_iadd hx hb dL_law_371 ?_
  refine va_sld hx hb hX hbl hbA hS hi1 dL_law_372 ?_
  refine lv_aload_n hx hb dL_law_373 rfl (lv_at hl 0 rfl) ?_
  refine lv_iload_n hx hb dL_law_374 rfl (lv_at hl 3 rfl) ?_
  refine lv_iconst (v := 2) hx hb dL_law_375 (by decide) ?_
  refine lv_iadd hx hb dL_law_376 ?_
  refine va_sld hx hb hX hbl hbA hS hi2 dL_law_377 ?_
  refine y_rwi (va_runV (As := [.int (xs (x3 + 1).toNatClampNeg), .int (xs (x3 + 2).toNatClampNeg)]) (rest := [.int r]) ⟨hx, hb, hml, hown, hts⟩ (c_X4_headed l G am M (xs (x3 + 1).toNatClampNeg) (xs (x3 + 2).toNatClampNeg) _ r M1 hm) (cwV 2 hts gL_law_X4_headed rfl rfl rfl (by decide +kernel) ⟨Nat.le_of_ble_eq_true rfl, Nat.le_of_ble_eq_true rfl⟩) ⟨PreW.blind, va_recv hK (wr_P hP) (ci := 4) (q0 := 0) rfl rfl, y_preW hC (wr_P hP) (wr_D hD)⟩ rfl rfl hl.1 rfl (lv_room (Nat.le_of_ble_eq_true rfl)) dL_law_378 ⟨Nat.le_of_ble_eq_true rfl, Nat.le_of_ble_eq_true rfl⟩) hS (y_all (wr_D hD) hS hA) (fun H1 locs1 hP1 hD1 hk1 hS1 => ?_)
  replace hP := w_join_r hP hD hk1 (y_all (wr_D hD) hS hA) hP1 hD1
  replace hD := hP.2
  replace hP := hP.1
  replace hS := hS1
  clear hP1 hD1 hk1 hS1
  refine lv_icmp_eq (tgt := 557) hx hb dL_law_381 (by decide) (fun _ => ?_) (fun c9 => absurd rfl c9)
  exact kT _ _ _ _ ls hI1 hP hD hS hl
set_option maxHeartbeats 4000000 in
set_option maxRecDepth 100000 in
theorem law_chapter {p : Program} {l : Launch} {e : Env} {s : State} {m : MethodId} {below : List Frame} {meth : Method} {c : Code} {b L : Nat} {xs : Nat → Int32} {G : GT} {t : Nat → Nat} {I : (Nat → Ob) → Ob → Prop} {a : Nat → Nat → Nat} {am : Nat → Nat} (C0 : lw_At p s m meth c b L xs) (hC : Cx G s) (hT1 : T1 t (fun q : Nat => s.heap.size ≤ q) s s.heap) (hT2 : T2 t (fun q : Nat => s.heap.size ≤ q) s s.heap) (hOK : K_chapter I) (i : Nat) (x3 : Int32) (ex3 : x3 = nI i) (hi : i + 4 ≤ L) (hL : L ≤ 2048) (kT : ∀ (S : Nat → Ob) (M : Ob) (H : Heap) (locs : List Loc) (ls : Array Slot), I S M → va_P G.1 vwCl (wHM G a S ++ wMod G am M) H → va_D (fun q : Nat => s.heap.size ≤ q) (wHM G a S ++ wMod G am M) → va_S (fun q : Nat => s.heap.size ≤ q) s.heap H locs → lv_has ls 4 [(0, .ref b), (1, .ref (a 0 0)), (2, .ref (am 0)), (3, .int x3)] → W p l e room_1 s m #[Value.ref b] below meth c H locs 51 3269 (lw_Z below #[Value.ref b] s) (F0 m 557 ls [])) (S : Nat → Ob) (M : Ob) (H : Heap) (locs : List Loc) (ls : Array Slot) (hI : I S M) (hP : va_P G.1 vwCl (wHM G a S ++ wMod G am M) H) (hD : va_D (fun q : Nat => s.heap.size ≤ q) (wHM G a S ++ wMod G am M)) (hS : va_S (fun q : Nat => s.heap.size ≤ q) s.heap H locs) (hl : lv_has ls 4 [(0, .ref b), (1, .ref (a 0 0)), (2, .ref (am 0)), (3, .int x3)]) : W p l e room_1 s m #[Value.ref b] below meth c H locs 51 3269 (lw_Z below #[Value.ref b] s) (F0 m 386 ls []) := by
  obtain ⟨hx, hb, hr, hml, hown0, hts0, hX, hbl, hlocks, hgv⟩ := C0
  have hts : ∀ w ∈ wsL_law, w.before #[Value.ref b] s = true := fun w h => hts0 w (wsL_law_in w h)
  have hown : s.vm.findClass RL = some m.cls := hown0
  have hA : ∀ q : Nat, s.heap.size ≤ q → (fun q : Nat => s.heap.size ≤ q) q := fun _ h => h
  have hbA : ¬ (fun q : Nat => s.heap.size ≤ q) b := Nat.not_le.mpr hbl
  have hK := hC.1
  have hi1 : vp_in (x3 + 1) L := by rw [ex3, show nI i + 1 = nI (i + 1) from nI_add i 1]; exact vp_in_nI (by omega) (by omega)
  have hi2 : vp_in (x3 + 2) L := by rw [ex3, show nI i + 2 = nI (i + 2) from nI_add i 2]; exact vp_in_nI (by omega) (by omega)
  obtain ⟨r, M1, hs, hm, hI1⟩ := hOK S M (xs (x3 + 1).toNatClampNeg) (xs (x3 + 2).toNatClampNeg) hI
  refine lv_aload_n hx hb dL_law_386 rfl (lv_at hl 1 rfl) ?_
  refine lv_aload_n hx hb dL_law_387 rfl (lv_at hl 0 rfl) ?_
  refine lv_iload_n hx hb dL_law_388 rfl (lv_at hl 3 rfl) ?_
  refine lv_iconst (v := 1) hx hb dL_law_389 (by decide) ?_
  refine lv_iadd hx hb dL_law_390 ?_
  refine va_sld hx hb hX hbl hbA hS hi1 dL_law_391 ?_
  refine lv_aload_n hx hb dL_law_392 rfl (lv_at hl 0 rfl) ?_
  refine lv_iload_n hx hb dL_law_393 rfl (lv_at hl 3 rfl) ?_
  refine lv_iconst (v := 2) hx hb dL_law_394 (by decide) ?_
  refine lv_iadd hx hb dL_law_395 ?_
  refine va_sld hx hb hX hbl hbA hS hi2 dL_law_396 ?_
  refine y_ro (va_runV (As := [.int (xs (x3 + 1).toNatClampNeg), .int (xs (x3 + 2).toNatClampNeg)]) (rest := []) ⟨hx, hb, hml, hown, hts⟩ (c_X3_chapter l G a S (xs (x3 + 1).toNatClampNeg) (xs (x3 + 2).toNatClampNeg) r hs) (cwV 2 hts gL_law_X3_chapter rfl rfl rfl (by decide +kernel) ⟨Nat.le_of_ble_eq_true rfl, Nat.le_of_ble_eq_true rfl⟩) ⟨PreR.blind, va_recv hK (wl_P hP) (ci := 3) (q0 := 0) rfl rfl, y_preR hC (wl_P hP)⟩ rfl rfl hl.1 rfl (lv_room (Nat.le_of_ble_eq_true rfl)) dL_law_397 ⟨Nat.le_of_ble_eq_true rfl, Nat.le_of_ble_eq_true rfl⟩) ?_
  refine lv_aload_n hx hb dL_law_400 rfl (lv_at hl 2 rfl) ?_
  refine lv_aload_n hx hb dL_law_401 rfl (lv_at hl 0 rfl) ?_
  refine lv_iload_n hx hb dL_law_402 rfl (lv_at hl 3 rfl) ?_
  refine lv_iconst (v := 1) hx hb dL_law_403 (by decide) ?_
  refine lv_iadd hx hb dL_law_404 ?_
  refine va_sld hx hb hX hbl hbA hS hi1 dL_law_405 ?_
  refine lv_aload_n hx hb dL_law_406 rfl (lv_at hl 0 rfl) ?_
  refine lv_iload_n hx hb dL_law_407 rfl (lv_at hl 3 rfl) ?_
  refine lv_iconst (v := 2) hx hb dL_law_408 (by decide) ?_
  refine lv_iadd hx hb dL_law_409 ?_
  refine va_sld hx hb hX hbl hbA hS hi2 dL_law_410 ?_
  refine y_rwi (va_runV (As := [.int (xs (x3 + 1).toNatClampNeg), .int (xs (x3 + 2).toNatClampNeg)]) (rest := [.int r]) ⟨hx, hb, hml, hown, hts⟩ (c_X4_chapter l G am M (xs (x3 + 1).toNatClampNeg) (xs (x3 + 2).toNatClampNeg) _ r M1 hm) (cwV 2 hts gL_law_X4_chapter rfl rfl rfl (by decide +kernel) ⟨Nat.le_of_ble_eq_true rfl, Nat.le_of_ble_eq_true rfl⟩) ⟨PreW.blind, va_recv hK (wr_P hP) (ci := 4) (q0 := 0) rfl rfl, y_preW hC (wr_P hP) (wr_D hD)⟩ rfl rfl hl.1 rfl (lv_room (Nat.le_of_ble_eq_true rfl)) dL_law_411 ⟨Nat.le_of_ble_eq_true rfl, Nat.le_of_ble_eq_true rfl⟩) hS (y_all (wr_D hD) hS hA) (fun H1 locs1 hP1 hD1 hk1 hS1 => ?_)
  replace hP := w_join_r hP hD hk1 (y_all (wr_D hD) hS hA) hP1 hD1
  replace hD := hP.2
  replace hP := hP.1
  replace hS := hS1
  clear hP1 hD1 hk1 hS1
  refine lv_icmp_eq (tgt := 557) hx hb dL_law_414 (by decide) (fun _ => ?_) (fun c9 => absurd rfl c9)
  exact kT _ _ _ _ ls hI1 hP hD hS hl
set_option maxHeartbeats 4000000 in
set_option maxRecDepth 100000 in
theorem law_changed {p : Program} {l : Launch} {e : Env} {s : State} {m : MethodId} {below : List Frame} {meth : Method} {c : Code} {b L : Nat} {xs : Nat → Int32} {G : GT} {t : Nat → Nat} {I : (Nat → Ob) → Ob → Prop} {a : Nat → Nat → Nat} {am : Nat → Nat} (C0 : lw_At p s m meth c b L xs) (hC : Cx G s) (hT1 : T1 t (fun q : Nat => s.heap.size ≤ q) s s.heap) (hT2 : T2 t (fun q : Nat => s.heap.size ≤ q) s s.heap) (hOK : K_changed I) (i : Nat) (x3 : Int32) (ex3 : x3 = nI i) (hi : i + 4 ≤ L) (hL : L ≤ 2048) (kT : ∀ (S : Nat → Ob) (M : Ob) (H : Heap) (locs : List Loc) (ls : Array Slot), I S M → va_P G.1 vwCl (wHM G a S ++ wMod G am M) H → va_D (fun q : Nat => s.heap.size ≤ q) (wHM G a S ++ wMod G am M) → va_S (fun q : Nat => s.heap.size ≤ q) s.heap H locs → lv_has ls 4 [(0, .ref b), (1, .ref (a 0 0)), (2, .ref (am 0)), (3, .int x3)] → W p l e room_1 s m #[Value.ref b] below meth c H locs 51 3269 (lw_Z below #[Value.ref b] s) (F0 m 557 ls [])) (S : Nat → Ob) (M : Ob) (H : Heap) (locs : List Loc) (ls : Array Slot) (hI : I S M) (hP : va_P G.1 vwCl (wHM G a S ++ wMod G am M) H) (hD : va_D (fun q : Nat => s.heap.size ≤ q) (wHM G a S ++ wMod G am M)) (hS : va_S (fun q : Nat => s.heap.size ≤ q) s.heap H locs) (hl : lv_has ls 4 [(0, .ref b), (1, .ref (a 0 0)), (2, .ref (am 0)), (3, .int x3)]) : W p l e room_1 s m #[Value.ref b] below meth c H locs 51 3269 (lw_Z below #[Value.ref b] s) (F0 m 419 ls []) := by
  obtain ⟨hx, hb, hr, hml, hown0, hts0, hX, hbl, hlocks, hgv⟩ := C0
  have hts : ∀ w ∈ wsL_law, w.before #[Value.ref b] s = true := fun w h => hts0 w (wsL_law_in w h)
  have hown : s.vm.findClass RL = some m.cls := hown0
  have hA : ∀ q : Nat, s.heap.size ≤ q → (fun q : Nat => s.heap.size ≤ q) q := fun _ h => h
  have hbA : ¬ (fun q : Nat => s.heap.size ≤ q) b := Nat.not_le.mpr hbl
  have hK := hC.1
  have hi1 : vp_in (x3 + 1) L := by rw [ex3, show nI i + 1 = nI (i + 1) from nI_add i 1]; exact vp_in_nI (by omega) (by omega)
  obtain ⟨r, S1, M1, hs, hm, hI1⟩ := hOK S M (xs (x3 + 1).toNatClampNeg) hI
  refine lv_aload_n hx hb dL_law_419 rfl (lv_at hl 1 rfl) ?_
  refine lv_aload_n hx hb dL_law_420 rfl (lv_at hl 0 rfl) ?_
  refine lv_iload_n hx hb dL_law_421 rfl (lv_at hl 3 rfl) ?_
  refine lv_iconst (v := 1) hx hb dL_law_422 (by decide) ?_
  refine lv_iadd hx hb dL_law_423 ?_
  refine va_sld hx hb hX hbl hbA hS hi1 dL_law_424 ?_
  refine y_rwi (va_runV (As := [.int (xs (x3 + 1).toNatClampNeg)]) (rest := []) ⟨hx, hb, hml, hown, hts⟩ (c_X3_changed l G a S (xs (x3 + 1).toNatClampNeg) _ r S1 hs) (cwV 1 hts gL_law_X3_changed rfl rfl rfl (by decide +kernel) ⟨Nat.le_of_ble_eq_true rfl, Nat.le_of_ble_eq_true rfl⟩) ⟨PreW.blind, va_recv hK (wl_P hP) (ci := 3) (q0 := 0) rfl rfl, y_preW hC (wl_P hP) (wl_D hD)⟩ rfl rfl hl.1 rfl (lv_room (Nat.le_of_ble_eq_true rfl)) dL_law_425 ⟨Nat.le_of_ble_eq_true rfl, Nat.le_of_ble_eq_true rfl⟩) hS (y_all (wl_D hD) hS hA) (fun H1 locs1 hP1 hD1 hk1 hS1 => ?_)
  replace hP := w_join_l hP hD hk1 (y_all (wl_D hD) hS hA) hP1 hD1
  replace hD := hP.2
  replace hP := hP.1
  replace hS := hS1
  clear hP1 hD1 hk1 hS1
  refine lv_aload_n hx hb dL_law_428 rfl (lv_at hl 2 rfl) ?_
  refine lv_aload_n hx hb dL_law_429 rfl (lv_at hl 0 rfl) ?_
  refine lv_iload_n hx hb dL_law_430 rfl (lv_at hl 3 rfl) ?_
  refine lv_iconst (v := 1) hx hb dL_law_431 (by decide) ?_
  refine lv_iadd hx hb dL_law_432 ?_
  refine va_sld hx hb hX hbl hbA hS hi1 dL_law_433 ?_
  refine y_rwi (va_runV (As := [.int (xs (x3 + 1).toNatClampNeg)]) (rest := [.int r]) ⟨hx, hb, hml, hown, hts⟩ (c_X4_changed l G am M (xs (x3 + 1).toNatClampNeg) _ r M1 hm) (cwV 1 hts gL_law_X4_changed rfl rfl rfl (by decide +kernel) ⟨Nat.le_of_ble_eq_true rfl, Nat.le_of_ble_eq_true rfl⟩) ⟨PreW.blind, va_recv hK (wr_P hP) (ci := 4) (q0 := 0) rfl rfl, y_preW hC (wr_P hP) (wr_D hD)⟩ rfl rfl hl.1 rfl (lv_room (Nat.le_of_ble_eq_true rfl)) dL_law_434 ⟨Nat.le_of_ble_eq_true rfl, Nat.le_of_ble_eq_true rfl⟩) hS (y_all (wr_D hD) hS hA) (fun H1 locs1 hP1 hD1 hk1 hS1 => ?_)
  replace hP := w_join_r hP hD hk1 (y_all (wr_D hD) hS hA) hP1 hD1
  replace hD := hP.2
  replace hP := hP.1
  replace hS := hS1
  clear hP1 hD1 hk1 hS1
  refine lv_icmp_eq (tgt := 557) hx hb dL_law_437 (by decide) (fun _ => ?_) (fun c9 => absurd rfl c9)
  exact kT _ _ _ _ ls hI1 hP hD hS hl
set_option maxHeartbeats 4000000 in
set_option maxRecDepth 100000 in
theorem law_worst {p : Program} {l : Launch} {e : Env} {s : State} {m : MethodId} {below : List Frame} {meth : Method} {c : Code} {b L : Nat} {xs : Nat → Int32} {G : GT} {t : Nat → Nat} {I : (Nat → Ob) → Ob → Prop} {a : Nat → Nat → Nat} {am : Nat → Nat} (C0 : lw_At p s m meth c b L xs) (hC : Cx G s) (hT1 : T1 t (fun q : Nat => s.heap.size ≤ q) s s.heap) (hT2 : T2 t (fun q : Nat => s.heap.size ≤ q) s s.heap) (hOK : K_worst I) (i : Nat) (x3 : Int32) (ex3 : x3 = nI i) (hi : i + 4 ≤ L) (hL : L ≤ 2048) (kT : ∀ (S : Nat → Ob) (M : Ob) (H : Heap) (locs : List Loc) (ls : Array Slot), I S M → va_P G.1 vwCl (wHM G a S ++ wMod G am M) H → va_D (fun q : Nat => s.heap.size ≤ q) (wHM G a S ++ wMod G am M) → va_S (fun q : Nat => s.heap.size ≤ q) s.heap H locs → lv_has ls 4 [(0, .ref b), (1, .ref (a 0 0)), (2, .ref (am 0)), (3, .int x3)] → W p l e room_1 s m #[Value.ref b] below meth c H locs 51 3269 (lw_Z below #[Value.ref b] s) (F0 m 557 ls [])) (S : Nat → Ob) (M : Ob) (H : Heap) (locs : List Loc) (ls : Array Slot) (hI : I S M) (hP : va_P G.1 vwCl (wHM G a S ++ wMod G am M) H) (hD : va_D (fun q : Nat => s.heap.size ≤ q) (wHM G a S ++ wMod G am M)) (hS : va_S (fun q : Nat => s.heap.size ≤ q) s.heap H locs) (hl : lv_has ls 4 [(0, .ref b), (1, .ref (a 0 0)), (2, .ref (am 0)), (3, .int x3)]) : W p l e room_1 s m #[Value.ref b] below meth c H locs 51 3269 (lw_Z below #[Value.ref b] s) (F0 m 442 ls []) := by
  obtain ⟨hx, hb, hr, hml, hown0, hts0, hX, hbl, hlocks, hgv⟩ := C0
  have hts : ∀ w ∈ wsL_law, w.before #[Value.ref b] s = true := fun w h => hts0 w (wsL_law_in w h)
  have hown : s.vm.findClass RL = some m.cls := hown0
  have hA : ∀ q : Nat, s.heap.size ≤ q → (fun q : Nat => s.heap.size ≤ q) q := fun _ h => h
  have hbA : ¬ (fun q : Nat => s.heap.size ≤ q) b := Nat.not_le.mpr hbl
  have hK := hC.1
  have hi1 : vp_in (x3 + 1) L := by rw [ex3, show nI i + 1 = nI (i + 1) from nI_add i 1]; exact vp_in_nI (by omega) (by omega)
  obtain ⟨r, S1, M1, hs, hm, hI1⟩ := hOK S M (xs (x3 + 1).toNatClampNeg) hI
  refine lv_aload_n hx hb dL_law_442 rfl (lv_at hl 1 rfl) ?_
  refine lv_aload_n hx hb dL_law_443 rfl (lv_at hl 0 rfl) ?_
  refine lv_iload_n hx hb dL_law_444 rfl (lv_at hl 3 rfl) ?_
  refine lv_iconst (v := 1) hx hb dL_law_445 (by decide) ?_
  refine lv_iadd hx hb dL_law_446 ?_
  refine va_sld hx hb hX hbl hbA hS hi1 dL_law_447 ?_
  refine y_rwi (va_runV (As := [.int (xs (x3 + 1).toNatClampNeg)]) (rest := []) ⟨hx, hb, hml, hown, hts⟩ (c_X3_worst l G a S (xs (x3 + 1).toNatClampNeg) _ r S1 hs) (cwV 1 hts gL_law_X3_worst rfl rfl rfl (by decide +kernel) ⟨Nat.le_of_ble_eq_true rfl, Nat.le_of_ble_eq_true rfl⟩) ⟨PreW.blind, va_recv hK (wl_P hP) (ci := 3) (q0 := 0) rfl rfl, y_preW hC (wl_P hP) (wl_D hD)⟩ rfl rfl hl.1 rfl (lv_room (Nat.le_of_ble_eq_true rfl)) dL_law_448 ⟨Nat.le_of_ble_eq_true rfl, Nat.le_of_ble_eq_true rfl⟩) hS (y_all (wl_D hD) hS hA) (fun H1 locs1 hP1 hD1 hk1 hS1 => ?_)
  replace hP := w_join_l hP hD hk1 (y_all (wl_D hD) hS hA) hP1 hD1
  replace hD := hP.2
  replace hP := hP.1
  replace hS := hS1
  clear hP1 hD1 hk1 hS1
  refine lv_aload_n hx hb dL_law_451 rfl (lv_at hl 2 rfl) ?_
  refine lv_aload_n hx hb dL_law_452 rfl (lv_at hl 0 rfl) ?_
  refine lv_iload_n hx hb dL_law_453 rfl (lv_at hl 3 rfl) ?_
  refine lv_iconst (v := 1) hx hb dL_law_454 (by decide) ?_
  refine lv_iadd hx hb dL_law_455 ?_
  refine va_sld hx hb hX hbl hbA hS hi1 dL_law_456 ?_
  refine y_rwi (va_runV (As := [.int (xs (x3 + 1).toNatClampNeg)]) (rest := [.int r]) ⟨hx, hb, hml, hown, hts⟩ (c_X4_worst l G am M (xs (x3 + 1).toNatClampNeg) _ r M1 hm) (cwV 1 hts gL_law_X4_worst rfl rfl rfl (by decide +kernel) ⟨Nat.le_of_ble_eq_true rfl, Nat.le_of_ble_eq_true rfl⟩) ⟨PreW.blind, va_recv hK (wr_P hP) (ci := 4) (q0 := 0) rfl rfl, y_preW hC (wr_P hP) (wr_D hD)⟩ rfl rfl hl.1 rfl (lv_room (Nat.le_of_ble_eq_true rfl)) dL_law_457 ⟨Nat.le_of_ble_eq_true rfl, Nat.le_of_ble_eq_true rfl⟩) hS (y_all (wr_D hD) hS hA) (fun H1 locs1 hP1 hD1 hk1 hS1 => ?_)
  replace hP := w_join_r hP hD hk1 (y_all (wr_D hD) hS hA) hP1 hD1
  replace hD := hP.2
  replace hP := hP.1
  replace hS := hS1
  clear hP1 hD1 hk1 hS1
  refine lv_icmp_eq (tgt := 557) hx hb dL_law_460 (by decide) (fun _ => ?_) (fun c9 => absurd rfl c9)
  exact kT _ _ _ _ ls hI1 hP hD hS hl
set_option maxHeartbeats 4000000 in
set_option maxRecDepth 100000 in
theorem law_fit {p : Program} {l : Launch} {e : Env} {s : State} {m : MethodId} {below : List Frame} {meth : Method} {c : Code} {b L : Nat} {xs : Nat → Int32} {G : GT} {t : Nat → Nat} {I : (Nat → Ob) → Ob → Prop} {a : Nat → Nat → Nat} {am : Nat → Nat} (C0 : lw_At p s m meth c b L xs) (hC : Cx G s) (hT1 : T1 t (fun q : Nat => s.heap.size ≤ q) s s.heap) (hT2 : T2 t (fun q : Nat => s.heap.size ≤ q) s s.heap) (hOK : K_fit I) (i : Nat) (x3 : Int32) (ex3 : x3 = nI i) (hi : i + 4 ≤ L) (hL : L ≤ 2048) (kT : ∀ (S : Nat → Ob) (M : Ob) (H : Heap) (locs : List Loc) (ls : Array Slot), I S M → va_P G.1 vwCl (wHM G a S ++ wMod G am M) H → va_D (fun q : Nat => s.heap.size ≤ q) (wHM G a S ++ wMod G am M) → va_S (fun q : Nat => s.heap.size ≤ q) s.heap H locs → lv_has ls 4 [(0, .ref b), (1, .ref (a 0 0)), (2, .ref (am 0)), (3, .int x3)] → W p l e room_1 s m #[Value.ref b] below meth c H locs 51 3269 (lw_Z below #[Value.ref b] s) (F0 m 557 ls [])) (S : Nat → Ob) (M : Ob) (H : Heap) (locs : List Loc) (ls : Array Slot) (hI : I S M) (hP : va_P G.1 vwCl (wHM G a S ++ wMod G am M) H) (hD : va_D (fun q : Nat => s.heap.size ≤ q) (wHM G a S ++ wMod G am M)) (hS : va_S (fun q : Nat => s.heap.size ≤ q) s.heap H locs) (hl : lv_has ls 4 [(0, .ref b), (1, .ref (a 0 0)), (2, .ref (am 0)), (3, .int x3)]) : W p l e room_1 s m #[Value.ref b] below meth c H locs 51 3269 (lw_Z below #[Value.ref b] s) (F0 m 465 ls []) := by
  obtain ⟨hx, hb, hr, hml, hown0, hts0, hX, hbl, hlocks, hgv⟩ := C0
  have hts : ∀ w ∈ wsL_law, w.before #[Value.ref b] s = true := fun w h => hts0 w (wsL_law_in w h)
  have hown : s.vm.findClass RL = some m.cls := hown0
  have hA : ∀ q : Nat, s.heap.size ≤ q → (fun q : Nat => s.heap.size ≤ q) q := fun _ h => h
  have hbA : ¬ (fun q : Nat => s.heap.size ≤ q) b := Nat.not_le.mpr hbl
  have hK := hC.1
  have hi1 : vp_in (x3 + 1) L := by rw [ex3, show nI i + 1 = nI (i + 1) from nI_add i 1]; exact vp_in_nI (by omega) (by omega)
  obtain ⟨r, S1, M1, hs, hm, hI1⟩ := hOK S M (xs (x3 + 1).toNatClampNeg) hI
  refine lv_aload_n hx hb dL_law_465 rfl (lv_at hl 1 rfl) ?_
  refine lv_aload_n hx hb dL_law_466 rfl (lv_at hl 0 rfl) ?_
  refine lv_iload_n hx hb dL_law_467 rfl (lv_at hl 3 rfl) ?_
  refine lv_iconst (v := 1) hx hb dL_law_468 (by decide) ?_
  refine lv_iadd hx hb dL_law_469 ?_
  refine va_sld hx hb hX hbl hbA hS hi1 dL_law_470 ?_
  refine y_rwi (va_runV (As := [.int (xs (x3 + 1).toNatClampNeg)]) (rest := []) ⟨hx, hb, hml, hown, hts⟩ (c_X3_fit l G t a S (xs (x3 + 1).toNatClampNeg) _ r S1 hs) (cwV 1 hts gL_law_X3_fit rfl rfl rfl (by decide +kernel) ⟨Nat.le_of_ble_eq_true rfl, Nat.le_of_ble_eq_true rfl⟩) ⟨PreU.blind, va_recv hK (wl_P hP) (ci := 3) (q0 := 0) rfl rfl, y_preU hC hT1 hT2 hS (y_all (wl_D hD) hS hA) (wl_P hP) (wl_D hD)⟩ rfl rfl hl.1 rfl (lv_room (Nat.le_of_ble_eq_true rfl)) dL_law_471 ⟨Nat.le_of_ble_eq_true rfl, Nat.le_of_ble_eq_true rfl⟩) hS (y_all (wl_D hD) hS hA) (fun H1 locs1 hP1 hD1 hk1 hS1 => ?_)
  replace hP := w_join_l hP hD hk1 (y_all (wl_D hD) hS hA) hP1 hD1
  replace hD := hP.2
  replace hP := hP.1
  replace hS := hS1
  clear hP1 hD1 hk1 hS1
  refine lv_aload_n hx hb dL_law_474 rfl (lv_at hl 2 rfl) ?_
  refine lv_aload_n hx hb dL_law_475 rfl (lv_at hl 0 rfl) ?_
  refine lv_iload_n hx hb dL_law_476 rfl (lv_at hl 3 rfl) ?_
  refine lv_iconst (v := 1) hx hb dL_law_477 (by decide) ?_
  refine lv_iadd hx hb dL_law_478 ?_
  refine va_sld hx hb hX hbl hbA hS hi1 dL_law_479 ?_
  refine y_rwi (va_runV (As := [.int (xs (x3 + 1).toNatClampNeg)]) (rest := [.int r]) ⟨hx, hb, hml, hown, hts⟩ (c_X4_fit l G am M (xs (x3 + 1).toNatClampNeg) _ r M1 hm) (cwV 1 hts gL_law_X4_fit rfl rfl rfl (by decide +kernel) ⟨Nat.le_of_ble_eq_true rfl, Nat.le_of_ble_eq_true rfl⟩) ⟨PreW.blind, va_recv hK (wr_P hP) (ci := 4) (q0 := 0) rfl rfl, y_preW hC (wr_P hP) (wr_D hD)⟩ rfl rfl hl.1 rfl (lv_room (Nat.le_of_ble_eq_true rfl)) dL_law_480 ⟨Nat.le_of_ble_eq_true rfl, Nat.le_of_ble_eq_true rfl⟩) hS (y_all (wr_D hD) hS hA) (fun H1 locs1 hP1 hD1 hk1 hS1 => ?_)
  replace hP := w_join_r hP hD hk1 (y_all (wr_D hD) hS hA) hP1 hD1
  replace hD := hP.2
  replace hP := hP.1
  replace hS := hS1
  clear hP1 hD1 hk1 hS1
  refine lv_icmp_eq (tgt := 557) hx hb dL_law_483 (by decide) (fun _ => ?_) (fun c9 => absurd rfl c9)
  exact kT _ _ _ _ ls hI1 hP hD hS hl
set_option maxHeartbeats 4000000 in
set_option maxRecDepth 100000 in
theorem law_image {p : Program} {l : Launch} {e : Env} {s : State} {m : MethodId} {below : List Frame} {meth : Method} {c : Code} {b L : Nat} {xs : Nat → Int32} {G : GT} {t : Nat → Nat} {I : (Nat → Ob) → Ob → Prop} {a : Nat → Nat → Nat} {am : Nat → Nat} (C0 : lw_At p s m meth c b L xs) (hC : Cx G s) (hT1 : T1 t (fun q : Nat => s.heap.size ≤ q) s s.heap) (hT2 : T2 t (fun q : Nat => s.heap.size ≤ q) s s.heap) (hOK : K_image I) (i : Nat) (x3 : Int32) (ex3 : x3 = nI i) (hi : i + 4 ≤ L) (hL : L ≤ 2048) (kT : ∀ (S : Nat → Ob) (M : Ob) (H : Heap) (locs : List Loc) (ls : Array Slot), I S M → va_P G.1 vwCl (wHM G a S ++ wMod G am M) H → va_D (fun q : Nat => s.heap.size ≤ q) (wHM G a S ++ wMod G am M) → va_S (fun q : Nat => s.heap.size ≤ q) s.heap H locs → lv_has ls 4 [(0, .ref b), (1, .ref (a 0 0)), (2, .ref (am 0)), (3, .int x3)] → W p l e room_1 s m #[Value.ref b] below meth c H locs 51 3269 (lw_Z below #[Value.ref b] s) (F0 m 557 ls [])) (S : Nat → Ob) (M : Ob) (H : Heap) (locs : List Loc) (ls : Array Slot) (hI : I S M) (hP : va_P G.1 vwCl (wHM G a S ++ wMod G am M) H) (hD : va_D (fun q : Nat => s.heap.size ≤ q) (wHM G a S ++ wMod G am M)) (hS : va_S (fun q : Nat => s.heap.size ≤ q) s.heap H locs) (hl : lv_has ls 4 [(0, .ref b), (1, .ref (a 0 0)), (2, .ref (am 0)), (3, .int x3)]) : W p l e room_1 s m #[Value.ref b] below meth c H locs 51 3269 (lw_Z below #[Value.ref b] s) (F0 m 488 ls []) := by
  obtain ⟨hx, hb, hr, hml, hown0, hts0, hX, hbl, hlocks, hgv⟩ := C0
  have hts : ∀ w ∈ wsL_law, w.before #[Value.ref b] s = true := fun w h => hts0 w (wsL_law_in w h)
  have hown : s.vm.findClass RL = some m.cls := hown0
  have hA : ∀ q : Nat, s.heap.size ≤ q → (fun q : Nat => s.heap.size ≤ q) q := fun _ h => h
  have hbA : ¬ (fun q : Nat => s.heap.size ≤ q) b := Nat.not_le.mpr hbl
  have hK := hC.1
  have hi1 : vp_in (x3 + 1) L := by rw [ex3, show nI i + 1 = nI (i + 1) from nI_add i 1]; exact vp_in_nI (by omega) (by omega)
  obtain ⟨r, S1, M1, hs, hm, hI1⟩ := hOK S M (xs (x3 + 1).toNatClampNeg) hI
  refine lv_aload_n hx hb dL_law_488 rfl (lv_at hl 1 rfl) ?_
  refine lv_aload_n hx hb dL_law_489 rfl (lv_at hl 0 rfl) ?_
  refine lv_iload_n hx hb dL_law_490 rfl (lv_at hl 3 rfl) ?_
  refine lv_iconst (v := 1) hx hb dL_law_491 (by decide) ?_
  refine lv_iadd hx hb dL_law_492 ?_
  refine va_sld hx hb hX hbl hbA hS hi1 dL_law_493 ?_
  refine y_rwi (va_runV (As := [.int (xs (x3 + 1).toNatClampNeg)]) (rest := []) ⟨hx, hb, hml, hown, hts⟩ (c_X3_image l G a S (xs (x3 + 1).toNatClampNeg) _ r S1 hs) (cwV 1 hts gL_law_X3_image rfl rfl rfl (by decide +kernel) ⟨Nat.le_of_ble_eq_true rfl, Nat.le_of_ble_eq_true rfl⟩) ⟨PreW.blind, va_recv hK (wl_P hP) (ci := 3) (q0 := 0) rfl rfl, y_preW hC (wl_P hP) (wl_D hD)⟩ rfl rfl hl.1 rfl (lv_room (Nat.le_of_ble_eq_true rfl)) dL_law_494 ⟨Nat.le_of_ble_eq_true rfl, Nat.le_of_ble_eq_true rfl⟩) hS (y_all (wl_D hD) hS hA) (fun H1 locs1 hP1 hD1 hk1 hS1 => ?_)
  replace hP := w_join_l hP hD hk1 (y_all (wl_D hD) hS hA) hP1 hD1
  replace hD := hP.2
  replace hP := hP.1
  replace hS := hS1
  clear hP1 hD1 hk1 hS1
  refine lv_aload_n hx hb dL_law_497 rfl (lv_at hl 2 rfl) ?_
  refine lv_aload_n hx hb dL_law_498 rfl (lv_at hl 0 rfl) ?_
  refine lv_iload_n hx hb dL_law_499 rfl (lv_at hl 3 rfl) ?_
  refine lv_iconst (v := 1) hx hb dL_law_500 (by decide) ?_
  refine lv_iadd hx hb dL_law_501 ?_
  refine va_sld hx hb hX hbl hbA hS hi1 dL_law_502 ?_
  refine y_rwi (va_runV (As := [.int (xs (x3 + 1).toNatClampNeg)]) (rest := [.int r]) ⟨hx, hb, hml, hown, hts⟩ (c_X4_image l G am M (xs (x3 + 1).toNatClampNeg) _ r M1 hm) (cwV 1 hts gL_law_X4_image rfl rfl rfl (by decide +kernel) ⟨Nat.le_of_ble_eq_true rfl, Nat.le_of_ble_eq_true rfl⟩) ⟨PreW.blind, va_recv hK (wr_P hP) (ci := 4) (q0 := 0) rfl rfl, y_preW hC (wr_P hP) (wr_D hD)⟩ rfl rfl hl.1 rfl (lv_room (Nat.le_of_ble_eq_true rfl)) dL_law_503 ⟨Nat.le_of_ble_eq_true rfl, Nat.le_of_ble_eq_true rfl⟩) hS (y_all (wr_D hD) hS hA) (fun H1 locs1 hP1 hD1 hk1 hS1 => ?_)
  replace hP := w_join_r hP hD hk1 (y_all (wr_D hD) hS hA) hP1 hD1
  replace hD := hP.2
  replace hP := hP.1
  replace hS := hS1
  clear hP1 hD1 hk1 hS1
  refine lv_icmp_eq (tgt := 557) hx hb dL_law_506 (by decide) (fun _ => ?_) (fun c9 => absurd rfl c9)
  exact kT _ _ _ _ ls hI1 hP hD hS hl
set_option maxHeartbeats 4000000 in
set_option maxRecDepth 100000 in
theorem law_restore {p : Program} {l : Launch} {e : Env} {s : State} {m : MethodId} {below : List Frame} {meth : Method} {c : Code} {b L : Nat} {xs : Nat → Int32} {G : GT} {t : Nat → Nat} {I : (Nat → Ob) → Ob → Prop} {a : Nat → Nat → Nat} {am : Nat → Nat} (C0 : lw_At p s m meth c b L xs) (hC : Cx G s) (hT1 : T1 t (fun q : Nat => s.heap.size ≤ q) s s.heap) (hT2 : T2 t (fun q : Nat => s.heap.size ≤ q) s s.heap) (hOK : K_restore I) (i : Nat) (x3 : Int32) (ex3 : x3 = nI i) (hi : i + 4 ≤ L) (hL : L ≤ 2048) (kT : ∀ (S : Nat → Ob) (M : Ob) (H : Heap) (locs : List Loc) (ls : Array Slot), I S M → va_P G.1 vwCl (wHM G a S ++ wMod G am M) H → va_D (fun q : Nat => s.heap.size ≤ q) (wHM G a S ++ wMod G am M) → va_S (fun q : Nat => s.heap.size ≤ q) s.heap H locs → lv_has ls 4 [(0, .ref b), (1, .ref (a 0 0)), (2, .ref (am 0)), (3, .int x3)] → W p l e room_1 s m #[Value.ref b] below meth c H locs 51 3269 (lw_Z below #[Value.ref b] s) (F0 m 557 ls [])) (S : Nat → Ob) (M : Ob) (H : Heap) (locs : List Loc) (ls : Array Slot) (hI : I S M) (hP : va_P G.1 vwCl (wHM G a S ++ wMod G am M) H) (hD : va_D (fun q : Nat => s.heap.size ≤ q) (wHM G a S ++ wMod G am M)) (hS : va_S (fun q : Nat => s.heap.size ≤ q) s.heap H locs) (hl : lv_has ls 4 [(0, .ref b), (1, .ref (a 0 0)), (2, .ref (am 0)), (3, .int x3)]) : W p l e room_1 s m #[Value.ref b] below meth c H locs 51 3269 (lw_Z below #[Value.ref b] s) (F0 m 511 ls []) := by
  obtain ⟨hx, hb, hr, hml, hown0, hts0, hX, hbl, hlocks, hgv⟩ := C0
  have hts : ∀ w ∈ wsL_law, w.before #[Value.ref b] s = true := fun w h => hts0 w (wsL_law_in w h)
  have hown : s.vm.findClass RL = some m.cls := hown0
  have hA : ∀ q : Nat, s.heap.size ≤ q → (fun q : Nat => s.heap.size ≤ q) q := fun _ h => h
  have hbA : ¬ (fun q : Nat => s.heap.size ≤ q) b := Nat.not_le.mpr hbl
  have hK := hC.1
  have hi1 : vp_in (x3 + 1) L := by rw [ex3, show nI i + 1 = nI (i + 1) from nI_add i 1]; exact vp_in_nI (by omega) (by omega)
  obtain ⟨r, S1, M1, hs, hm, hI1⟩ := hOK S M (xs (x3 + 1).toNatClampNeg) hI
  refine lv_aload_n hx hb dL_law_511 rfl (lv_at hl 1 rfl) ?_
  refine lv_aload_n hx hb dL_law_512 rfl (lv_at hl 0 rfl) ?_
  refine lv_iload_n hx hb dL_law_513 rfl (lv_at hl 3 rfl) ?_
  refine lv_iconst (v := 1) hx hb dL_law_514 (by decide) ?_
  refine lv_iadd hx hb dL_law_515 ?_
  refine va_sld hx hb hX hbl hbA hS hi1 dL_law_516 ?_
  refine y_rwi (va_runV (As := [.int (xs (x3 + 1).toNatClampNeg)]) (rest := []) ⟨hx, hb, hml, hown, hts⟩ (c_X3_restore l G a S (xs (x3 + 1).toNatClampNeg) _ r S1 hs) (cwV 1 hts gL_law_X3_restore rfl rfl rfl (by decide +kernel) ⟨Nat.le_of_ble_eq_true rfl, Nat.le_of_ble_eq_true rfl⟩) ⟨PreW.blind, va_recv hK (wl_P hP) (ci := 3) (q0 := 0) rfl rfl, y_preW hC (wl_P hP) (wl_D hD)⟩ rfl rfl hl.1 rfl (lv_room (Nat.le_of_ble_eq_true rfl)) dL_law_517 ⟨Nat.le_of_ble_eq_true rfl, Nat.le_of_ble_eq_true rfl⟩) hS (y_all (wl_D hD) hS hA) (fun H1 locs1 hP1 hD1 hk1 hS1 => ?_)
  replace hP := w_join_l hP hD hk1 (y_all (wl_D hD) hS hA) hP1 hD1
  replace hD := hP.2
  replace hP := hP.1
  replace hS := hS1
  clear hP1 hD1 hk1 hS1
  refine lv_aload_n hx hb dL_law_520 rfl (lv_at hl 2 rfl) ?_
  refine lv_aload_n hx hb dL_law_521 rfl (lv_at hl 0 rfl) ?_
  refine lv_iload_n hx hb dL_law_522 rfl (lv_at hl 3 rfl) ?_
  refine lv_iconst (v := 1) hx hb dL_law_523 (by decide) ?_
  refine lv_iadd hx hb dL_law_524 ?_
  refine va_sld hx hb hX hbl hbA hS hi1 dL_law_525 ?_
  refine y_rwi (va_runV (As := [.int (xs (x3 + 1).toNatClampNeg)]) (rest := [.int r]) ⟨hx, hb, hml, hown, hts⟩ (c_X4_restore l G am M (xs (x3 + 1).toNatClampNeg) _ r M1 hm) (cwV 1 hts gL_law_X4_restore rfl rfl rfl (by decide +kernel) ⟨Nat.le_of_ble_eq_true rfl, Nat.le_of_ble_eq_true rfl⟩) ⟨PreW.blind, va_recv hK (wr_P hP) (ci := 4) (q0 := 0) rfl rfl, y_preW hC (wr_P hP) (wr_D hD)⟩ rfl rfl hl.1 rfl (lv_room (Nat.le_of_ble_eq_true rfl)) dL_law_526 ⟨Nat.le_of_ble_eq_true rfl, Nat.le_of_ble_eq_true rfl⟩) hS (y_all (wr_D hD) hS hA) (fun H1 locs1 hP1 hD1 hk1 hS1 => ?_)
  replace hP := w_join_r hP hD hk1 (y_all (wr_D hD) hS hA) hP1 hD1
  replace hD := hP.2
  replace hP := hP.1
  replace hS := hS1
  clear hP1 hD1 hk1 hS1
  refine lv_icmp_eq (tgt := 557) hx hb dL_law_529 (by decide) (fun _ => ?_) (fun c9 => absurd rfl c9)
  exact kT _ _ _ _ ls hI1 hP hD hS hl
set_option maxHeartbeats 4000000 in
set_option maxRecDepth 100000 in
theorem law_count {p : Program} {l : Launch} {e : Env} {s : State} {m : MethodId} {below : List Frame} {meth : Method} {c : Code} {b L : Nat} {xs : Nat → Int32} {G : GT} {t : Nat → Nat} {I : (Nat → Ob) → Ob → Prop} {a : Nat → Nat → Nat} {am : Nat → Nat} (C0 : lw_At p s m meth c b L xs) (hC : Cx G s) (hT1 : T1 t (fun q : Nat => s.heap.size ≤ q) s s.heap) (hT2 : T2 t (fun q : Nat => s.heap.size ≤ q) s s.heap) (hOK : K_count I) (i : Nat) (x3 : Int32) (ex3 : x3 = nI i) (hi : i + 4 ≤ L) (hL : L ≤ 2048) (kT : ∀ (S : Nat → Ob) (M : Ob) (H : Heap) (locs : List Loc) (ls : Array Slot), I S M → va_P G.1 vwCl (wHM G a S ++ wMod G am M) H → va_D (fun q : Nat => s.heap.size ≤ q) (wHM G a S ++ wMod G am M) → va_S (fun q : Nat => s.heap.size ≤ q) s.heap H locs → lv_has ls 4 [(0, .ref b), (1, .ref (a 0 0)), (2, .ref (am 0)), (3, .int x3)] → W p l e room_1 s m #[Value.ref b] below meth c H locs 51 3269 (lw_Z below #[Value.ref b] s) (F0 m 557 ls [])) (S : Nat → Ob) (M : Ob) (H : Heap) (locs : List Loc) (ls : Array Slot) (hI : I S M) (hP : va_P G.1 vwCl (wHM G a S ++ wMod G am M) H) (hD : va_D (fun q : Nat => s.heap.size ≤ q) (wHM G a S ++ wMod G am M)) (hS : va_S (fun q : Nat => s.heap.size ≤ q) s.heap H locs) (hl : lv_has ls 4 [(0, .ref b), (1, .ref (a 0 0)), (2, .ref (am 0)), (3, .int x3)]) : W p l e room_1 s m #[Value.ref b] below meth c H locs 51 3269 (lw_Z below #[Value.ref b] s) (F0 m 534 ls []) := by
  obtain ⟨hx, hb, hr, hml, hown0, hts0, hX, hbl, hlocks, hgv⟩ := C0
  have hts : ∀ w ∈ wsL_law, w.before #[Value.ref b] s = true := fun w h => hts0 w (wsL_law_in w h)
  have hown : s.vm.findClass RL = some m.cls := hown0
  have hA : ∀ q : Nat, s.heap.size ≤ q → (fun q : Nat => s.heap.size ≤ q) q := fun _ h => h
  have hbA : ¬ (fun q : Nat => s.heap.size ≤ q) b := Nat.not_le.mpr hbl
  have hK := hC.1
  have hi1 : vp_in (x3 + 1) L := by rw [ex3, show nI i + 1 = nI (i + 1) from nI_add i 1]; exact vp_in_nI (by omega) (by omega)
  obtain ⟨r, M1, hs, hm, hI1⟩ := hOK S M (xs (x3 + 1).toNatClampNeg) hI
  refine lv_aload_n hx hb dL_law_534 rfl (lv_at hl 1 rfl) ?_
  refine lv_aload_n hx hb dL_law_535 rfl (lv_at hl 0 rfl) ?_
  refine lv_iload_n hx hb dL_law_536 rfl (lv_at hl 3 rfl) ?_
  refine lv_iconst (v := 1) hx hb dL_law_537 (by decide) ?_
  refine lv_iadd hx hb dL_law_538 ?_
  refine va_sld hx hb hX hbl hbA hS hi1 dL_law_539 ?_
  refine y_ro (va_runV (As := [.int (xs (x3 + 1).toNatClampNeg)]) (rest := []) ⟨hx, hb, hml, hown, hts⟩ (c_X3_count l G a S (xs (x3 + 1).toNatClampNeg) r hs) (cwV 1 hts gL_law_X3_count rfl rfl rfl (by decide +kernel) ⟨Nat.le_of_ble_eq_true rfl, Nat.le_of_ble_eq_true rfl⟩) ⟨PreR.blind, va_recv hK (wl_P hP) (ci := 3) (q0 := 0) rfl rfl, y_preR hC (wl_P hP)⟩ rfl rfl hl.1 rfl (lv_room (Nat.le_of_ble_eq_true rfl)) dL_law_540 ⟨Nat.le_of_ble_eq_true rfl, Nat.le_of_ble_eq_true rfl⟩) ?_
  refine lv_aload_n hx hb dL_law_543 rfl (lv_at hl 2 rfl) ?_
  refine lv_aload_n hx hb dL_law_544 rfl (lv_at hl 0 rfl) ?_
  refine lv_iload_n hx hb dL_law_545 rfl (lv_at hl 3 rfl) ?_
  refine lv_iconst (v := 1) hx hb dL_law_546 (by decide) ?_
  refine lv_iadd hx hb dL_law_547 ?_
  refine va_sld hx hb hX hbl hbA hS hi1 dL_law_548 ?_
  refine y_rwi (va_runV (As := [.int (xs (x3 + 1).toNatClampNeg)]) (rest := [.int r]) ⟨hx, hb, hml, hown, hts⟩ (c_X4_count l G am M (xs (x3 + 1).toNatClampNeg) _ r M1 hm) (cwV 1 hts gL_law_X4_count rfl rfl rfl (by decide +kernel) ⟨Nat.le_of_ble_eq_true rfl, Nat.le_of_ble_eq_true rfl⟩) ⟨PreW.blind, va_recv hK (wr_P hP) (ci := 4) (q0 := 0) rfl rfl, y_preW hC (wr_P hP) (wr_D hD)⟩ rfl rfl hl.1 rfl (lv_room (Nat.le_of_ble_eq_true rfl)) dL_law_549 ⟨Nat.le_of_ble_eq_true rfl, Nat.le_of_ble_eq_true rfl⟩) hS (y_all (wr_D hD) hS hA) (fun H1 locs1 hP1 hD1 hk1 hS1 => ?_)
  replace hP := w_join_r hP hD hk1 (y_all (wr_D hD) hS hA) hP1 hD1
  replace hD := hP.2
  replace hP := hP.1
  replace hS := hS1
  clear hP1 hD1 hk1 hS1
  refine lv_icmp_eq (tgt := 557) hx hb dL_law_552 (by decide) (fun _ => ?_) (fun c9 => absurd rfl c9)
  exact kT _ _ _ _ ls hI1 hP hD hS hl
set_option maxHeartbeats 4000000 in
set_option maxRecDepth 100000 in
theorem law_loop {p : Program} {l : Launch} {e : Env} {s : State} {m : MethodId} {below : List Frame} {meth : Method} {c : Code} {b L : Nat} {xs : Nat → Int32} {G : GT} {t : Nat → Nat} {I : (Nat → Ob) → Ob → Prop} {a : Nat → Nat → Nat} {am : Nat → Nat} (C0 : lw_At p s m meth c b L xs) (hC : Cx G s) (hT1 : T1 t (fun q : Nat => s.heap.size ≤ q) s s.heap) (hT2 : T2 t (fun q : Nat => s.heap.size ≤ q) s s.heap) (hOK : LawOK I) (hL : L ≤ 2048) : ∀ (n i : Nat) (x3 : Int32), x3 = nI i → i ≤ L → L + 1 ≤ i + n → ∀ (S : Nat → Ob) (M : Ob) (H : Heap) (locs : List Loc) (ls : Array Slot), I S M → va_P G.1 vwCl (wHM G a S ++ wMod G am M) H → va_D (fun q : Nat => s.heap.size ≤ q) (wHM G a S ++ wMod G am M) → va_S (fun q : Nat => s.heap.size ≤ q) s.heap H locs → lv_has ls 4 [(0, .ref b), (1, .ref (a 0 0)), (2, .ref (am 0)), (3, .int x3)] → W p l e room_1 s m #[Value.ref b] below meth c H locs 51 3269 (lw_Z below #[Value.ref b] s) (F0 m 18 ls []) := by
  have C1 := C0
  obtain ⟨hx, hb, hr, hml, hown0, hts0, hX, hbl, hlocks, hgv⟩ := C0
  have hbA : ¬ (fun q : Nat => s.heap.size ≤ q) b := Nat.not_le.mpr hbl
  intro n
  induction n with
  | zero => intro i x3 ex3 h1 h2; exact absurd h2 (by omega)
  | succ n ih =>
    intro i x3 ex3 hi hin S M H locs ls hI hP hD hS hl
    have kT : i + 4 ≤ L → ∀ (S : Nat → Ob) (M : Ob) (H : Heap) (locs : List Loc) (ls : Array Slot), I S M → va_P G.1 vwCl (wHM G a S ++ wMod G am M) H → va_D (fun q : Nat => s.heap.size ≤ q) (wHM G a S ++ wMod G am M) → va_S (fun q : Nat => s.heap.size ≤ q) s.heap H locs → lv_has ls 4 [(0, .ref b), (1, .ref (a 0 0)), (2, .ref (am 0)), (3, .int x3)] → W p l e room_1 s m #[Value.ref b] below meth c H locs 51 3269 (lw_Z below #[Value.ref b] s) (F0 m 557 ls []) := by
      intro h4 S M H locs ls hI hP hD hS hl
      refine lv_iinc (v := (x3 + 4)) (lv' := [(3, .int (x3 + 4)), (0, .ref b), (1, .ref (a 0 0)), (2, .ref (am 0))]) hx hb dL_law_557 hl (k := 3) rfl rfl (by decide) rfl (fun ls hl => ?_)
      refine lv_goto (tgt := 18) hx hb dL_law_560 (by decide) ?_
      exact ih (i + 4) (x3 + 4) (by rw [ex3]; exact nI_add i 4) h4 (by omega) S M H locs ls hI hP hD hS (lv_sub hl [1, 2, 3, 0] rfl)
    refine lv_iload_n hx hb dL_law_18 rfl (lv_at hl 3 rfl) ?_
    refine lv_aload_n hx hb dL_law_19 rfl (lv_at hl 0 rfl) ?_
    refine va_slen hx hb hX hbl hbA hS dL_law_20 ?_
    refine lv_iconst (v := 4) hx hb dL_law_21 (by decide) ?_
    refine lv_isub hx hb dL_law_22 ?_
    refine lv_icmp_gt (tgt := 563) hx hb dL_law_23 (by decide) (fun c_1 => ?_) (fun c_1 => ?_)
    · refine lv_iconst (v := 1) hx hb dL_law_563 (by decide) ?_
      refine va_forget (fun q hq => hS.2.2 q hq) ?_
      refine W.widen (k := 600000) (n := 7302250) (Nat.le_of_ble_eq_true rfl) (Nat.le_of_ble_eq_true rfl) ?_
      exact lw_ret hx hb hr hlocks dL_law_564
    · have h4 : i + 4 ≤ L := by
        rcases Nat.lt_or_ge L (i + 4) with q | q
        · exfalso
          refine c_1 ?_
          rw [Int32.lt_iff_toInt_lt, ex3, nI_toInt (by omega)]
          have e4 := pk_sub_toInt (a := L) (b := 4) (by omega) (by omega)
          have e5 : (Int32.ofNat L - 4).toInt = (L : Int) - 4 := e4
          rw [e5]
          omega
        · exact q
      have hin0 : vp_in x3 L := by rw [ex3]; exact vp_in_nI (by omega) (by omega)
      refine lv_aload_n hx hb dL_law_26 rfl (lv_at hl 0 rfl) ?_
      refine lv_iload_n hx hb dL_law_27 rfl (lv_at hl 3 rfl) ?_
      refine va_sld hx hb hX hbl hbA hS hin0 dL_law_28 ?_
      refine lv_bipush (v := 31) hx hb dL_law_29 (by decide) ?_
      refine lv_iand hx hb dL_law_31 ?_
      refine lv_topi (fun z ez => ?_)
      by_cases hz0 : z = 0
      · refine lv_tableIn (tgt := 116) hx hb dL_law_32 (by rw [hz0]; decide) (by rw [hz0]; decide) (off := 84) (by rw [hz0]; rfl) (by decide) ?_
        exact law_say C1 hC hT1 hT2 (hOK.2.1) i x3 ex3 h4 hL (kT h4) S M H locs ls hI hP hD hS hl
      by_cases hz1 : z = 1
      · refine lv_tableIn (tgt := 139) hx hb dL_law_32 (by rw [hz1]; decide) (by rw [hz1]; decide) (off := 107) (by rw [hz1]; rfl) (by decide) ?_
        exact law_wipe C1 hC hT1 hT2 (hOK.2.2.1) i x3 ex3 h4 hL (kT h4) S M H locs ls hI hP hD hS hl
      by_cases hz2 : z = 2
      · refine lv_tableIn (tgt := 152) hx hb dL_law_32 (by rw [hz2]; decide) (by rw [hz2]; decide) (off := 120) (by rw [hz2]; rfl) (by decide) ?_
        exact law_fault C1 hC hT1 hT2 (hOK.2.2.2.1) i x3 ex3 h4 hL (kT h4) S M H locs ls hI hP hD hS hl
      by_cases hz3 : z = 3
      · refine lv_tableIn (tgt := 165) hx hb dL_law_32 (by rw [hz3]; decide) (by rw [hz3]; decide) (off := 133) (by rw [hz3]; rfl) (by decide) ?_
        exact law_read C1 hC hT1 hT2 (hOK.2.2.2.2.1) i x3 ex3 h4 hL (kT h4) S M H locs ls hI hP hD hS hl
      by_cases hz4 : z = 4
      · refine lv_tableIn (tgt := 178) hx hb dL_law_32 (by rw [hz4]; decide) (by rw [hz4]; decide) (off := 146) (by rw [hz4]; rfl) (by decide) ?_
        exact law_rule C1 hC hT1 hT2 (hOK.2.2.2.2.2.1) i x3 ex3 h4 hL (kT h4) S M H locs ls hI hP hD hS hl
      by_cases hz5 : z = 5
      · refine lv_tableIn (tgt := 211) hx hb dL_law_32 (by rw [hz5]; decide) (by rw [hz5]; decide) (off := 179) (by rw [hz5]; rfl) (by decide) ?_
        exact law_cut C1 hC hT1 hT2 (hOK.2.2.2.2.2.2.1) i x3 ex3 h4 hL (kT h4) S M H locs ls hI hP hD hS hl
      by_cases hz6 : z = 6
      · refine lv_tableIn (tgt := 244) hx hb dL_law_32 (by rw [hz6]; decide) (by rw [hz6]; decide) (off := 212) (by rw [hz6]; rfl) (by decide) ?_
        exact law_line C1 hC hT1 hT2 (hOK.2.2.2.2.2.2.2.1) i x3 ex3 h4 hL (kT h4) S M H locs ls hI hP hD hS hl
      by_cases hz7 : z = 7
      · refine lv_tableIn (tgt := 277) hx hb dL_law_32 (by rw [hz7]; decide) (by rw [hz7]; decide) (off := 245) (by rw [hz7]; rfl) (by decide) ?_
        exact law_page C1 hC hT1 hT2 (hOK.2.2.2.2.2.2.2.2.1) i x3 ex3 h4 hL (kT h4) S M H locs ls hI hP hD hS hl
      by_cases hz8 : z = 8
      · refine lv_tableIn (tgt := 310) hx hb dL_law_32 (by rw [hz8]; decide) (by rw [hz8]; decide) (off := 278) (by rw [hz8]; rfl) (by decide) ?_
        exact law_mark C1 hC hT1 hT2 (hOK.2.2.2.2.2.2.2.2.2.1) i x3 ex3 h4 hL (kT h4) S M H locs ls hI hP hD hS hl
      by_cases hz9 : z = 9
      · refine lv_tableIn (tgt := 353) hx hb dL_law_32 (by rw [hz9]; decide) (by rw [hz9]; decide) (off := 321) (by rw [hz9]; rfl) (by decide) ?_
        exact law_headed C1 hC hT1 hT2 (hOK.2.2.2.2.2.2.2.2.2.2.1) i x3 ex3 h4 hL (kT h4) S M H locs ls hI hP hD hS hl
      by_cases hz10 : z = 10
      · refine lv_tableIn (tgt := 386) hx hb dL_law_32 (by rw [hz10]; decide) (by rw [hz10]; decide) (off := 354) (by rw [hz10]; rfl) (by decide) ?_
        exact law_chapter C1 hC hT1 hT2 (hOK.2.2.2.2.2.2.2.2.2.2.2.1) i x3 ex3 h4 hL (kT h4) S M H locs ls hI hP hD hS hl
      by_cases hz11 : z = 11
      · refine lv_tableIn (tgt := 419) hx hb dL_law_32 (by rw [hz11]; decide) (by rw [hz11]; decide) (off := 387) (by rw [hz11]; rfl) (by decide) ?_
        exact law_changed C1 hC hT1 hT2 (hOK.2.2.2.2.2.2.2.2.2.2.2.2.1) i x3 ex3 h4 hL (kT h4) S M H locs ls hI hP hD hS hl
      by_cases hz12 : z = 12
      · refine lv_tableIn (tgt := 442) hx hb dL_law_32 (by rw [hz12]; decide) (by rw [hz12]; decide) (off := 410) (by rw [hz12]; rfl) (by decide) ?_
        exact law_worst C1 hC hT1 hT2 (hOK.2.2.2.2.2.2.2.2.2.2.2.2.2.1) i x3 ex3 h4 hL (kT h4) S M H locs ls hI hP hD hS hl
      by_cases hz13 : z = 13
      · refine lv_tableIn (tgt := 465) hx hb dL_law_32 (by rw [hz13]; decide) (by rw [hz13]; decide) (off := 433) (by rw [hz13]; rfl) (by decide) ?_
        exact law_fit C1 hC hT1 hT2 (hOK.2.2.2.2.2.2.2.2.2.2.2.2.2.2.1) i x3 ex3 h4 hL (kT h4) S M H locs ls hI hP hD hS hl
      by_cases hz14 : z = 14
      · refine lv_tableIn (tgt := 488) hx hb dL_law_32 (by rw [hz14]; decide) (by rw [hz14]; decide) (off := 456) (by rw [hz14]; rfl) (by decide) ?_
        exact law_image C1 hC hT1 hT2 (hOK.2.2.2.2.2.2.2.2.2.2.2.2.2.2.2.1) i x3 ex3 h4 hL (kT h4) S M H locs ls hI hP hD hS hl
      by_cases hz15 : z = 15
      · refine lv_tableIn (tgt := 511) hx hb dL_law_32 (by rw [hz15]; decide) (by rw [hz15]; decide) (off := 479) (by rw [hz15]; rfl) (by decide) ?_
        exact law_restore C1 hC hT1 hT2 (hOK.2.2.2.2.2.2.2.2.2.2.2.2.2.2.2.2.1) i x3 ex3 h4 hL (kT h4) S M H locs ls hI hP hD hS hl
      by_cases hz16 : z = 16
      · refine lv_tableIn (tgt := 534) hx hb dL_law_32 (by rw [hz16]; decide) (by rw [hz16]; decide) (off := 502) (by rw [hz16]; rfl) (by decide) ?_
        exact law_count C1 hC hT1 hT2 (hOK.2.2.2.2.2.2.2.2.2.2.2.2.2.2.2.2.2) i x3 ex3 h4 hL (kT h4) S M H locs ls hI hP hD hS hl
      refine lv_tableOut (tgt := 557) hx hb dL_law_32 (tb_out (n := 17) (by decide) (fun k hk => by rcases (show k = 0 ∨ k = 1 ∨ k = 2 ∨ k = 3 ∨ k = 4 ∨ k = 5 ∨ k = 6 ∨ k = 7 ∨ k = 8 ∨ k = 9 ∨ k = 10 ∨ k = 11 ∨ k = 12 ∨ k = 13 ∨ k = 14 ∨ k = 15 ∨ k = 16 by omega) with rfl | rfl | rfl | rfl | rfl | rfl | rfl | rfl | rfl | rfl | rfl | rfl | rfl | rfl | rfl | rfl | rfl <;> first | exact hz0 | exact hz1 | exact hz2 | exact hz3 | exact hz4 | exact hz5 | exact hz6 | exact hz7 | exact hz8 | exact hz9 | exact hz10 | exact hz11 | exact hz12 | exact hz13 | exact hz14 | exact hz15 | exact hz16) (by decide)) (by decide) ?_
      exact kT h4 S M H locs ls hI hP hD hS hl
