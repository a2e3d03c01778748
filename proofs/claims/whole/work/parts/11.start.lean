theorem st_small {args : Array Value} {s : State} {tm : Term} {v : Value} {a : Nat} {cell : Cell} (hv : (Term.length tm).eval args s none [] s = some v) (ht : tm.eval args s none [] s = some (.ref a)) (harr : s.arrayAt? a = some cell) : cell.slots.size < 2 ^ 31 := by
  simp only [Term.eval, ht, harr, Option.bind_eq_bind, Option.bind_some] at hv
  by_cases hlt : cell.slots.size < 2147483648
  · exact hlt
  · simp [hlt] at hv
theorem st_el0 {s : State} {b : Nat} (hs : ∀ w ∈ flatC (Jvm.Cond.and given_1 narrow_1), w.before #[Value.ref b] s = true) : ∀ j : Nat, j < 9 → (Term.elem (Term.static "HeadMarks" "RULE_AT_FIRST" "[I") (.int (Int32.ofNat j))).eval #[Value.ref b] s none [] s = some (.int (tFirst j)) := by
  intro j hj
  match j, hj with
  | 0, _ => exact va_eqt (hs (Cond.eq (Term.elem (Term.static "HeadMarks" "RULE_AT_FIRST" "[I") (Term.int 0)) (Term.int 5)) (by decide +kernel))
  | 1, _ => exact va_eqt (hs (Cond.eq (Term.elem (Term.static "HeadMarks" "RULE_AT_FIRST" "[I") (Term.int 1)) (Term.int 0)) (by decide +kernel))
  | 2, _ => exact va_eqt (hs (Cond.eq (Term.elem (Term.static "HeadMarks" "RULE_AT_FIRST" "[I") (Term.int 2)) (Term.int 1)) (by decide +kernel))
  | 3, _ => exact va_eqt (hs (Cond.eq (Term.elem (Term.static "HeadMarks" "RULE_AT_FIRST" "[I") (Term.int 3)) (Term.int 1)) (by decide +kernel))
  | 4, _ => exact va_eqt (hs (Cond.eq (Term.elem (Term.static "HeadMarks" "RULE_AT_FIRST" "[I") (Term.int 4)) (Term.int 0)) (by decide +kernel))
  | 5, _ => exact va_eqt (hs (Cond.eq (Term.elem (Term.static "HeadMarks" "RULE_AT_FIRST" "[I") (Term.int 5)) (Term.int 0)) (by decide +kernel))
  | 6, _ => exact va_eqt (hs (Cond.eq (Term.elem (Term.static "HeadMarks" "RULE_AT_FIRST" "[I") (Term.int 6)) (Term.int 1)) (by decide +kernel))
  | 7, _ => exact va_eqt (hs (Cond.eq (Term.elem (Term.static "HeadMarks" "RULE_AT_FIRST" "[I") (Term.int 7)) (Term.int 1)) (by decide +kernel))
  | 8, _ => exact va_eqt (hs (Cond.eq (Term.elem (Term.static "HeadMarks" "RULE_AT_FIRST" "[I") (Term.int 8)) (Term.int 2)) (by decide +kernel))
  | k + 9, h => exact absurd h (by omega)
theorem st_el1 {s : State} {b : Nat} (hs : ∀ w ∈ flatC (Jvm.Cond.and given_1 narrow_1), w.before #[Value.ref b] s = true) : ∀ j : Nat, j < 9 → (Term.elem (Term.static "HeadMarks" "RULE_LEAST" "[I") (.int (Int32.ofNat j))).eval #[Value.ref b] s none [] s = some (.int (tLeast j)) := by
  intro j hj
  match j, hj with
  | 0, _ => exact va_eqt (hs (Cond.eq (Term.elem (Term.static "HeadMarks" "RULE_LEAST" "[I") (Term.int 0)) (Term.int 2)) (by decide +kernel))
  | 1, _ => exact va_eqt (hs (Cond.eq (Term.elem (Term.static "HeadMarks" "RULE_LEAST" "[I") (Term.int 1)) (Term.int 0)) (by decide +kernel))
  | 2, _ => exact va_eqt (hs (Cond.eq (Term.elem (Term.static "HeadMarks" "RULE_LEAST" "[I") (Term.int 2)) (Term.int 0)) (by decide +kernel))
  | 3, _ => exact va_eqt (hs (Cond.eq (Term.elem (Term.static "HeadMarks" "RULE_LEAST" "[I") (Term.int 3)) (Term.int 0)) (by decide +kernel))
  | 4, _ => exact va_eqt (hs (Cond.eq (Term.elem (Term.static "HeadMarks" "RULE_LEAST" "[I") (Term.int 4)) (Term.int 0)) (by decide +kernel))
  | 5, _ => exact va_eqt (hs (Cond.eq (Term.elem (Term.static "HeadMarks" "RULE_LEAST" "[I") (Term.int 5)) (Term.int 0)) (by decide +kernel))
  | 6, _ => exact va_eqt (hs (Cond.eq (Term.elem (Term.static "HeadMarks" "RULE_LEAST" "[I") (Term.int 6)) (Term.int 0)) (by decide +kernel))
  | 7, _ => exact va_eqt (hs (Cond.eq (Term.elem (Term.static "HeadMarks" "RULE_LEAST" "[I") (Term.int 7)) (Term.int 0)) (by decide +kernel))
  | 8, _ => exact va_eqt (hs (Cond.eq (Term.elem (Term.static "HeadMarks" "RULE_LEAST" "[I") (Term.int 8)) (Term.int 0)) (by decide +kernel))
  | k + 9, h => exact absurd h (by omega)
theorem st_el2 {s : State} {b : Nat} (hs : ∀ w ∈ flatC (Jvm.Cond.and given_1 narrow_1), w.before #[Value.ref b] s = true) : ∀ j : Nat, j < 9 → (Term.elem (Term.static "HeadMarks" "RULE_MOST" "[I") (.int (Int32.ofNat j))).eval #[Value.ref b] s none [] s = some (.int (tMost j)) := by
  intro j hj
  match j, hj with
  | 0, _ => exact va_eqt (hs (Cond.eq (Term.elem (Term.static "HeadMarks" "RULE_MOST" "[I") (Term.int 0)) (Term.int 9)) (by decide +kernel))
  | 1, _ => exact va_eqt (hs (Cond.eq (Term.elem (Term.static "HeadMarks" "RULE_MOST" "[I") (Term.int 1)) (Term.int 2)) (by decide +kernel))
  | 2, _ => exact va_eqt (hs (Cond.eq (Term.elem (Term.static "HeadMarks" "RULE_MOST" "[I") (Term.int 2)) (Term.int 2)) (by decide +kernel))
  | 3, _ => exact va_eqt (hs (Cond.eq (Term.elem (Term.static "HeadMarks" "RULE_MOST" "[I") (Term.int 3)) (Term.int 1)) (by decide +kernel))
  | 4, _ => exact va_eqt (hs (Cond.eq (Term.elem (Term.static "HeadMarks" "RULE_MOST" "[I") (Term.int 4)) (Term.int 1)) (by decide +kernel))
  | 5, _ => exact va_eqt (hs (Cond.eq (Term.elem (Term.static "HeadMarks" "RULE_MOST" "[I") (Term.int 5)) (Term.int 1)) (by decide +kernel))
  | 6, _ => exact va_eqt (hs (Cond.eq (Term.elem (Term.static "HeadMarks" "RULE_MOST" "[I") (Term.int 6)) (Term.int 1)) (by decide +kernel))
  | 7, _ => exact va_eqt (hs (Cond.eq (Term.elem (Term.static "HeadMarks" "RULE_MOST" "[I") (Term.int 7)) (Term.int 2)) (by decide +kernel))
  | 8, _ => exact va_eqt (hs (Cond.eq (Term.elem (Term.static "HeadMarks" "RULE_MOST" "[I") (Term.int 8)) (Term.int 2)) (by decide +kernel))
  | k + 9, h => exact absurd h (by omega)
theorem st_T0 {s : State} {b : Nat} {G : GT} (hK : va_K G.1 vwCl (tysG G) s) (hs : ∀ w ∈ flatC (Jvm.Cond.and given_1 narrow_1), w.before #[Value.ref b] s = true) (hl : (Cond.laysStatic "HeadMarks" "RULE_AT_FIRST" "[I").before #[Value.ref b] s = true) (hini : (Cond.initialized "HeadMarks").before #[Value.ref b] s = true) : ∃ t0 : Nat, ∀ t : Nat → Nat, t 0 = t0 → T0 G t (fun q : Nat => s.heap.size ≤ q) s s.heap := by
  have hlen := va_eqt (hs (Cond.eq (Term.length (Term.static "HeadMarks" "RULE_AT_FIRST" "[I")) (Term.int 9)) (by decide +kernel))
  obtain ⟨a, c, cell, k, h1, h2, h3, h4, h5, h6, -⟩ := Cond.exactly_spec (hs (Cond.exactly (Term.static "HeadMarks" "RULE_AT_FIRST" "[I") "[I") (by decide +kernel))
  obtain ⟨a', cell', g1, g2, g3⟩ := Term.length_spec hlen
  cases h1.symm.trans g1
  obtain ⟨g4, g5, g6, -⟩ := State.arrayAt?_spec g2
  cases h3.symm.trans g4
  have hsz : cell.slots.size < 2 ^ 31 := st_small hlen g1 g2
  have hn : cell.slots.size = 9 := by
    have e := Value.int.inj g3
    have e2 : nI 9 = nI cell.slots.size := e
    exact ((nI_eq (by decide) hsz).mp e2).symm
  have hel := st_el0 hs
  have key : ∀ j : Nat, j < 9 → cell.slots[j]? = some (.int (tFirst j)) := by
    intro j hj
    obtain ⟨a2, i, cell2, q1, q2, q3, q4, q5⟩ := Term.elem_spec (hel j hj)
    cases g1.symm.trans q1
    cases g2.symm.trans q3
    have hi : i = Int32.ofNat j := by
      have e : (Term.int (Int32.ofNat j)).eval #[Value.ref b] s none [] s = some (.int (Int32.ofNat j)) := rfl
      cases q2.symm.trans e
      rfl
    have hc : i.toNatClampNeg = j := by rw [hi]; exact Int32.toNatClampNeg_ofNat_of_lt (by omega)
    rw [hc] at q5
    exact q5
  refine ⟨a, fun t ht => ?_⟩
  have hcls : cell.cls = G.2 0 := by
    rw [h6]
    have e : s.vm.findClass "[I" = some (G.2 0) := (hK.2 0 _ rfl).2
    exact Option.some.inj (h2.symm.trans e)
  have hlt : a < s.heap.size := (Array.getElem?_eq_some_iff.mp h3).1
  refine ⟨va_Zref hl hini (by rw [ht]; exact g1) (fun x hx h => by omega), cell, by rw [ht]; exact h3, (fun kk hk => by rw [hk] at h5; cases h5), g5, hcls, ?_, by rw [ht]; exact fun h => absurd hlt (Nat.not_lt.mpr h)⟩
  refine Array.ext_getElem? (fun j => ?_)
  by_cases hj : j < 9
  · rw [key j hj, arrV_read _ _ hj]
  · rw [Array.getElem?_eq_none (by omega), Array.getElem?_eq_none (by rw [arrV_size]; omega)]
theorem st_T1 {s : State} {b : Nat} (hs : ∀ w ∈ flatC (Jvm.Cond.and given_1 narrow_1), w.before #[Value.ref b] s = true) (hl : (Cond.laysStatic "HeadMarks" "RULE_LEAST" "[I").before #[Value.ref b] s = true) (hini : (Cond.initialized "HeadMarks").before #[Value.ref b] s = true) : ∃ t0 : Nat, ∀ t : Nat → Nat, t 1 = t0 → T1 t (fun q : Nat => s.heap.size ≤ q) s s.heap := by
  obtain ⟨t0, h1, h2⟩ := va_Tof (A := (fun q : Nat => s.heap.size ≤ q)) (ty := .int) (N := 9) (f := fun j => .int (tLeast j)) (by decide) (hs (Cond.arrayOf (Term.static "HeadMarks" "RULE_LEAST" "[I") .int) (by decide +kernel)) (va_eqt (hs (Cond.eq (Term.length (Term.static "HeadMarks" "RULE_LEAST" "[I")) (Term.int 9)) (by decide +kernel))) (st_el1 hs) (fun a h1 h2 => by omega)
  exact ⟨t0, fun t ht => ⟨va_Zref hl hini (by rw [ht]; exact h1) (fun a h1 h2 => by omega), by rw [ht]; exact h2⟩⟩
theorem st_T2 {s : State} {b : Nat} (hs : ∀ w ∈ flatC (Jvm.Cond.and given_1 narrow_1), w.before #[Value.ref b] s = true) (hl : (Cond.laysStatic "HeadMarks" "RULE_MOST" "[I").before #[Value.ref b] s = true) (hini : (Cond.initialized "HeadMarks").before #[Value.ref b] s = true) : ∃ t0 : Nat, ∀ t : Nat → Nat, t 2 = t0 → T2 t (fun q : Nat => s.heap.size ≤ q) s s.heap := by
  obtain ⟨t0, h1, h2⟩ := va_Tof (A := (fun q : Nat => s.heap.size ≤ q)) (ty := .int) (N := 9) (f := fun j => .int (tMost j)) (by decide) (hs (Cond.arrayOf (Term.static "HeadMarks" "RULE_MOST" "[I") .int) (by decide +kernel)) (va_eqt (hs (Cond.eq (Term.length (Term.static "HeadMarks" "RULE_MOST" "[I")) (Term.int 9)) (by decide +kernel))) (st_el2 hs) (fun a h1 h2 => by omega)
  exact ⟨t0, fun t ht => ⟨va_Zref hl hini (by rw [ht]; exact h1) (fun a h1 h2 => by omega), by rw [ht]; exact h2⟩⟩
set_option maxHeartbeats 8000000 in
set_option maxRecDepth 100000 in
/-- the classes, the array classes, and what is taken as given besides the words -/
theorem st_ctx {s : State} {b : Nat} (hts : ∀ w ∈ lw_tbl, w.before #[Value.ref b] s = true) : ∃ G : GT, Cx G s ∧ Ny s := by
  obtain ⟨c0, i0, k0⟩ := u_known (C := RX0) (T := TX0) (N := 4) (n := 4) hts inX0 (hts (.instantiable RX0 4) (by decide +kernel))
  obtain ⟨c1, i1, k1⟩ := u_known (C := RX1) (T := TX1) (N := 9) (n := 9) hts inX1 (hts (.instantiable RX1 9) (by decide +kernel))
  obtain ⟨c2, i2, k2⟩ := u_known (C := RX2) (T := TX2) (N := 2) (n := 2) hts inX2 (hts (.instantiable RX2 2) (by decide +kernel))
  obtain ⟨c3, i3, k3⟩ := u_known (C := RX3) (T := TX3) (N := 6) (n := 6) hts inX3 (hts (.instantiable RX3 6) (by decide +kernel))
  obtain ⟨c4, i4, k4⟩ := u_known (C := RX4) (T := TX4) (N := 12) (n := 12) hts inX4 (hts (.instantiable RX4 12) (by decide +kernel))
  obtain ⟨a0, ka0, cp0, e0, f0, g0⟩ := Cond.arrayClass_spec (hts (.arrayClass .int) (by decide +kernel))
  obtain ⟨a1, ka1, cp1, e1, f1, g1⟩ := Cond.arrayClass_spec (hts (.arrayClass .boolean) (by decide +kernel))
  have w2 := hts (.arrayOver (.object "HeadMarks$Book")) (by decide +kernel)
  have w3 := hts (.arrayOver (.array .int)) (by decide +kernel)
  obtain ⟨cp2, a2, ka2, d2, -, f2, g2, e2⟩ := Cond.arrayOver_spec w2
  obtain ⟨cp3, a3, ka3, d3, -, f3, g3, e3⟩ := Jvm.Stand.arrayOver_specB w3
  refine ⟨((fun k => if k = 0 then c0 else if k = 1 then c1 else if k = 2 then c2 else if k = 3 then c3 else c4, fun k => if k = 0 then i0 else if k = 1 then i1 else if k = 2 then i2 else if k = 3 then i3 else i4), fun k => if k = 0 then a0 else if k = 1 then a1 else if k = 2 then a2 else a3), ⟨⟨?_, ?_⟩, ?_⟩, ?_⟩
  · intro k q hq
    match k, hq with
    | 0, hq => cases hq; exact k0
    | 1, hq => cases hq; exact k1
    | 2, hq => cases hq; exact k2
    | 3, hq => cases hq; exact k3
    | 4, hq => cases hq; exact k4
    | k + 5, hq => simp [vwCl] at hq
  · intro k q hq
    match k, hq with
    | 0, hq => cases hq; exact ⟨fun n z => ⟨(fun q hq => by cases hq), ka0, f0, cp0, g0⟩, e0⟩
    | 1, hq => cases hq; exact ⟨fun n z => ⟨(fun q hq => by cases hq), ka1, f1, cp1, g1⟩, e1⟩
    | 2, hq => cases hq; exact ⟨fun n z => ⟨(fun q hq => by cases hq), ka2, f2, cp2, g2⟩, ⟨ka2, cp2, f2, g2, d2, e2⟩⟩
    | 3, hq => cases hq; exact ⟨fun n z => ⟨(fun q hq => by cases hq), ka3, f3, cp3, g3⟩, e3⟩
    | k + 4, hq => simp [tysG] at hq
  · exact ⟨va_Nw.of rfl (hts (.methodLinkNest RX2 19 yX3_classOf RX3) (by decide +kernel)), va_Nw.of rfl (hts (.methodLinkNest RX1 66 yX3_classOf RX3) (by decide +kernel)), va_Nw.of rfl (hts (.methodLinkNest RX0 51 yX3_classOf RX3) (by decide +kernel)), va_Nw.of rfl (hts (.fieldLinkNest RX0 45 "HeadMarks" "RULE_LEAST" "[I" "HeadMarks") (by decide +kernel)), va_Nw.of rfl (hts (.fieldLinkNest RX0 48 "HeadMarks" "RULE_MOST" "[I" "HeadMarks") (by decide +kernel))⟩
  · exact ⟨va_Nw.of rfl (hts (.methodLinkNest RX3 11 yX2_init RX3) (by decide +kernel)), va_Nw.of rfl (hts (.methodLinkNest RX3 18 yX0_init RX3) (by decide +kernel)), va_Nw.of rfl (hts (.methodLinkNest RX3 33 yX1_init RX3) (by decide +kernel)), va_Nw.of rfl (hts (.fieldLinkNest RX0 18 "HeadMarks" "RULE_AT_FIRST" "[I" "HeadMarks") (by decide +kernel)), va_Nw.of rfl (hts (.castable "[I" "java/lang/Cloneable") (by decide +kernel)), va_AO.of w2, va_AOA.of w3⟩
set_option maxHeartbeats 8000000 in
set_option maxRecDepth 100000 in
/-- THE LAW, from its entry, over what is asked of each call -/
theorem law_enter {p : Program} {e : Env} {s : State} {m : MethodId} {below : List Frame} {meth : Method} {c : Code} (l : Launch) {b L : Nat} {xs : Nat → Int32} (hL : L ≤ 2048) (C0 : lw_At p s m meth c b L xs) {I : (Nat → Ob) → Ob → Prop} (hOK : LawOK I) : W p l e room_1 s m #[Value.ref b] below meth c s.heap [] 0 0 (lw_Z below #[Value.ref b] s) (entryFrame m ([Value.ref b] : List Value).toArray 4) := by
  have C1 := C0
  obtain ⟨hx, hb, hr, hml, hown0, hts0, hX, hbl, hlocks, hgv⟩ := C0
  obtain ⟨G, hC, hN⟩ := st_ctx hts0
  have hs := flat_of_before _ hgv
  have hini := hts0 (.initialized "HeadMarks") (by decide +kernel)
  obtain ⟨t0, hT0⟩ := st_T0 hC.1 hs (hts0 (.laysStatic "HeadMarks" "RULE_AT_FIRST" "[I") (by decide +kernel)) hini
  obtain ⟨t1, hT1⟩ := st_T1 hs (hts0 (.laysStatic "HeadMarks" "RULE_LEAST" "[I") (by decide +kernel)) hini
  obtain ⟨t2, hT2⟩ := st_T2 hs (hts0 (.laysStatic "HeadMarks" "RULE_MOST" "[I") (by decide +kernel)) hini
  replace hT0 := hT0 (fun k => if k = 0 then t0 else if k = 1 then t1 else t2) rfl
  replace hT1 := hT1 (fun k => if k = 0 then t0 else if k = 1 then t1 else t2) rfl
  replace hT2 := hT2 (fun k => if k = 0 then t0 else if k = 1 then t1 else t2) rfl
  generalize (fun k => if k = 0 then t0 else if k = 1 then t1 else t2) = t at hT0 hT1 hT2
  have hts : ∀ w ∈ wsL_law, w.before #[Value.ref b] s = true := fun w h => hts0 w (wsL_law_in w h)
  have hown : s.vm.findClass RL = some m.cls := hown0
  have hA : ∀ q : Nat, s.heap.size ≤ q → (fun q : Nat => s.heap.size ≤ q) q := fun _ h => h
  have hK := hC.1
  have hS : va_S (fun q : Nat => s.heap.size ≤ q) s.heap s.heap [] := va_S.rf
  have hP : va_P G.1 vwCl [] s.heap := fun k q h => by simp at h
  have hD : va_D (fun q : Nat => s.heap.size ≤ q) [] := ⟨fun i j p q h => by simp at h, fun k q h => by simp at h⟩
  have hl := lv_entry ([.ref b]) (n := 4) (Nat.le_of_ble_eq_true rfl)
  rw [lg_entry_eq]
  generalize (lg_sl ([.ref b]) ++ List.replicate (4 - (lg_sl ([.ref b])).length) Slot.unset).toArray = ls at hl ⊢
  have hl : lv_has ls 4 [(0, .ref b)] := hl
  refine va_new (ci := 3) (fs := [.null, .null, .null, .int 0, .null, .null]) (C := RX3) (T := TX3) (N := 6) hx hb hts0 inX3 tyX3 tyX3_ok hown (hts (.classLink RL 7 RX3) (by decide +kernel)) (hts (.instantiable RX3 6) (by decide +kernel)) (hts (.initialized RX3) (by decide +kernel)) hK hP hD hS hA rfl (fun j hj => by rcases (show j = 0 ∨ j = 1 ∨ j = 2 ∨ j = 3 ∨ j = 4 ∨ j = 5 by omega) with rfl | rfl | rfl | rfl | rfl | rfl <;> rfl) (Nat.le_of_ble_eq_true rfl) (Nat.le_of_ble_eq_true rfl) dL_law_0 (fun q1 H hP hD hS => ?_)
  replace hP : va_P G.1 vwCl [(q1, .inr (3, [.null, .null, .null, .int 0, .null, .null]))] H := hP
  replace hD : va_D (fun q : Nat => s.heap.size ≤ q) [(q1, .inr (3, [.null, .null, .null, .int 0, .null, .null]))] := hD
  refine W.widen (k := 1) (n := 6) (Nat.le_of_ble_eq_true rfl) (Nat.le_of_ble_eq_true rfl) ?_
  refine lv_dup hx hb dL_law_3 rfl ?_
  have hF := y_all hD hS hA
  refine va_callv (va_runI (As := []) (rest := [.ref q1]) ⟨hx, hb, hml, hown, hts⟩ (c_X3_init l G t q1 _) (cwI 0 hts gL_law_X3_init rfl rfl rfl (hts (.initialized RX3) (by decide +kernel)) (hts (.methodLink RL 9 yX3_init) (by decide +kernel)) (hts (.instanceMethod yX3_init) (by decide +kernel)) rfl (by decide +kernel) ⟨Nat.le_of_ble_eq_true rfl, Nat.le_of_ble_eq_true rfl⟩) ⟨PreN.blind, y_preN hC hN hT0 hS hF hP hD⟩ rfl rfl hl.1 rfl (lv_room (Nat.le_of_ble_eq_true rfl)) dL_law_4 ⟨Nat.le_of_ble_eq_true rfl, Nat.le_of_ble_eq_true rfl⟩) hS (fun q _ h => hF q h) hF (fun a u H1 locs1 ht _ hw hB _ hk1 hS1 => ?_)
  have hw : a 0 0 = q1 := hw
  rw [ht] at hB
  replace hP : va_P G.1 vwCl (wHM G a SZ) H1 := hB.1
  replace hD : va_D (fun q : Nat => s.heap.size ≤ q) (wHM G a SZ) := hB.2.weaken (fun _ q _ h => hF q.1 h)
  replace hS := hS1
  clear hk1 hF hB hS1
  subst hw
  generalize H1 = H at hP hS ht ⊢
  refine W.widen (k := 40) (n := 2175) (Nat.le_of_ble_eq_true rfl) (Nat.le_of_ble_eq_true rfl) ?_
  refine lv_astore_n (lv' := [(1, .ref (a 0 0)), (0, .ref b)]) hx hb dL_law_7 rfl hl (by decide) rfl (fun ls hl => ?_)
  refine va_new (ci := 4) (fs := [.null, .null, .null, .null, .int 0, .null, .null, .null, .null, .null, .int 0, .null]) (C := RX4) (T := TX4) (N := 12) hx hb hts0 inX4 tyX4 tyX4_ok hown (hts (.classLink RL 10 RX4) (by decide +kernel)) (hts (.instantiable RX4 12) (by decide +kernel)) (hts (.initialized RX4) (by decide +kernel)) hK hP hD hS hA rfl (fun j hj => by rcases (show j = 0 ∨ j = 1 ∨ j = 2 ∨ j = 3 ∨ j = 4 ∨ j = 5 ∨ j = 6 ∨ j = 7 ∨ j = 8 ∨ j = 9 ∨ j = 10 ∨ j = 11 by omega) with rfl | rfl | rfl | rfl | rfl | rfl | rfl | rfl | rfl | rfl | rfl | rfl <;> rfl) (Nat.le_of_ble_eq_true rfl) (Nat.le_of_ble_eq_true rfl) dL_law_8 (fun q2 H hP hD hS => ?_)
  refine W.widen (k := 41) (n := 2187) (Nat.le_of_ble_eq_true rfl) (Nat.le_of_ble_eq_true rfl) ?_
  refine lv_dup hx hb dL_law_11 rfl ?_
  have hF := y_all (wr_D hD) hS hA
  refine va_callv (va_runI (As := []) (rest := [.ref q2]) ⟨hx, hb, hml, hown, hts⟩ (c_X4_init l G q2 _) (cwI 0 hts gL_law_X4_init rfl rfl rfl (hts (.initialized RX4) (by decide +kernel)) (hts (.methodLink RL 12 yX4_init) (by decide +kernel)) (hts (.instanceMethod yX4_init) (by decide +kernel)) rfl (by decide +kernel) ⟨Nat.le_of_ble_eq_true rfl, Nat.le_of_ble_eq_true rfl⟩) ⟨PreW.blind, y_preW hC (wr_P hP) (wr_D hD)⟩ rfl rfl hl.1 rfl (lv_room (Nat.le_of_ble_eq_true rfl)) dL_law_12 ⟨Nat.le_of_ble_eq_true rfl, Nat.le_of_ble_eq_true rfl⟩) hS (fun q _ h => hF q h) hF (fun am u H1 locs1 ht _ hw hB _ hk1 hS1 => ?_)
  have hw : am 0 = q2 := hw
  rw [ht] at hB
  have hJ := w_join_r hP hD hk1 hF hB.1 hB.2
  refine W.widen (k := 51) (n := 3269) (Nat.le_of_ble_eq_true rfl) (Nat.le_of_ble_eq_true rfl) ?_
  refine lv_astore_n (lv' := [(2, .ref q2), (1, .ref (a 0 0)), (0, .ref b)]) hx hb dL_law_15 rfl hl (by decide) rfl (fun ls hl => ?_)
  refine lv_iconst (v := 0) hx hb dL_law_16 (by decide) ?_
  refine lv_istore_n (lv' := [(3, .int 0), (2, .ref q2), (1, .ref (a 0 0)), (0, .ref b)]) hx hb dL_law_17 rfl hl (by decide) rfl (fun ls hl => ?_)
  have hl2 : lv_has ls 4 [(0, .ref b), (1, .ref (a 0 0)), (2, .ref (am 0)), (3, .int 0)] := by rw [hw]; exact lv_sub hl [3, 2, 1, 0] rfl
  exact law_loop C1 hC hT1 hT2 hOK hL (L + 1) 0 0 nI_0.symm (Nat.zero_le L) (by omega) SZ MZ H1 locs1 ls hOK.1 hJ.1 hJ.2 hS1 hl2
