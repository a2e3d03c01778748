/-! constructors: rows and forms -/
def tFirst : Nat → Int32 := fun j => ([5, 0, 1, 1, 0, 0, 1, 1, 2] : List Int32).getD j 0
def ZO : Ob := fun _ _ => 0
def BZ : Ob := fun k => if k = 2 then tFirst else fun _ => 0
def SZ : Nat → Ob := fun k => if k = 2 then BZ else if k = 3 then BZ else if k = 4 then BZ else ZO
def stZ : Nat → Int32 := upd (upd (upd (upd (upd (upd (fun _ => 0) 121 5) 123 1) 124 1) 127 1) 128 1) 129 2
def MZ : Ob := fun k => if k = 0 then stZ else fun _ => 0
theorem va_AOA.moved {ty : FieldType} {u U : State} (hvm : u.vm.Alike U.vm) (h : va_AOA ty u) : va_AOA ty U := Jvm.Stand.arrayOver_alikeB hvm h
def Ny (U : State) : Prop := va_Nw (.methodLinkNest RX3 11 yX2_init RX3) U ∧ va_Nw (.methodLinkNest RX3 18 yX0_init RX3) U ∧ va_Nw (.methodLinkNest RX3 33 yX1_init RX3) U ∧ va_Nw (.fieldLinkNest RX0 18 "HeadMarks" "RULE_AT_FIRST" "[I" "HeadMarks") U ∧ va_Nw (.castable "[I" "java/lang/Cloneable") U ∧ va_AO "HeadMarks$Book" U ∧ va_AOA .int U
theorem Ny.warm {s U : State} (hW : s.WarmedH U.vm) (h : Ny s) : Ny U := ⟨h.1.warmM hW, h.2.1.warmM hW, h.2.2.1.warmM hW, h.2.2.2.1.warmF hW, h.2.2.2.2.1.warmC hW, h.2.2.2.2.2.1.moved hW.alike, h.2.2.2.2.2.2.moved hW.alike⟩
theorem Ny.same {u U : State} (e : u.vm = U.vm) (h : Ny u) : Ny U := ⟨h.1.same rfl e, h.2.1.same rfl e, h.2.2.1.same rfl e, h.2.2.2.1.same rfl e, h.2.2.2.2.1.same rfl e, h.2.2.2.2.2.1.moved (by rw [e]; exact Vm.Alike.refl U.vm), h.2.2.2.2.2.2.moved (by rw [e]; exact Vm.Alike.refl U.vm)⟩
def T0 (G : GT) (t : Nat → Nat) (A : Nat → Prop) (U : State) (H : Heap) : Prop := va_Z "HeadMarks" "RULE_AT_FIRST" "[I" (.ref (t 0)) A U H ∧ ∃ cell : Cell, H[t 0]? = some cell ∧ (∀ k, cell.vm ≠ .statics k) ∧ cell.vm ≠ .unknown ∧ cell.cls = G.2 0 ∧ cell.slots = (arrV (G.2 0) 9 (fun j => .int (tFirst j))).slots ∧ ¬ A (t 0)
theorem T0.moved {G : GT} {t : Nat → Nat} {A : Nat → Prop} {u U : State} {H : Heap} (hvm : u.vm.Alike U.vm) (h : T0 G t A u H) : T0 G t A U H := ⟨h.1.moved hvm, h.2⟩
theorem T0.kept {G : GT} {t : Nat → Nat} {A : Nat → Prop} {U : State} {H H1 : Heap} (h : T0 G t A U H) (hq : ∀ a : Nat, a < H.size → ¬ A a → H1[a]? = H[a]?) : T0 G t A U H1 := by
  obtain ⟨h1, cell, h2, h3, h4, h5, h6, h7⟩ := h
  exact ⟨h1.kept hq, cell, by rw [hq (t 0) ((Array.getElem?_eq_some_iff.mp h2).1) h7]; exact h2, h3, h4, h5, h6, h7⟩
theorem T0.narrow {G : GT} {t : Nat → Nat} {A B : Nat → Prop} {U : State} {H : Heap} (h : T0 G t A U H) (hAB : ∀ q, B q → A q) : T0 G t B U H := by
  obtain ⟨h1, cell, h2, h3, h4, h5, h6, h7⟩ := h
  exact ⟨h1.narrow hAB, cell, h2, h3, h4, h5, h6, fun q => h7 (hAB _ q)⟩
def PreN (G : GT) (t : Nat → Nat) (av : List Value) (w : va_W) (sz : Nat) : Array Value → State → Prop := va_Pc av (fun U => U.heap.size = sz ∧ va_P G.1 vwCl w U.heap ∧ Cx G U ∧ va_D (fun _ => True) w ∧ Ny U ∧ T0 G t (va_A w sz) U U.heap)
theorem PreN.blind {G : GT} {t : Nat → Nat} {av : List Value} {w : va_W} {sz : Nat} : FrameBlind (PreN G t av w sz) := fun a U g mk q => ⟨q.1, q.2.1, q.2.2.1, Cx.same (u := U) (U := U.calling g mk a) rfl q.2.2.2.1, q.2.2.2.2.1, Ny.same (u := U) (U := U.calling g mk a) rfl q.2.2.2.2.2.1, T0.moved (u := U) (U := U.calling g mk a) (Vm.Alike.refl U.vm) q.2.2.2.2.2.2⟩
def QN (G : GT) (f : (Nat → Nat) → va_W) (h0 : Nat) (A : Nat → Prop) : Array Value → State → Outcome → State → Prop := va_Qv (fun ap : Nat → Nat => ap 0 = h0) (fun ap t => va_P G.1 vwCl (f ap) t.heap ∧ va_D A (f ap)) A
def QH (G : GT) (h0 : Nat) (A : Nat → Prop) : Array Value → State → Outcome → State → Prop := va_Qv (fun a : Nat → Nat → Nat => a 0 0 = h0) (fun a t => va_P G.1 vwCl (wHM G a SZ) t.heap ∧ va_D A (wHM G a SZ)) A
section YCTOR
variable {p : Program} {l : Launch} {e : Env} {R : Room} {s : State} {m : MethodId} {args : Array Value} {below : List Frame} {meth : Method} {c : Code} {H : Heap} {locs : List Loc} {cells slots : Nat} {Q : State → Prop}
variable {cc : ByteArray} {pc : Nat} {ls : Array Slot} {rest st0 : List Value} {D : va_G} {cl : List vw_C} {A : Nat → Prop} {a : Nat} {tys : List (ClassId × FieldType)} {ws : va_W} {H0 : Heap}
theorem y_preN {G : GT} {t : Nat → Nat} {av : List Value} {w : va_W} (hC : Cx G s) (hN : Ny s) (hT0 : T0 G t A s s.heap) (hS : va_S A s.heap H locs) (hF : ∀ q, va_A w H.size q → A q) (hP : va_P G.1 vwCl w H) (hD : va_D A w) : ∀ U : State, U.heap = H → s.WarmedH U.vm → PreN G t av w H.size av.toArray U := fun U hU hW =>
  ⟨rfl, by rw [hU], by rw [hU]; exact hP, hC.warm hW, hD.weaken (fun _ _ _ _ => trivial), hN.warm hW, by rw [hU]; exact T0.moved hW.alike ((hT0.kept hS.2.1).narrow hF)⟩
theorem y_sameI {c0 cA : ClassId} {ty : FieldType} (hr : ∀ C, ty ≠ .object C) {t0 t1 : Nat} {tys2 : List (ClassId × FieldType)} (hK : va_K D cl tys s) (ht : tys[t0]? = some (c0, ty)) (hK2 : va_K D cl tys2 s) (ht2 : tys2[t1]? = some (cA, ty)) : cA = c0 := by
  have h1 := (hK.2 t0 _ ht).2
  have h2 := (hK2.2 t1 _ ht2).2
  cases ty with
  | object C => exact absurd rfl (hr C)
  | _ => exact Option.some.inj ((show s.vm.findClass _ = some cA from h2).symm.trans (show s.vm.findClass _ = some c0 from h1))
theorem y_sameO {c0 cA : ClassId} {C : String} {t0 t1 : Nat} {tys2 : List (ClassId × FieldType)} (hK : va_K D cl tys s) (ht : tys[t0]? = some (c0, .object C)) (hK2 : va_K D cl tys2 s) (ht2 : tys2[t1]? = some (cA, .object C)) : cA = c0 := by
  obtain ⟨-, -, -, -, -, h1⟩ := (hK.2 t0 _ ht).2
  obtain ⟨-, -, -, -, -, h2⟩ := (hK2.2 t1 _ ht2).2
  exact Option.some.inj (h2.symm.trans h1)
theorem y_newi {G : GT} (hexec : p.tables.exec = Jvm.exec) (hb : c.code = cc) (harr : (Cond.arrayClass .int).before args s = true) (hK : va_K D cl (tysG G) s) (hP : va_P D cl ws H) (hD : va_D A ws) (hS : va_S A H0 H locs) (hA : ∀ q, H0.size ≤ q → A q) {n : Int32} {N' : Nat} (hn : ¬ n < 0) (hN : n.toNatClampNeg = N') (hbytes : N' * 4 ≤ 536870912) (hcells : cells + 1 ≤ R.cells) (hslots : slots + N' ≤ R.slots) (hdg : decode cc pc = .ok (.newarray .int, 2))
    (kk : ∀ (q : Nat) (H1 : Heap), va_P D cl (ws ++ [(q, .inl (G.2 0, N', .inl (fun _ => 0)))]) H1 → va_D A (ws ++ [(q, .inl (G.2 0, N', .inl (fun _ => 0)))]) → va_S A H0 H1 locs → W p l e R s m args below meth c H1 locs (cells + 1) (slots + N') Q (F0 m (pc + 2) ls (.ref q :: rest))) : W p l e R s m args below meth c H locs cells slots Q (F0 m pc ls (.int n :: rest)) := by
  refine va_newa (atype := .int) (ty := .int) (a0 := (N', .inl (fun _ => 0))) hexec hb harr rfl hK hP hD hS hA (fun _ => rfl) hn hN hbytes hcells hslots hdg (fun q cA H1 hK2 hP2 hD2 hS2 => ?_)
  have e := y_sameI (t0 := 0) (t1 := 4) (ty := .int) (fun _ h => by cases h) hK rfl hK2 rfl
  subst e
  exact kk q H1 hP2 hD2 hS2
theorem y_newz {G : GT} (hexec : p.tables.exec = Jvm.exec) (hb : c.code = cc) (harr : (Cond.arrayClass .boolean).before args s = true) (hK : va_K D cl (tysG G) s) (hP : va_P D cl ws H) (hD : va_D A ws) (hS : va_S A H0 H locs) (hA : ∀ q, H0.size ≤ q → A q) {n : Int32} {N' : Nat} (hn : ¬ n < 0) (hN : n.toNatClampNeg = N') (hbytes : N' * 1 ≤ 536870912) (hcells : cells + 1 ≤ R.cells) (hslots : slots + N' ≤ R.slots) (hdg : decode cc pc = .ok (.newarray .boolean, 2))
    (kk : ∀ (q : Nat) (H1 : Heap), va_P D cl (ws ++ [(q, .inl (G.2 1, N', .inl (fun _ => 0)))]) H1 → va_D A (ws ++ [(q, .inl (G.2 1, N', .inl (fun _ => 0)))]) → va_S A H0 H1 locs → W p l e R s m args below meth c H1 locs (cells + 1) (slots + N') Q (F0 m (pc + 2) ls (.ref q :: rest))) : W p l e R s m args below meth c H locs cells slots Q (F0 m pc ls (.int n :: rest)) := by
  refine va_newa (atype := .boolean) (ty := .boolean) (a0 := (N', .inl (fun _ => 0))) hexec hb harr rfl hK hP hD hS hA (fun _ => rfl) hn hN hbytes hcells hslots hdg (fun q cA H1 hK2 hP2 hD2 hS2 => ?_)
  have e := y_sameI (t0 := 1) (t1 := 4) (ty := .boolean) (fun _ h => by cases h) hK rfl hK2 rfl
  subst e
  exact kk q H1 hP2 hD2 hS2
theorem y_newq {G : GT} (hexec : p.tables.exec = Jvm.exec) (hb : c.code = cc) {own : String} {index : Nat} (hown : s.vm.findClass own = some m.cls) (hclink : (Cond.classLink own index "HeadMarks$Book").before args s = true) (hover : va_AO "HeadMarks$Book" s) (hK : va_K D cl (tysG G) s) (hP : va_P D cl ws H) (hD : va_D A ws) (hS : va_S A H0 H locs) (hA : ∀ q, H0.size ≤ q → A q) {n : Int32} {N' : Nat} (hn : ¬ n < 0) (hN : n.toNatClampNeg = N') (hbytes : N' * 4 ≤ 536870912) (hcells : cells + 1 ≤ R.cells) (hslots : slots + N' ≤ R.slots) (hdg : decode cc pc = .ok (.anewarray index, 3))
    (kk : ∀ (q : Nat) (H1 : Heap), va_P D cl (ws ++ [(q, .inl (G.2 2, N', .inr (.inr (.inr (.inr (fun _ => none))))))]) H1 → va_D A (ws ++ [(q, .inl (G.2 2, N', .inr (.inr (.inr (.inr (fun _ => none))))))]) → va_S A H0 H1 locs → W p l e R s m args below meth c H1 locs (cells + 1) (slots + N') Q (F0 m (pc + 3) ls (.ref q :: rest))) : W p l e R s m args below meth c H locs cells slots Q (F0 m pc ls (.int n :: rest)) := by
  refine va_newq hexec hb hown hclink hover hK hP hD hS hA hn hN hbytes hcells hslots hdg (fun q cA H1 hK2 hP2 hD2 hS2 => ?_)
  have e := y_sameO (t0 := 2) (t1 := 4) hK rfl hK2 rfl
  subst e
  exact kk q H1 hP2 hD2 hS2
theorem y_mna {G : GT} (hexec : p.tables.exec = Jvm.exec) (hb : c.code = cc) {own : String} {index : Nat} (hown : s.vm.findClass own = some m.cls) (hclink : (Cond.classLink own index "[[I").before args s = true) (hover : va_AOA .int s) (harr : (Cond.arrayClass .int).before args s = true) (hK : va_K D cl (tysG G) s) (hP : va_P D cl ws H) (hD : va_D A ws) (hS : va_S A H0 H locs) (hA : ∀ q, H0.size ≤ q → A q) {k : Int32} {K' : Nat} (hk : ¬ k < 0) (hM : k.toNatClampNeg = K') (hb2 : K' * 4 ≤ 536870912) (hb3 : K' ≤ 536870912) (hcells : cells + 3 ≤ R.cells) (hslots : slots + (2 + 2 * K') ≤ R.slots) (hdg : decode cc pc = .ok (.multianewarray index 2, 4))
    (kk : ∀ (q : Nat) (r : Nat → Nat) (H1 : Heap), va_P D cl (ws ++ [(q, .inl (G.2 3, 2, .inr (.inr (.inr (.inr (fun i => if i < 2 then some (r i) else none)))))), (r 0, .inl (G.2 0, K', .inl (fun _ => 0))), (r 1, .inl (G.2 0, K', .inl (fun _ => 0)))]) H1 → va_D A (ws ++ [(q, .inl (G.2 3, 2, .inr (.inr (.inr (.inr (fun i => if i < 2 then some (r i) else none)))))), (r 0, .inl (G.2 0, K', .inl (fun _ => 0))), (r 1, .inl (G.2 0, K', .inl (fun _ => 0)))]) → va_S A H0 H1 locs → W p l e R s m args below meth c H1 locs (cells + 1 + 2) (slots + 2 + 2 * K') Q (F0 m (pc + 4) ls (.ref q :: rest))) : W p l e R s m args below meth c H locs cells slots Q (F0 m pc ls (.int k :: .int 2 :: rest)) := by
  have hcy : s.vm.findClass (FieldType.array .int).toString = some (G.2 0) := (hK.2 0 _ rfl).2
  refine va_mna (X := ws) (L := []) (f := fun _ => .inl (G.2 0, 0, .inl (fun _ => 0))) (ty := .int) (cy := G.2 0) (z := (K', .inl (fun _ => 0))) (N' := 2) hexec hb hown hclink hover harr hcy hK (by simpa [va_pl] using hP) (by simpa [va_pl] using hD) hS hA (by decide) hk rfl hM (by decide) hb2 hb3 rfl rfl hcells hslots (fun c9 => by
    show ({ cls := c9, slots := Array.replicate K' (.int 0), vm := .none } : Cell) = _
    rw [arrV_new]
    rfl) hdg (fun q r cA H1 hinj hno hK2 hP2 hD2 hS2 => ?_)
  have e := y_sameI (t0 := 3) (t1 := 4) (ty := .array .int) (fun _ h => by cases h) hK rfl hK2 rfl
  subst e
  have hm : ∀ a : Nat, a ∈ (List.range 2).map r → vr_up (fun _ => (.inl (G.2 0, 0, .inl (fun _ => 0)) : va_E)) ((List.range 2).map r) (.inl (G.2 0, K', .inl (fun _ => 0))) a = .inl (G.2 0, K', .inl (fun _ => 0)) := fun a h => vr_up_in h
  have hw : ∀ Y : va_W, (Y ++ va_pl ([] ++ (List.range 2).map r) (vr_up (fun _ => (.inl (G.2 0, 0, .inl (fun _ => 0)) : va_E)) ((List.range 2).map r) (.inl (G.2 0, K', .inl (fun _ => 0))))) = Y ++ [(r 0, .inl (G.2 0, K', .inl (fun _ => 0))), (r 1, .inl (G.2 0, K', .inl (fun _ => 0)))] := by
    intro Y
    have h0 := hm (r 0) (by simp [List.range_succ])
    have h1 := hm (r 1) (by simp [List.range_succ])
    show Y ++ [(r 0, _), (r 1, _)] = _
    rw [h0, h1]
  rw [hw, List.append_assoc] at hP2 hD2
  exact kk q r H1 hP2 hD2 hS2
theorem y_cloneT {G : GT} {t : Nat → Nat} (hexec : p.tables.exec = Jvm.exec) (hb : c.code = cc) (hml : c.maxLocals = ls.size) {own : String} {index : Nat} (hown : s.vm.findClass own = some m.cls)
    (hlink : (Cond.methodLink own index ⟨"[I", "clone", "()Ljava/lang/Object;"⟩).before args s = true) (hsame : (Cond.sameMethod "[I" "java/lang/Object" "clone" "()Ljava/lang/Object;").before args s = true)
    (hnat : (Cond.native ⟨"java/lang/Object", "clone", "()Ljava/lang/Object;"⟩).before args s = true) (hinst : (Cond.instanceMethod ⟨"java/lang/Object", "clone", "()Ljava/lang/Object;"⟩).before args s = true)
    (hsel : (Cond.selects "[I" ⟨"[I", "clone", "()Ljava/lang/Object;"⟩ ⟨"java/lang/Object", "clone", "()Ljava/lang/Object;"⟩).before args s = true) (hcl : va_Nw (.castable "[I" "java/lang/Cloneable") s)
    (hK : va_K D cl (tysG G) s) (hP : va_P D cl ws H) (hD : va_D A ws) (hS : va_S A s.heap H locs) (hA : ∀ q, s.heap.size ≤ q → A q) (hT : T0 G t A s s.heap)
    (hframes : 1 ≤ R.frames) (hlocals : (rest.map fun v => v.category).sum + 14 ≤ R.locals) (hcells : cells + 1 ≤ R.cells) (hslots : slots + 9 ≤ R.slots) (hdg : decode cc pc = .ok (.invokevirtual index, 3))
    (kk : ∀ (q : Nat) (H1 : Heap), va_P D cl (ws ++ [(q, .inl (G.2 0, 9, .inl tFirst))]) H1 → va_D A (ws ++ [(q, .inl (G.2 0, 9, .inl tFirst))]) → va_S A s.heap H1 locs →
      W p l e R s m args below meth c H1 locs (cells + 1) (slots + 9) Q (F0 m (pc + 3) ls (.ref q :: rest))) : W p l e R s m args below meth c H locs cells slots Q (F0 m pc ls (.ref (t 0) :: rest)) := by
  obtain ⟨-, cell, h2, h3, h4, h5, h6, h7⟩ := hT
  have hnm : s.vm.findClass "[I" = some (G.2 0) := (hK.2 0 _ rfl).2
  have hsz : cell.slots.size = 9 := by rw [h6]; exact arrV_size _ _ _
  obtain ⟨c0, t0', f1, f2, f3⟩ := Cond.castable_spec (va_Nw.use (A := args) rfl hcl)
  cases hnm.symm.trans f1
  intro T hTh X
  have hcellH : H[t 0]? = some cell := by rw [hS.2.1 _ ((Array.getElem?_eq_some_iff.mp h2).1) h7]; exact h2
  have hcellT : T.heap[t 0]? = some cell := by rw [hTh]; exact hcellH
  obtain ⟨-, kA, hkA, comp, hkind⟩ := State.isArrayOf_alike X.warmed.alike ((hK.2 0 _ rfl).1 0 (fun _ => .null))
  obtain ⟨-, kS, hkS, compS, hkindS⟩ := (hK.2 0 _ rfl).1 0 (fun _ => .null)
  obtain ⟨vm', X', st⟩ := X.cloneArray hexec hown hlink hsame hnat hinst hsel (a := t 0) (cell := cell) hcellT h3 h4 (by rw [h5]; exact hnm) f2 (by rw [h5]; exact f3)
    (fun i v hv => by
      rw [h5]
      have hk' : T.vm.classes[G.2 0]? = some kA := hkA
      have hv2 : ∃ z : Int32, v = .int z := by
        rw [h6] at hv
        have hi : i < 9 := by
          have := (Array.getElem?_eq_some_iff.mp hv).1
          rw [arrV_size] at this
          exact this
        rw [arrV_read _ _ hi] at hv
        exact ⟨_, (Option.some.inj hv).symm⟩
      obtain ⟨z, rfl⟩ := hv2
      simp [State.fitsSlot, State.slotType?, hk', hkind, fits])
    (g := F0 m pc ls (.ref (t 0) :: rest)) rfl (by rw [hml]) rfl (by rw [hb]; exact hdg) hframes (by show 2 * 0 + _ + 14 ≤ _; omega) hcells (by rw [hsz]; exact hslots) (hloader := by rw [h5]; exact Vm.clonesLoader_of_array hkS hkindS)
  have hce : ({ cls := cell.cls, slots := cell.slots } : Cell) = vp_cell (G.2 0) (9, .inl tFirst) := by rw [h5, h6]; rfl
  rw [hce, hsz] at X'
  rw [hce] at st
  generalize hH1 : H.push (vp_cell (G.2 0) (9, .inl tFirst)) = H1
  have hold : ∀ x : Nat, x < H.size → H1[x]? = H[x]? := fun x hx => by rw [← hH1, Array.getElem?_push]; simp [Nat.ne_of_lt hx]
  have hnew : H1[H.size]? = some (vp_cell (G.2 0) (9, .inl tFirst)) := by rw [← hH1, Array.getElem?_push]; simp
  have hsz1 : H1.size = H.size + 1 := by rw [← hH1, Array.size_push]
  have hP1 : va_P D cl (ws ++ [(H.size, .inl (G.2 0, 9, .inl tFirst))]) H1 := va_P.app (hP.kept (fun k9 x hx => hold x.1 ((hP k9 x hx).lt))) (fun k9 x hx => by
    have h0 : k9 < 1 := (List.getElem?_eq_some_iff.mp hx).1
    rw [show k9 = 0 by omega] at hx
    cases hx
    exact hnew)
  have hD1 : va_D A (ws ++ [(H.size, .inl (G.2 0, 9, .inl tFirst))]) := hD.push hP rfl (hA _ hS.1)
  have hS1 : va_S A s.heap H1 locs := ⟨by rw [hsz1]; have := hS.1; omega, fun x hx hn => (hold x (Nat.lt_of_lt_of_le hx hS.1)).trans (hS.2.1 x hx hn), hS.2.2⟩
  have hTe : ((T.setVm vm').pushCell (vp_cell (G.2 0) (9, .inl tFirst))).heap = H1 := by rw [← hH1, ← hTh]; rfl
  obtain ⟨t2, a1, b1⟩ := kk H.size H1 hP1 hD1 hS1 _ hTe X'
  refine ⟨t2, st t2 ?_, b1⟩
  have e : T.heap.size = H.size := by rw [hTh]
  rw [e]
  exact a1
end YCTOR
