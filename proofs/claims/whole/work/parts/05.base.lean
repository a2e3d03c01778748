/-! my own base: pure states, worlds, contracts' forms, and the kit's rows turned to them -/
abbrev Ob : Type := Nat → Nat → Int32
abbrev GT : Type := va_G × (Nat → ClassId)
def tysG (G : GT) : List (ClassId × FieldType) := [(G.2 0, .int), (G.2 1, .boolean), (G.2 2, .object "HeadMarks$Book"), (G.2 3, .array .int)]
def ldI (f : Nat → Int32) (n : Nat) (i : Int32) : Option Int32 := if i < 0 ∨ n ≤ i.toNatClampNeg then none else some (f i.toNatClampNeg)
def stO (L : Ob) (k n : Nat) (i x : Int32) : Option Ob := if i < 0 ∨ n ≤ i.toNatClampNeg then none else some (va_up L k (upd (L k) i.toNatClampNeg x))
def puO (L : Ob) (k : Nat) (x : Int32) : Ob := va_up L k (fun _ => x)
def bind2 {α β γ : Type} (o : Option (α × β)) (f : α → β → Option γ) : Option γ := match o with
  | none => none
  | some q => f q.1 q.2
theorem ldI_spec {f : Nat → Int32} {n : Nat} {i v : Int32} (h : ldI f n i = some v) : vp_in i n ∧ f i.toNatClampNeg = v := by
  unfold ldI at h
  split at h
  · cases h
  · rename_i q; exact ⟨q, Option.some.inj h⟩
theorem stO_spec {L L1 : Ob} {k n : Nat} {i x : Int32} (h : stO L k n i x = some L1) : vp_in i n ∧ va_up L k (upd (L k) i.toNatClampNeg x) = L1 := by
  unfold stO at h
  split at h
  · cases h
  · rename_i q; exact ⟨q, Option.some.inj h⟩
theorem bd {α β : Type} {o : Option α} {f : α → Option β} {x : β} (h : o.bind f = some x) : ∃ a, o = some a ∧ f a = some x := by
  cases o with
  | none => cases h
  | some a => exact ⟨a, rfl, h⟩
theorem bd2 {α β γ : Type} {o : Option (α × β)} {f : α → β → Option γ} {x : γ} (h : bind2 o f = some x) : ∃ a b, o = some (a, b) ∧ f a b = some x := by
  cases o with
  | none => cases h
  | some q => exact ⟨q.1, q.2, rfl, h⟩
theorem it_pos {α : Type} {c : Prop} [Decidable c] {a b x : α} (h : c) (e : (if c then a else b) = x) : a = x := by rw [if_pos h] at e; exact e
theorem it_neg {α : Type} {c : Prop} [Decidable c] {a b x : α} (h : ¬ c) (e : (if c then a else b) = x) : b = x := by rw [if_neg h] at e; exact e
theorem si {α : Type} {a b : α} (h : some a = some b) : a = b := Option.some.inj h
theorem si2 {α β : Type} {a c : α} {b d : β} (h : some (a, b) = some (c, d)) : a = c ∧ b = d := by cases h; exact ⟨rfl, rfl⟩
theorem tb_out {x : Int32} {n : Nat} (hn : n < 100) (h : ∀ k : Nat, k < n → ¬ x = nI k) {hi : Int} (hh : hi + 1 = n) : x.toInt < 0 ∨ hi < x.toInt := by
  by_cases h1 : x.toInt < 0
  · exact Or.inl h1
  · right
    by_cases h2 : hi < x.toInt
    · exact h2
    · exfalso
      obtain ⟨k, hk⟩ : ∃ k : Nat, x.toInt = (k : Int) := ⟨x.toInt.toNat, by omega⟩
      refine h k (by omega) ?_
      rw [← Int32.toInt_inj, nI_toInt (by omega)]
      exact hk
-- worlds
def gr2 (a : Nat → Nat) (k : Nat) : Nat → Option Nat := fun i => if i < 2 then some (a (k + i)) else none
def cI (G : GT) (a n : Nat) (f : Nat → Int32) : Nat × va_E := (a, .inl (G.2 0, n, .inl f))
def wPad (G : GT) (a : Nat → Nat) (P : Ob) : va_W := [(a 0, .inr (2, [.ref (a 1), .int (P 1 0)])), (a 1, .inl (G.2 0, 60, .inl (P 0)))]
def wBook (G : GT) (a : Nat → Nat) (B : Ob) : va_W := [(a 0, .inr (0, [.ref (a 1), .ref (a 2), .ref (a 3), .int (B 3 0)])), (a 1, .inl (G.2 0, 60, .inl (B 0))), (a 2, .inl (G.2 0, 60, .inl (B 1))), (a 3, .inl (G.2 0, 9, .inl (B 2)))]
def wLay (G : GT) (a : Nat → Nat) (L : Ob) : va_W := [(a 0, .inr (1, [.ref (a 1), .ref (a 2), .ref (a 3), .ref (a 6), .ref (a 7), .ref (a 8), .ref (a 11), .int (L 9 0), .int (L 10 0)])),
  (a 1, .inl (G.2 0, 60, .inl (L 0))), (a 2, .inl (G.2 0, 60, .inl (L 1))), (a 3, .inl (G.2 3, 2, .inr (.inr (.inr (.inr (gr2 a 4)))))), (a 4, .inl (G.2 0, 60, .inl (L 2))), (a 5, .inl (G.2 0, 60, .inl (L 3))),
  (a 6, .inl (G.2 0, 120, .inl (L 4))), (a 7, .inl (G.2 0, 120, .inl (L 5))), (a 8, .inl (G.2 3, 2, .inr (.inr (.inr (.inr (gr2 a 9)))))), (a 9, .inl (G.2 0, 120, .inl (L 6))), (a 10, .inl (G.2 0, 120, .inl (L 7))), (a 11, .inl (G.2 0, 120, .inl (L 8)))]
def wMod (G : GT) (a : Nat → Nat) (M : Ob) : va_W := [(a 0, .inr (4, [.ref (a 1), .ref (a 2), .ref (a 3), .ref (a 4), .int (M 4 0), .ref (a 5), .ref (a 6), .ref (a 7), .ref (a 8), .ref (a 9), .int (M 10 0), .ref (a 10)])),
  (a 1, .inl (G.2 0, 130, .inl (M 0))), (a 2, .inl (G.2 0, 260, .inl (M 1))), (a 3, .inl (G.2 1, 2, .inl (M 2))), (a 4, .inl (G.2 0, 60, .inl (M 3))), (a 5, .inl (G.2 0, 60, .inl (M 5))), (a 6, .inl (G.2 0, 60, .inl (M 6))),
  (a 7, .inl (G.2 0, 120, .inl (M 7))), (a 8, .inl (G.2 0, 130, .inl (M 8))), (a 9, .inl (G.2 0, 130, .inl (M 9))), (a 10, .inl (G.2 0, 130, .inl (M 11)))]
def wH0 (G : GT) (a : Nat → Nat → Nat) (k : Int32) : va_W := [(a 0 0, .inr (3, [.ref (a 1 0), .ref (a 2 0), .ref (a 0 1), .int k, .ref (a 5 0), .ref (a 6 0)])), (a 0 1, .inl (G.2 2, 2, .inr (.inr (.inr (.inr (fun i => if i < 2 then some (a (3 + i) 0) else none))))))]
def wHM (G : GT) (a : Nat → Nat → Nat) (S : Nat → Ob) : va_W := wH0 G a (S 0 0 0) ++ (wPad G (a 1) (S 1) ++ (wBook G (a 2) (S 2) ++ (wBook G (a 3) (S 3) ++ (wBook G (a 4) (S 4) ++ (wLay G (a 5) (S 5) ++ wLay G (a 6) (S 6))))))
-- what holds of the tables besides the words
def Nx (U : State) : Prop := va_Nw (.methodLinkNest RX2 19 yX3_classOf RX3) U ∧ va_Nw (.methodLinkNest RX1 66 yX3_classOf RX3) U ∧ va_Nw (.methodLinkNest RX0 51 yX3_classOf RX3) U ∧ va_Nw (.fieldLinkNest RX0 45 "HeadMarks" "RULE_LEAST" "[I" "HeadMarks") U ∧ va_Nw (.fieldLinkNest RX0 48 "HeadMarks" "RULE_MOST" "[I" "HeadMarks") U
def Cx (G : GT) (U : State) : Prop := va_K G.1 vwCl (tysG G) U ∧ Nx U
theorem Nx.warm {s U : State} (hW : s.WarmedH U.vm) (h : Nx s) : Nx U := ⟨h.1.warmM hW, h.2.1.warmM hW, h.2.2.1.warmM hW, h.2.2.2.1.warmF hW, h.2.2.2.2.warmF hW⟩
theorem Nx.same {u U : State} (e : u.vm = U.vm) (h : Nx u) : Nx U := ⟨h.1.same rfl e, h.2.1.same rfl e, h.2.2.1.same rfl e, h.2.2.2.1.same rfl e, h.2.2.2.2.same rfl e⟩
theorem Cx.warm {G : GT} {s U : State} (hW : s.WarmedH U.vm) (h : Cx G s) : Cx G U := ⟨va_K.moved hW.alike h.1, h.2.warm hW⟩
theorem Cx.same {G : GT} {u U : State} (e : u.vm = U.vm) (h : Cx G u) : Cx G U := ⟨va_K.moved (by rw [e]; exact Vm.Alike.refl U.vm) h.1, h.2.same e⟩
-- the forms of contracts
def PreR (G : GT) (av : List Value) (w : va_W) : Array Value → State → Prop := va_Pc av (fun U => va_P G.1 vwCl w U.heap ∧ Cx G U)
def PreW (G : GT) (av : List Value) (w : va_W) (sz : Nat) : Array Value → State → Prop := va_Pc av (fun U => U.heap.size = sz ∧ va_P G.1 vwCl w U.heap ∧ Cx G U ∧ va_D (fun _ => True) w)
def QI (G : GT) (r0 : Int32) (w' : va_W) (A : Nat → Prop) : Array Value → State → Outcome → State → Prop := va_Qi (fun r (_ : Unit) => r = r0) (fun _ t => va_P G.1 vwCl w' t.heap ∧ va_D A w') A
def QV (G : GT) (w' : va_W) (A : Nat → Prop) : Array Value → State → Outcome → State → Prop := va_Qv (fun (_ : Unit) => True) (fun _ t => va_P G.1 vwCl w' t.heap ∧ va_D A w') A
def Ri (r0 : Int32) : Array Value → State → Outcome → State → Prop := vp_Si (fun r => r = r0)
def Rz (r0 : Int32) : Array Value → State → Outcome → State → Prop := vp_Si (fun r => r = r0 ∧ narrow .boolean (.int r) = .int r)
theorem PreR.blind {G : GT} {av : List Value} {w : va_W} : FrameBlind (PreR G av w) := fun a U g mk q => ⟨q.1, q.2.1, Cx.same (u := U) (U := U.calling g mk a) rfl q.2.2⟩
theorem PreW.blind {G : GT} {av : List Value} {w : va_W} {sz : Nat} : FrameBlind (PreW G av w sz) := fun a U g mk q => ⟨q.1, q.2.1, q.2.2.1, Cx.same (u := U) (U := U.calling g mk a) rfl q.2.2.2.1, q.2.2.2.2⟩
def tLeast : Nat → Int32 := fun j => if j = 0 then 2 else 0
def tMost : Nat → Int32 := fun j => ([9, 2, 2, 1, 1, 1, 1, 2, 2] : List Int32).getD j 0
def T1 (t : Nat → Nat) (A : Nat → Prop) (U : State) (H : Heap) : Prop := va_Z "HeadMarks" "RULE_LEAST" "[I" (.ref (t 1)) A U H ∧ va_T .int (t 1) 9 (fun j => .int (tLeast j)) A U H
def T2 (t : Nat → Nat) (A : Nat → Prop) (U : State) (H : Heap) : Prop := va_Z "HeadMarks" "RULE_MOST" "[I" (.ref (t 2)) A U H ∧ va_T .int (t 2) 9 (fun j => .int (tMost j)) A U H
theorem T1.moved {t : Nat → Nat} {A : Nat → Prop} {u U : State} {H : Heap} (hvm : u.vm.Alike U.vm) (h : T1 t A u H) : T1 t A U H := ⟨h.1.moved hvm, h.2.moved hvm⟩
theorem T2.moved {t : Nat → Nat} {A : Nat → Prop} {u U : State} {H : Heap} (hvm : u.vm.Alike U.vm) (h : T2 t A u H) : T2 t A U H := ⟨h.1.moved hvm, h.2.moved hvm⟩
def PreT (G : GT) (t : Nat → Nat) (av : List Value) (w : va_W) : Array Value → State → Prop := va_Pc av (fun U => va_P G.1 vwCl w U.heap ∧ Cx G U ∧ T1 t (fun _ => False) U U.heap ∧ T2 t (fun _ => False) U U.heap)
def PreU (G : GT) (t : Nat → Nat) (av : List Value) (w : va_W) (sz : Nat) : Array Value → State → Prop := va_Pc av (fun U => U.heap.size = sz ∧ va_P G.1 vwCl w U.heap ∧ Cx G U ∧ va_D (fun _ => True) w ∧ T1 t (va_A w sz) U U.heap ∧ T2 t (va_A w sz) U U.heap)
theorem PreT.blind {G : GT} {t : Nat → Nat} {av : List Value} {w : va_W} : FrameBlind (PreT G t av w) := fun a U g mk q => ⟨q.1, q.2.1, Cx.same (u := U) (U := U.calling g mk a) rfl q.2.2.1, T1.moved (u := U) (U := U.calling g mk a) (Vm.Alike.refl U.vm) q.2.2.2.1, T2.moved (u := U) (U := U.calling g mk a) (Vm.Alike.refl U.vm) q.2.2.2.2⟩
theorem PreU.blind {G : GT} {t : Nat → Nat} {av : List Value} {w : va_W} {sz : Nat} : FrameBlind (PreU G t av w sz) := fun a U g mk q => ⟨q.1, q.2.1, q.2.2.1, Cx.same (u := U) (U := U.calling g mk a) rfl q.2.2.2.1, q.2.2.2.2.1, T1.moved (u := U) (U := U.calling g mk a) (Vm.Alike.refl U.vm) q.2.2.2.2.2.1, T2.moved (u := U) (U := U.calling g mk a) (Vm.Alike.refl U.vm) q.2.2.2.2.2.2⟩
section YROWS
variable {p : Program} {l : Launch} {e : Env} {R : Room} {s : State} {m : MethodId} {args : Array Value} {below : List Frame} {meth : Method} {c : Code} {H : Heap} {locs : List Loc} {cells slots : Nat} {Q : State → Prop}
variable {cc : ByteArray} {pc : Nat} {ls : Array Slot} {rest st0 : List Value} {D : va_G} {cl : List vw_C} {A : Nat → Prop} {a : Nat} {tys : List (ClassId × FieldType)} {ws : va_W} {H0 : Heap}
theorem y_preR {G : GT} {av : List Value} {w : va_W} (hC : Cx G s) (hP : va_P G.1 vwCl w H) : ∀ U : State, U.heap = H → s.WarmedH U.vm → PreR G av w av.toArray U := fun U hU hW => ⟨rfl, by rw [hU]; exact hP, hC.warm hW⟩
theorem y_preW {G : GT} {av : List Value} {w : va_W} (hC : Cx G s) (hP : va_P G.1 vwCl w H) (hD : va_D A w) : ∀ U : State, U.heap = H → s.WarmedH U.vm → PreW G av w H.size av.toArray U := fun U hU hW => ⟨rfl, by rw [hU], by rw [hU]; exact hP, hC.warm hW, hD.weaken (fun _ _ _ _ => trivial)⟩
theorem y_ro {v : Int32} {av : Array Value} (hr : va_Run p l e R s m args below meth c H locs cells slots 0 0 (F0 m pc ls st0) rest (Ri v av) (fun _ => False)) (kk : W p l e R s m args below meth c H locs cells slots Q (F0 m (pc + 3) ls (.int v :: rest))) : W p l e R s m args below meth c H locs cells slots Q (F0 m pc ls st0) := by
  intro T hT X
  obtain ⟨v', st₀, t, T', L, h0, X', hL, e1, e2, ⟨r, hv, hp, hh⟩, st⟩ := hr T hT X
  cases hv
  have hp : r = v := hp
  subst hp
  obtain ⟨t2, a1, b1⟩ := kk T' (by rw [e1, hh, h0]) (Stand.forget X' (fun q h => (hL q h).elim))
  exact ⟨t2, st t2 a1, b1⟩
theorem y_roz {v : Int32} {av : Array Value} (hr : va_Run p l e R s m args below meth c H locs cells slots 0 0 (F0 m pc ls st0) rest (Rz v av) (fun _ => False)) (kk : narrow .boolean (.int v) = .int v → W p l e R s m args below meth c H locs cells slots Q (F0 m (pc + 3) ls (.int v :: rest))) : W p l e R s m args below meth c H locs cells slots Q (F0 m pc ls st0) := by
  intro T hT X
  obtain ⟨v', st₀, t, T', L, h0, X', hL, e1, e2, ⟨r, hv, ⟨hp, hz⟩, hh⟩, st⟩ := hr T hT X
  cases hv
  have hp : r = v := hp
  subst hp
  obtain ⟨t2, a1, b1⟩ := kk hz T' (by rw [e1, hh, h0]) (Stand.forget X' (fun q h => (hL q h).elim))
  exact ⟨t2, st t2 a1, b1⟩
theorem y_rwi {G : GT} {v : Int32} {w w' : va_W} {av : Array Value} (hr : va_Run p l e R s m args below meth c H locs cells slots 0 0 (F0 m pc ls st0) rest (QI G v w' (va_A w H.size) av) (va_A w H.size)) (hS : va_S A H0 H locs) (hF : ∀ q, va_A w H.size q → A q)
    (kk : ∀ (H1 : Heap) (locs1 : List Loc), va_P G.1 vwCl w' H1 → va_D (va_A w H.size) w' → (∀ q : Nat, q < H.size → ¬ va_A w H.size q → H1[q]? = H[q]?) → va_S A H0 H1 locs1 → W p l e R s m args below meth c H1 locs1 cells slots Q (F0 m (pc + 3) ls (.int v :: rest))) : W p l e R s m args below meth c H locs cells slots Q (F0 m pc ls st0) :=
  va_calli hr hS (fun q _ h => hF q h) hF (fun r u t H1 locs1 ht _ hp hB _ hk hS1 => by
    have hp : r = v := hp
    subst hp
    rw [ht] at hB
    exact kk H1 locs1 hB.1 hB.2 hk hS1)
theorem y_rwv {G : GT} {w w' : va_W} {av : Array Value} (hr : va_Run p l e R s m args below meth c H locs cells slots 0 0 (F0 m pc ls st0) rest (QV G w' (va_A w H.size) av) (va_A w H.size)) (hS : va_S A H0 H locs) (hF : ∀ q, va_A w H.size q → A q)
    (kk : ∀ (H1 : Heap) (locs1 : List Loc), va_P G.1 vwCl w' H1 → va_D (va_A w H.size) w' → (∀ q : Nat, q < H.size → ¬ va_A w H.size q → H1[q]? = H[q]?) → va_S A H0 H1 locs1 → W p l e R s m args below meth c H1 locs1 cells slots Q (F0 m (pc + 3) ls rest)) : W p l e R s m args below meth c H locs cells slots Q (F0 m pc ls st0) :=
  va_callv hr hS (fun q _ h => hF q h) hF (fun u t H1 locs1 ht _ _ hB _ hk hS1 => by
    rw [ht] at hB
    exact kk H1 locs1 hB.1 hB.2 hk hS1)
theorem y_all (hD : va_D A ws) (hS : va_S A H0 H locs) (hA : ∀ q, H0.size ≤ q → A q) : ∀ q, va_A ws H.size q → A q := by
  intro q h
  rcases h with ⟨k, e, hk⟩ | h
  · exact hD.2 k (q, e) hk
  · exact hA q (Nat.le_trans hS.1 h)
theorem y_ald (hexec : p.tables.exec = Jvm.exec) (hb : c.code = cc) (hK : va_K D cl tys s) (hP : va_P D cl ws H) (q0 t0 : Nat) {cA : ClassId} {n : Nat} {f : Nat → Int32} (ha : ws[q0]? = some (a, .inl (cA, n, .inl f))) (ht : tys[t0]? = some (cA, .int)) {i v : Int32} (hv : ldI f n i = some v) (hdg : decode cc pc = .ok (.iaload, 1))
    (kk : W p l e R s m args below meth c H locs cells slots Q (F0 m (pc + 1) ls (.int v :: rest))) : W p l e R s m args below meth c H locs cells slots Q (F0 m pc ls (.int i :: .ref a :: rest)) := by
  obtain ⟨h1, h2⟩ := ldI_spec hv
  exact va_iald hexec hb hK hP q0 t0 ha ht h1 hdg (by rw [h2]; exact kk)
theorem y_zld (hexec : p.tables.exec = Jvm.exec) (hb : c.code = cc) (hK : va_K D cl tys s) (hP : va_P D cl ws H) (q0 t0 : Nat) {cA : ClassId} {n : Nat} {f : Nat → Int32} (ha : ws[q0]? = some (a, .inl (cA, n, .inl f))) (ht : tys[t0]? = some (cA, .boolean)) {i v : Int32} (hv : ldI f n i = some v) (hdg : decode cc pc = .ok (.baload, 1))
    (kk : W p l e R s m args below meth c H locs cells slots Q (F0 m (pc + 1) ls (.int v :: rest))) : W p l e R s m args below meth c H locs cells slots Q (F0 m pc ls (.int i :: .ref a :: rest)) := by
  obtain ⟨h1, h2⟩ := ldI_spec hv
  exact va_zald hexec hb hK hP q0 t0 ha ht h1 hdg (by rw [h2]; exact kk)
theorem y_aald (hexec : p.tables.exec = Jvm.exec) (hb : c.code = cc) (hK : va_K D cl tys s) (hP : va_P D cl ws H) (q0 t0 : Nat) {cA : ClassId} {T0 : FieldType} {n : Nat} {f : Nat → Option Nat} (ha : ws[q0]? = some (a, .inl (cA, n, .inr (.inr (.inr (.inr f)))))) (ht : tys[t0]? = some (cA, T0)) (hT : T0.isReference = true) {i : Int32} (hin : vp_in i n) {v : Nat} (hv : f i.toNatClampNeg = some v) (hdg : decode cc pc = .ok (.aaload, 1))
    (kk : W p l e R s m args below meth c H locs cells slots Q (F0 m (pc + 1) ls (.ref v :: rest))) : W p l e R s m args below meth c H locs cells slots Q (F0 m pc ls (.int i :: .ref a :: rest)) := by
  have hlt : i.toNatClampNeg < n := Nat.not_le.mp fun q => hin (Or.inr q)
  exact W.aald (v := .ref v) (ty := T0) hexec hb (hP q0 _ ha) ((hK.2 t0 _ ht).1 n (fun j => va_rf (f j))) hT (fun q => by cases q) (by show ¬ (i < 0 ∨ (arrV _ _ _).slots.size ≤ _); rw [arrV_size]; exact hin) (by show (arrV _ _ _).slots[_]? = _; rw [arrV_read _ _ hlt, hv]; rfl) rfl rfl hdg kk
theorem y_preT {G : GT} {t : Nat → Nat} {av : List Value} {w : va_W} (hC : Cx G s) (hP : va_P G.1 vwCl w H) (h1 : T1 t A s s.heap) (h2 : T2 t A s s.heap) (hS : va_S A s.heap H locs) : ∀ U : State, U.heap = H → s.WarmedH U.vm → PreT G t av w av.toArray U := fun U hU hW =>
  ⟨rfl, by rw [hU]; exact hP, hC.warm hW, by rw [hU]; exact T1.moved hW.alike ⟨(h1.1.kept hS.2.1).narrow (fun _ h => h.elim), (h1.2.kept hS.2.1).narrow (fun _ h => h.elim)⟩, by rw [hU]; exact T2.moved hW.alike ⟨(h2.1.kept hS.2.1).narrow (fun _ h => h.elim), (h2.2.kept hS.2.1).narrow (fun _ h => h.elim)⟩⟩
theorem y_tab (hexec : p.tables.exec = Jvm.exec) (hb : c.code = cc) {t N : Nat} {f : Nat → Int32} (hT : va_T .int t N (fun j => .int (f j)) A s s.heap) (hS : va_S A s.heap H locs) {i v : Int32} (hv : ldI f N i = some v) (hdg : decode cc pc = .ok (.iaload, 1))
    (kk : W p l e R s m args below meth c H locs cells slots Q (F0 m (pc + 1) ls (.int v :: rest))) : W p l e R s m args below meth c H locs cells slots Q (F0 m pc ls (.int i :: .ref t :: rest)) := by
  obtain ⟨h1, h2⟩ := ldI_spec hv
  exact va_ti hexec hb hT hS h1 (by rw [h2]) hdg kk
end YROWS
