/-! THE CLAIM OUT OF ONE WALK OF THE LAW'S BODY. Your part is whole_start (and what it stands on); all else here is the same for every law, but numbers. -/
def R_law : String := "HeadMarksLaw"
def lw_P (b : Addr) (xs : List Int32) (args : Array Value) (s : State) : Prop := args = #[.ref b] ∧ s.IntsAt b xs ∧ xs.length ≤ 2048 ∧ (Jvm.Cond.and given_1 narrow_1).before args s = true
def lw_Q (_ : Array Value) (s : State) (o : Outcome) (t : State) : Prop := o = .returned (some (.int 1)) ∧ Framed s o t [] 600000 7302250
def lw_Z (below : List Frame) (a : Array Value) (s : State) : State → Prop := fun t => ∃ o, t.status = .running ∧ Ended t below o ∧ lw_Q a s o t
/-- the law's own end, with 1 on the stack, nothing written that was there before, its room as the claim has it -/
theorem lw_ret {p : Program} {l : Launch} {e : Env} {s : State} {m : MethodId} {below : List Frame} {meth : Method} {c : Code} {b : Nat} (hx : p.tables.exec = Jvm.exec) (hb : c.code = code) (hr : meth.sig.returnType = ret) (hlocks : meth.locks = false) {pc : Nat} {H : Heap} {ls : Array Slot} (hdg : decode code pc = .ok (.ireturn, 1)) : W p l e room_1 s m #[Value.ref b] below meth c H [] 600000 7302250 (lw_Z below #[Value.ref b] s) (F0 m pc ls [.int 1]) := by
  intro T hT X
  obtain ⟨fs, hret, hrun, hended, hW, hframe⟩ := X.leave (v := some (.int 1)) (hlocks := hlocks) (fun h => by rw [hr] at h; cases h)
  have hmeth' : T.vm.method? m = some meth := X.method'
  refine ⟨T.setFrames fs, ?_, .returned (some (.int 1)), hrun, hended, rfl, ⟨_, rfl⟩, hW, hframe⟩
  jvm_step X.here [X.here.top, hx, hb, hdg, hmeth', hr, ret, narrow_b1]
  (try refine ⟨rfl, ?_⟩); (try refine ⟨rfl, ?_⟩)
  first | (intro acts; rw [hret _ acts rfl rfl rfl]) | rw [hret _ _ rfl rfl rfl]
  exact Steps.refl _
/-- what holds at the law's entry: the machine, the code, the tables' words (any of lw_tbl by 'hts w (by decide +kernel)'), the script of L ints xs at the cell b, what the Statement gives of the start (any of its parts by flat_of_before) -/
def lw_At (p : Program) (s : State) (m : MethodId) (meth : Method) (c : Code) (b L : Nat) (xs : Nat → Int32) : Prop :=
  p.tables.exec = Jvm.exec ∧ c.code = code ∧ meth.sig.returnType = ret ∧ c.maxLocals = 4 ∧ s.vm.findClass R_law = some m.cls ∧ (∀ w ∈ lw_tbl, w.before #[Value.ref b] s = true) ∧ va_X b L xs s s.heap ∧ b < s.heap.size ∧ meth.locks = false ∧ (Jvm.Cond.and given_1 narrow_1).before #[Value.ref b] s = true
/-! two worlds side by side: a call changes the one, the other stays -/
theorem wl_P {D : va_G} {cl : List vw_C} {X Y : va_W} {H : Heap} (h : va_P D cl (X ++ Y) H) : va_P D cl X H := fun k q hk => h k q (by rw [List.getElem?_append_left (List.getElem?_eq_some_iff.mp hk).1]; exact hk)
theorem wr_ix {X Y : va_W} {k : Nat} {q : Nat × va_E} (hk : Y[k]? = some q) : (X ++ Y)[X.length + k]? = some q := by rw [List.getElem?_append_right (Nat.le_add_right _ _), Nat.add_sub_cancel_left]; exact hk
theorem wl_ix {X Y : va_W} {k : Nat} {q : Nat × va_E} (hk : X[k]? = some q) : (X ++ Y)[k]? = some q := by rw [List.getElem?_append_left (List.getElem?_eq_some_iff.mp hk).1]; exact hk
theorem wr_P {D : va_G} {cl : List vw_C} {X Y : va_W} {H : Heap} (h : va_P D cl (X ++ Y) H) : va_P D cl Y H := fun k q hk => h (X.length + k) q (wr_ix hk)
theorem wl_D {A : Nat → Prop} {X Y : va_W} (h : va_D A (X ++ Y)) : va_D A X := ⟨fun i j p q hi hj e => h.1 i j p q (wl_ix hi) (wl_ix hj) e, fun k q hk => h.2 k q (wl_ix hk)⟩
theorem wr_D {A : Nat → Prop} {X Y : va_W} (h : va_D A (X ++ Y)) : va_D A Y := ⟨fun i j p q hi hj e => by have := h.1 _ _ p q (wr_ix (X := X) hi) (wr_ix (X := X) hj) e; omega, fun k q hk => h.2 _ q (wr_ix hk)⟩
theorem w_out_r {D : va_G} {cl : List vw_C} {A : Nat → Prop} {X Y : va_W} {H : Heap} (hP : va_P D cl (X ++ Y) H) (hD : va_D A (X ++ Y)) {j : Nat} {y : Nat × va_E} (hy : Y[j]? = some y) : y.1 < H.size ∧ ¬ va_A X H.size y.1 := by
  have h1 := (hP _ y (wr_ix (X := X) hy)).lt
  refine ⟨h1, fun h => ?_⟩
  rcases h with ⟨k, e, hk⟩ | h
  · have h2 := hD.1 _ _ _ _ (wl_ix (Y := Y) hk) (wr_ix (X := X) hy) rfl
    have h3 := (List.getElem?_eq_some_iff.mp hk).1
    omega
  · omega
theorem w_out_l {D : va_G} {cl : List vw_C} {A : Nat → Prop} {X Y : va_W} {H : Heap} (hP : va_P D cl (X ++ Y) H) (hD : va_D A (X ++ Y)) {j : Nat} {y : Nat × va_E} (hy : X[j]? = some y) : y.1 < H.size ∧ ¬ va_A Y H.size y.1 := by
  have h1 := (hP _ y (wl_ix (Y := Y) hy)).lt
  refine ⟨h1, fun h => ?_⟩
  rcases h with ⟨k, e, hk⟩ | h
  · have h2 := hD.1 _ _ _ _ (wl_ix (Y := Y) hy) (wr_ix (X := X) hk) rfl
    have h3 := (List.getElem?_eq_some_iff.mp hy).1
    omega
  · omega
theorem w_join_l {D : va_G} {cl : List vw_C} {A : Nat → Prop} {X X1 Y : va_W} {H H1 : Heap} (hP : va_P D cl (X ++ Y) H) (hD : va_D A (X ++ Y)) (hk : ∀ q : Nat, q < H.size → ¬ va_A X H.size q → H1[q]? = H[q]?) (hF : ∀ q, va_A X H.size q → A q) (hP1 : va_P D cl X1 H1) (hD1 : va_D (va_A X H.size) X1) : va_P D cl (X1 ++ Y) H1 ∧ va_D A (X1 ++ Y) := by
  refine ⟨va_P.app hP1 (fun k q hq => ?_), va_D.app (hD1.weaken (fun k q _ h => hF q.1 h)) (wr_D hD) (fun i j x y hx hy e => ?_)⟩
  · obtain ⟨g1, g2⟩ := w_out_r hP hD hq
    exact (wr_P hP k q hq).kept (hk q.1 g1 g2)
  · exact (w_out_r hP hD hy).2 (by rw [← e]; exact hD1.2 i x hx)
theorem w_join_r {D : va_G} {cl : List vw_C} {A : Nat → Prop} {X Y Y1 : va_W} {H H1 : Heap} (hP : va_P D cl (X ++ Y) H) (hD : va_D A (X ++ Y)) (hk : ∀ q : Nat, q < H.size → ¬ va_A Y H.size q → H1[q]? = H[q]?) (hF : ∀ q, va_A Y H.size q → A q) (hP1 : va_P D cl Y1 H1) (hD1 : va_D (va_A Y H.size) Y1) : va_P D cl (X ++ Y1) H1 ∧ va_D A (X ++ Y1) := by
  refine ⟨va_P.app (fun k q hq => ?_) hP1, va_D.app (wl_D hD) (hD1.weaken (fun k q _ h => hF q.1 h)) (fun i j x y hx hy e => ?_)⟩
  · obtain ⟨g1, g2⟩ := w_out_l hP hD hq
    exact (wl_P hP k q hq).kept (hk q.1 g1 g2)
  · exact (w_out_l hP hD hx).2 (by rw [e]; exact hD1.2 j y hy)
theorem y_preU {s : State} {H : Heap} {locs : List Loc} {A : Nat → Prop} {G : GT} {t : Nat → Nat} {av : List Value} {w : va_W} (hC : Cx G s) (h1 : T1 t A s s.heap) (h2 : T2 t A s s.heap) (hS : va_S A s.heap H locs) (hF : ∀ q, va_A w H.size q → A q) (hP : va_P G.1 vwCl w H) (hD : va_D A w) : ∀ U : State, U.heap = H → s.WarmedH U.vm → PreU G t av w H.size av.toArray U := fun U hU hW =>
  ⟨rfl, by rw [hU], by rw [hU]; exact hP, hC.warm hW, hD.weaken (fun _ _ _ _ => trivial), by rw [hU]; exact T1.moved hW.alike ⟨(h1.1.kept hS.2.1).narrow hF, (h1.2.kept hS.2.1).narrow hF⟩, by rw [hU]; exact T2.moved hW.alike ⟨(h2.1.kept hS.2.1).narrow hF, (h2.2.kept hS.2.1).narrow hF⟩⟩
