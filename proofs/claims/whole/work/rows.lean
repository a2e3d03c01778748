section
-- ===== PART A: goes FIRST, ahead of the names: the tables' words, and 'selects' of the private methods out of them =====
/-- a private method of a class that the tables say can be made, by its rows of tables_1 -/
def lw_okq (q : MethodName × Nat) : Prop := (q.1.cls ≠ "java/lang/invoke/MethodHandle" ∧ q.1.cls ≠ "java/lang/invoke/VarHandle") ∧ Cond.instantiable q.1.cls q.2 ∈ tables_1 ∧ Cond.privateMethod q.1 ∈ tables_1 ∧ Cond.instanceMethod q.1 ∈ tables_1
theorem lw_p0 : lw_okq (⟨"HeadMarks", "layNow", "()V"⟩, 6) := ⟨⟨by decide +kernel, by decide +kernel⟩, List.mem_of_getElem? (i := 9) (by decide +kernel), List.mem_of_getElem? (i := 163) (by decide +kernel), List.mem_of_getElem? (i := 164) (by decide +kernel)⟩
theorem lw_p1 : lw_okq (⟨"HeadMarks$Layout", "opensPage", "(LHeadMarks$Book;II)Z"⟩, 9) := ⟨⟨by decide +kernel, by decide +kernel⟩, List.mem_of_getElem? (i := 71) (by decide +kernel), List.mem_of_getElem? (i := 171) (by decide +kernel), List.mem_of_getElem? (i := 172) (by decide +kernel)⟩
theorem lw_p2 : lw_okq (⟨"HeadMarks$Layout", "turnPage", "(LHeadMarks$Book;I)V"⟩, 9) := ⟨⟨by decide +kernel, by decide +kernel⟩, List.mem_of_getElem? (i := 71) (by decide +kernel), List.mem_of_getElem? (i := 176) (by decide +kernel), List.mem_of_getElem? (i := 177) (by decide +kernel)⟩
theorem lw_p3 : lw_okq (⟨"HeadMarks$Layout", "addPage", "(I)V"⟩, 9) := ⟨⟨by decide +kernel, by decide +kernel⟩, List.mem_of_getElem? (i := 71) (by decide +kernel), List.mem_of_getElem? (i := 180) (by decide +kernel), List.mem_of_getElem? (i := 181) (by decide +kernel)⟩
theorem lw_p4 : lw_okq (⟨"HeadMarks$Layout", "putLine", "(LHeadMarks$Book;I)V"⟩, 9) := ⟨⟨by decide +kernel, by decide +kernel⟩, List.mem_of_getElem? (i := 71) (by decide +kernel), List.mem_of_getElem? (i := 187) (by decide +kernel), List.mem_of_getElem? (i := 188) (by decide +kernel)⟩
theorem lw_p5 : lw_okq (⟨"HeadMarks$Layout", "forceBehind", "(II)I"⟩, 9) := ⟨⟨by decide +kernel, by decide +kernel⟩, List.mem_of_getElem? (i := 71) (by decide +kernel), List.mem_of_getElem? (i := 191) (by decide +kernel), List.mem_of_getElem? (i := 192) (by decide +kernel)⟩
theorem lw_p6 : lw_okq (⟨"HeadMarks$Layout", "putMark", "(LHeadMarks$Book;II)V"⟩, 9) := ⟨⟨by decide +kernel, by decide +kernel⟩, List.mem_of_getElem? (i := 71) (by decide +kernel), List.mem_of_getElem? (i := 195) (by decide +kernel), List.mem_of_getElem? (i := 196) (by decide +kernel)⟩
theorem lw_p7 : lw_okq (⟨"HeadMarks$Layout", "headOf", "(LHeadMarks$Book;I)I"⟩, 9) := ⟨⟨by decide +kernel, by decide +kernel⟩, List.mem_of_getElem? (i := 71) (by decide +kernel), List.mem_of_getElem? (i := 199) (by decide +kernel), List.mem_of_getElem? (i := 200) (by decide +kernel)⟩
theorem lw_p8 : lw_okq (⟨"HeadMarks", "countChanged", "(I)I"⟩, 6) := ⟨⟨by decide +kernel, by decide +kernel⟩, List.mem_of_getElem? (i := 9) (by decide +kernel), List.mem_of_getElem? (i := 285) (by decide +kernel), List.mem_of_getElem? (i := 286) (by decide +kernel)⟩
theorem lw_p9 : lw_okq (⟨"HeadMarksModel", "canStand", "(I)Z"⟩, 12) := ⟨⟨by decide +kernel, by decide +kernel⟩, List.mem_of_getElem? (i := 337) (by decide +kernel), List.mem_of_getElem? (i := 396) (by decide +kernel), List.mem_of_getElem? (i := 397) (by decide +kernel)⟩
theorem lw_p10 : lw_okq (⟨"HeadMarksModel", "many", "()I"⟩, 12) := ⟨⟨by decide +kernel, by decide +kernel⟩, List.mem_of_getElem? (i := 337) (by decide +kernel), List.mem_of_getElem? (i := 425) (by decide +kernel), List.mem_of_getElem? (i := 426) (by decide +kernel)⟩
theorem lw_p11 : lw_okq (⟨"HeadMarksModel", "breaks", "()I"⟩, 12) := ⟨⟨by decide +kernel, by decide +kernel⟩, List.mem_of_getElem? (i := 337) (by decide +kernel), List.mem_of_getElem? (i := 429) (by decide +kernel), List.mem_of_getElem? (i := 430) (by decide +kernel)⟩
theorem lw_p12 : lw_okq (⟨"HeadMarksModel", "isLine", "(I)Z"⟩, 12) := ⟨⟨by decide +kernel, by decide +kernel⟩, List.mem_of_getElem? (i := 337) (by decide +kernel), List.mem_of_getElem? (i := 437) (by decide +kernel), List.mem_of_getElem? (i := 438) (by decide +kernel)⟩
theorem lw_p13 : lw_okq (⟨"HeadMarksModel", "layPages", "()V"⟩, 12) := ⟨⟨by decide +kernel, by decide +kernel⟩, List.mem_of_getElem? (i := 337) (by decide +kernel), List.mem_of_getElem? (i := 441) (by decide +kernel), List.mem_of_getElem? (i := 442) (by decide +kernel)⟩
theorem lw_p14 : lw_okq (⟨"HeadMarksModel", "beginPage", "()V"⟩, 12) := ⟨⟨by decide +kernel, by decide +kernel⟩, List.mem_of_getElem? (i := 337) (by decide +kernel), List.mem_of_getElem? (i := 445) (by decide +kernel), List.mem_of_getElem? (i := 446) (by decide +kernel)⟩
theorem lw_p15 : lw_okq (⟨"HeadMarksModel", "isNew", "(II)Z"⟩, 12) := ⟨⟨by decide +kernel, by decide +kernel⟩, List.mem_of_getElem? (i := 337) (by decide +kernel), List.mem_of_getElem? (i := 449) (by decide +kernel), List.mem_of_getElem? (i := 450) (by decide +kernel)⟩
def lw_privs_1 : List (MethodName × Nat) := [(⟨"HeadMarks", "layNow", "()V"⟩, 6), (⟨"HeadMarks$Layout", "opensPage", "(LHeadMarks$Book;II)Z"⟩, 9), (⟨"HeadMarks$Layout", "turnPage", "(LHeadMarks$Book;I)V"⟩, 9), (⟨"HeadMarks$Layout", "addPage", "(I)V"⟩, 9), (⟨"HeadMarks$Layout", "putLine", "(LHeadMarks$Book;I)V"⟩, 9), (⟨"HeadMarks$Layout", "forceBehind", "(II)I"⟩, 9), (⟨"HeadMarks$Layout", "putMark", "(LHeadMarks$Book;II)V"⟩, 9), (⟨"HeadMarks$Layout", "headOf", "(LHeadMarks$Book;I)I"⟩, 9), (⟨"HeadMarks", "countChanged", "(I)I"⟩, 6), (⟨"HeadMarksModel", "canStand", "(I)Z"⟩, 12), (⟨"HeadMarksModel", "many", "()I"⟩, 12), (⟨"HeadMarksModel", "breaks", "()I"⟩, 12), (⟨"HeadMarksModel", "isLine", "(I)Z"⟩, 12), (⟨"HeadMarksModel", "layPages", "()V"⟩, 12), (⟨"HeadMarksModel", "beginPage", "()V"⟩, 12), (⟨"HeadMarksModel", "isNew", "(II)Z"⟩, 12)]
theorem lw_r1 : ∀ q ∈ lw_privs_1, lw_okq q := List.forall_mem_cons.mpr ⟨lw_p0, List.forall_mem_cons.mpr ⟨lw_p1, List.forall_mem_cons.mpr ⟨lw_p2, List.forall_mem_cons.mpr ⟨lw_p3, List.forall_mem_cons.mpr ⟨lw_p4, List.forall_mem_cons.mpr ⟨lw_p5, List.forall_mem_cons.mpr ⟨lw_p6, List.forall_mem_cons.mpr ⟨lw_p7, List.forall_mem_cons.mpr ⟨lw_p8, List.forall_mem_cons.mpr ⟨lw_p9, List.forall_mem_cons.mpr ⟨lw_p10, List.forall_mem_cons.mpr ⟨lw_p11, List.forall_mem_cons.mpr ⟨lw_p12, List.forall_mem_cons.mpr ⟨lw_p13, List.forall_mem_cons.mpr ⟨lw_p14, List.forall_mem_cons.mpr ⟨lw_p15, fun _ h => absurd h List.not_mem_nil⟩⟩⟩⟩⟩⟩⟩⟩⟩⟩⟩⟩⟩⟩⟩⟩
theorem lw_p16 : lw_okq (⟨"HeadMarksModel", "layForce", "(I)V"⟩, 12) := ⟨⟨by decide +kernel, by decide +kernel⟩, List.mem_of_getElem? (i := 337) (by decide +kernel), List.mem_of_getElem? (i := 453) (by decide +kernel), List.mem_of_getElem? (i := 454) (by decide +kernel)⟩
theorem lw_p17 : lw_okq (⟨"HeadMarksModel", "isPage", "(I)Z"⟩, 12) := ⟨⟨by decide +kernel, by decide +kernel⟩, List.mem_of_getElem? (i := 337) (by decide +kernel), List.mem_of_getElem? (i := 461) (by decide +kernel), List.mem_of_getElem? (i := 462) (by decide +kernel)⟩
theorem lw_p18 : lw_okq (⟨"HeadMarksModel", "headOf", "(I)I"⟩, 12) := ⟨⟨by decide +kernel, by decide +kernel⟩, List.mem_of_getElem? (i := 337) (by decide +kernel), List.mem_of_getElem? (i := 465) (by decide +kernel), List.mem_of_getElem? (i := 466) (by decide +kernel)⟩
theorem lw_p19 : lw_okq (⟨"HeadMarksModel", "markOf", "(III)I"⟩, 12) := ⟨⟨by decide +kernel, by decide +kernel⟩, List.mem_of_getElem? (i := 337) (by decide +kernel), List.mem_of_getElem? (i := 469) (by decide +kernel), List.mem_of_getElem? (i := 470) (by decide +kernel)⟩
theorem lw_p20 : lw_okq (⟨"HeadMarksModel", "lineAhead", "(I)I"⟩, 12) := ⟨⟨by decide +kernel, by decide +kernel⟩, List.mem_of_getElem? (i := 337) (by decide +kernel), List.mem_of_getElem? (i := 473) (by decide +kernel), List.mem_of_getElem? (i := 474) (by decide +kernel)⟩
theorem lw_p21 : lw_okq (⟨"HeadMarksModel", "breakMark", "(II)I"⟩, 12) := ⟨⟨by decide +kernel, by decide +kernel⟩, List.mem_of_getElem? (i := 337) (by decide +kernel), List.mem_of_getElem? (i := 477) (by decide +kernel), List.mem_of_getElem? (i := 478) (by decide +kernel)⟩
theorem lw_p22 : lw_okq (⟨"HeadMarksModel", "firstMark", "(II)I"⟩, 12) := ⟨⟨by decide +kernel, by decide +kernel⟩, List.mem_of_getElem? (i := 337) (by decide +kernel), List.mem_of_getElem? (i := 481) (by decide +kernel), List.mem_of_getElem? (i := 482) (by decide +kernel)⟩
theorem lw_p23 : lw_okq (⟨"HeadMarksModel", "isShared", "(I)Z"⟩, 12) := ⟨⟨by decide +kernel, by decide +kernel⟩, List.mem_of_getElem? (i := 337) (by decide +kernel), List.mem_of_getElem? (i := 485) (by decide +kernel), List.mem_of_getElem? (i := 486) (by decide +kernel)⟩
theorem lw_p24 : lw_okq (⟨"HeadMarksModel", "chapterOf", "(I)I"⟩, 12) := ⟨⟨by decide +kernel, by decide +kernel⟩, List.mem_of_getElem? (i := 337) (by decide +kernel), List.mem_of_getElem? (i := 489) (by decide +kernel), List.mem_of_getElem? (i := 490) (by decide +kernel)⟩
theorem lw_p25 : lw_okq (⟨"HeadMarksModel", "chapters", "()I"⟩, 12) := ⟨⟨by decide +kernel, by decide +kernel⟩, List.mem_of_getElem? (i := 337) (by decide +kernel), List.mem_of_getElem? (i := 505) (by decide +kernel), List.mem_of_getElem? (i := 506) (by decide +kernel)⟩
theorem lw_p26 : lw_okq (⟨"HeadMarksModel", "titleLine", "(I)I"⟩, 12) := ⟨⟨by decide +kernel, by decide +kernel⟩, List.mem_of_getElem? (i := 337) (by decide +kernel), List.mem_of_getElem? (i := 509) (by decide +kernel), List.mem_of_getElem? (i := 510) (by decide +kernel)⟩
theorem lw_p27 : lw_okq (⟨"HeadMarksModel", "linesOf", "(IZ)I"⟩, 12) := ⟨⟨by decide +kernel, by decide +kernel⟩, List.mem_of_getElem? (i := 337) (by decide +kernel), List.mem_of_getElem? (i := 513) (by decide +kernel), List.mem_of_getElem? (i := 514) (by decide +kernel)⟩
theorem lw_p28 : lw_okq (⟨"HeadMarksModel", "layHeads", "()V"⟩, 12) := ⟨⟨by decide +kernel, by decide +kernel⟩, List.mem_of_getElem? (i := 337) (by decide +kernel), List.mem_of_getElem? (i := 521) (by decide +kernel), List.mem_of_getElem? (i := 522) (by decide +kernel)⟩
theorem lw_p29 : lw_okq (⟨"HeadMarksModel", "changedBy", "(I)I"⟩, 12) := ⟨⟨by decide +kernel, by decide +kernel⟩, List.mem_of_getElem? (i := 337) (by decide +kernel), List.mem_of_getElem? (i := 525) (by decide +kernel), List.mem_of_getElem? (i := 526) (by decide +kernel)⟩
theorem lw_p30 : lw_okq (⟨"HeadMarksModel", "pagesThat", "(I)I"⟩, 12) := ⟨⟨by decide +kernel, by decide +kernel⟩, List.mem_of_getElem? (i := 337) (by decide +kernel), List.mem_of_getElem? (i := 549) (by decide +kernel), List.mem_of_getElem? (i := 550) (by decide +kernel)⟩
def lw_privs_2 : List (MethodName × Nat) := [(⟨"HeadMarksModel", "layForce", "(I)V"⟩, 12), (⟨"HeadMarksModel", "isPage", "(I)Z"⟩, 12), (⟨"HeadMarksModel", "headOf", "(I)I"⟩, 12), (⟨"HeadMarksModel", "markOf", "(III)I"⟩, 12), (⟨"HeadMarksModel", "lineAhead", "(I)I"⟩, 12), (⟨"HeadMarksModel", "breakMark", "(II)I"⟩, 12), (⟨"HeadMarksModel", "firstMark", "(II)I"⟩, 12), (⟨"HeadMarksModel", "isShared", "(I)Z"⟩, 12), (⟨"HeadMarksModel", "chapterOf", "(I)I"⟩, 12), (⟨"HeadMarksModel", "chapters", "()I"⟩, 12), (⟨"HeadMarksModel", "titleLine", "(I)I"⟩, 12), (⟨"HeadMarksModel", "linesOf", "(IZ)I"⟩, 12), (⟨"HeadMarksModel", "layHeads", "()V"⟩, 12), (⟨"HeadMarksModel", "changedBy", "(I)I"⟩, 12), (⟨"HeadMarksModel", "pagesThat", "(I)I"⟩, 12)]
theorem lw_r2 : ∀ q ∈ lw_privs_2, lw_okq q := List.forall_mem_cons.mpr ⟨lw_p16, List.forall_mem_cons.mpr ⟨lw_p17, List.forall_mem_cons.mpr ⟨lw_p18, List.forall_mem_cons.mpr ⟨lw_p19, List.forall_mem_cons.mpr ⟨lw_p20, List.forall_mem_cons.mpr ⟨lw_p21, List.forall_mem_cons.mpr ⟨lw_p22, List.forall_mem_cons.mpr ⟨lw_p23, List.forall_mem_cons.mpr ⟨lw_p24, List.forall_mem_cons.mpr ⟨lw_p25, List.forall_mem_cons.mpr ⟨lw_p26, List.forall_mem_cons.mpr ⟨lw_p27, List.forall_mem_cons.mpr ⟨lw_p28, List.forall_mem_cons.mpr ⟨lw_p29, List.forall_mem_cons.mpr ⟨lw_p30, fun _ h => absurd h List.not_mem_nil⟩⟩⟩⟩⟩⟩⟩⟩⟩⟩⟩⟩⟩⟩⟩
def lw_privs : List (MethodName × Nat) := lw_privs_1 ++ (lw_privs_2)
def lw_tbl : List Cond := k2_sels lw_privs ++ tables_1
theorem lw_privs_ok : ∀ q ∈ lw_privs, lw_okq q := by
  show ∀ q ∈ lw_privs_1 ++ (lw_privs_2), lw_okq q
  exact List.forall_mem_append.mpr ⟨lw_r1, lw_r2⟩
-- ===== end of PART A; then your names; then what follows =====
end
section
/-- an array class over arrays of ty is there: kept as va_AO is for objects -/
def va_AOA (ty : FieldType) (U : State) : Prop := (Cond.arrayOver (.array ty)).before #[] U = true
theorem va_AOA.of {ty : FieldType} {A : Array Value} {U : State} (h : (Cond.arrayOver (.array ty)).before A U = true) : va_AOA ty U := h
theorem va_AOA.use {ty : FieldType} {A : Array Value} {U : State} (h : va_AOA ty U) : (Cond.arrayOver (.array ty)).before A U = true := h
end
section
/-! ===== BEGIN words of one list among another's, by their places ===== -/
theorem goodIn_r {big : List Cond} (ws : List Cond) (ps : List Nat) (hp : ws = ps.filterMap (fun i => big[i]?)) (h : ws.all goodWord = true) : GoodIn big ws := by
  intro w hw
  have h1 := List.all_eq_true.mp h w hw
  rw [hp] at hw
  obtain ⟨i, -, hi⟩ := List.mem_filterMap.mp hw
  have hm : w ∈ big := by first | exact List.mem_of_getElem? hi | exact List.getElem?_mem hi
  exact ⟨hm, good_of_word h1⟩
theorem goodIn_app {big a b : List Cond} (ha : GoodIn big a) (hb : GoodIn big b) : GoodIn big (a ++ b) := fun w h => (List.mem_append.mp h).elim (ha w) (hb w)
theorem goodIn_ca {big a b : List Cond} {c : Cond} (ha : GoodIn big (c :: a)) (hb : GoodIn big b) : GoodIn big (c :: (a ++ b)) := fun w h => (List.mem_cons.mp h).elim (fun e => ha w (List.mem_cons.mpr (Or.inl e))) (fun h => (List.mem_append.mp h).elim (fun h => ha w (List.mem_cons.mpr (Or.inr h))) (hb w))
theorem goodIn_sub {big ws : List Cond} (hm : ∀ w ∈ ws, w ∈ big) (h : ws.all goodWord = true) : GoodIn big ws := fun w hw => ⟨hm w hw, good_of_word (List.all_eq_true.mp h w hw)⟩
/-! ===== END ===== -/

/-! ===== BEGIN new T[n][m]: the outer array a place, the inner ones among the pooled ===== -/
/-- f, but v at every address of l -/
def vr_up {α : Type} (f : Nat → α) (l : List Nat) (v : α) : Nat → α := fun a => if a ∈ l then v else f a
theorem vr_up_in {α : Type} {f : Nat → α} {l : List Nat} {v : α} {a : Nat} (h : a ∈ l) : vr_up f l v a = v := if_pos h
theorem vr_up_ne {α : Type} {f : Nat → α} {l : List Nat} {v : α} {a : Nat} (h : a ∉ l) : vr_up f l v a = f a := if_neg h
theorem vr_rows {L l : List Nat} {f : Nat → va_E} {e : va_E} (h : ∀ a, a ∈ l → a ∉ L) : va_pl L f ++ l.map (fun a => (a, e)) = va_pl (L ++ l) (vr_up f l e) := by
  unfold va_pl
  rw [List.map_append]
  congr 1
  · apply List.map_congr_left
    intro a ha
    rw [vr_up_ne (fun q => h a q ha)]
  · apply List.map_congr_left
    intro a ha
    rw [vr_up_in ha]
theorem vr_lay {X rows : va_W} {x : Nat × va_E} {pl : va_W} {D : va_G} {cl : List vw_C} {H : Heap} (hP : va_P D cl (((X ++ pl) ++ [x]) ++ rows) H) : va_P D cl ((X ++ [x]) ++ (pl ++ rows)) H := by
  rw [List.append_assoc (X ++ pl)] at hP
  have h := va_P.swap hP
  rw [← List.append_assoc X] at h
  have h2 := va_P.swap h
  rw [List.append_assoc (X ++ [x])] at h2
  exact h2
theorem vr_layD {X rows : va_W} {x : Nat × va_E} {pl : va_W} {A : Nat → Prop} (hD : va_D A (((X ++ pl) ++ [x]) ++ rows)) : va_D A ((X ++ [x]) ++ (pl ++ rows)) := by
  rw [List.append_assoc (X ++ pl)] at hD
  have h := va_D.swap hD
  rw [← List.append_assoc X] at h
  have h2 := va_D.swap h
  rw [List.append_assoc (X ++ [x])] at h2
  exact h2
theorem vr_outer (c : ClassId) (N h0 : Nat) : ∀ i : Nat, Jvm.Free.Multi.outerC c N h0 i = arrV c N (fun j => va_rf (if j < i then some (h0 + 1 + j) else none))
  | 0 => by
    show ({ cls := c, slots := Array.replicate N .null, vm := .none } : Cell) = _
    rw [arrV_new]
    refine congrArg (arrV c N) (funext fun j => ?_)
    simp [va_rf]
  | i + 1 => by
    show (Jvm.Free.Multi.outerC c N h0 i).setSlot i (.ref (h0 + 1 + i)) = _
    rw [vr_outer c N h0 i, arrV_store]
    refine congrArg (arrV c N) (funext fun j => ?_)
    by_cases e : j = i
    · subst e
      simp [updV, va_rf]
    · by_cases h : j < i
      · simp [updV, e, h, Nat.lt_succ_of_lt h]
      · simp [updV, e, h, show ¬ j < i + 1 by omega]
section VGM
variable {p : Program} {l : Launch} {e : Env} {R : Room} {s : State} {m : MethodId} {args : Array Value} {below : List Frame} {meth : Method} {c : Code} {H : Heap} {locs : List Loc} {cells slots : Nat} {Q : State → Prop}
variable {cc : ByteArray} {pc : Nat} {ls : Array Slot} {rest : List Value} {D : va_G} {cl : List vw_C} {A : Nat → Prop} {a : Nat} {tys : List (ClassId × FieldType)} {ws : va_W} {H0 : Heap}
theorem va_mna {X : va_W} {L : List Nat} {f : Nat → va_E} {cc : ByteArray} (hexec : p.tables.exec = Jvm.exec) (hb : c.code = cc) {own : String} {index : Nat} {ty : FieldType} {cy : ClassId} (hown : s.vm.findClass own = some m.cls) (hclink : (Cond.classLink own index ("[" ++ (FieldType.array ty).toString)).before args s = true) (hover : va_AOA ty s) (harr : (Cond.arrayClass ty).before args s = true) (hcy : s.vm.findClass (FieldType.array ty).toString = some cy)
    (hK : va_K D cl tys s) (hP : va_P D cl (X ++ va_pl L f) H) (hD : va_D A (X ++ va_pl L f)) (hS : va_S A H0 H locs) (hA : ∀ q, H0.size ≤ q → A q) {n k : Int32} {N' K' : Nat} {z : vp_A} (hn : ¬ n < 0) (hk : ¬ k < 0) (hN : n.toNatClampNeg = N') (hM : k.toNatClampNeg = K')
    (hb1 : N' * 4 ≤ 536870912) (hb2 : K' * componentBytes ty ≤ 536870912) (hb3 : K' ≤ 536870912) (hdf : fits ty (defaultValue ty) = true) (hdd : (defaultValue ty).isDefault = true) (hcells : cells + (1 + N') ≤ R.cells) (hslots : slots + (N' + N' * K') ≤ R.slots) (hz : ∀ c : ClassId, Jvm.Free.Multi.innerC c K' (defaultValue ty) = vp_cell c z) (hdg : decode cc pc = .ok (.multianewarray index 2, 4))
    (kk : ∀ (q : Nat) (r : Nat → Nat) (cA : ClassId) (H1 : Heap), (∀ i j : Nat, i < N' → j < N' → r i = r j → i = j) → (∀ i : Nat, i < N' → r i ∉ L) → va_K D cl (tys ++ [(cA, .array ty)]) s →
      va_P D cl ((X ++ [(q, .inl (cA, N', .inr (.inr (.inr (.inr (fun i => if i < N' then some (r i) else none))))))]) ++ va_pl (L ++ (List.range N').map r) (vr_up f ((List.range N').map r) (.inl (cy, z)))) H1 → va_D A ((X ++ [(q, .inl (cA, N', .inr (.inr (.inr (.inr (fun i => if i < N' then some (r i) else none))))))]) ++ va_pl (L ++ (List.range N').map r) (vr_up f ((List.range N').map r) (.inl (cy, z)))) → va_S A H0 H1 locs →
      W p l e R s m args below meth c H1 locs (cells + 1 + N') (slots + N' + N' * K') Q (F0 m (pc + 4) ls (.ref q :: rest))) : W p l e R s m args below meth c H locs cells slots Q (F0 m pc ls (.int k :: .int n :: rest)) := by
  subst hN
  subst hM
  intro T hT Xs
  obtain ⟨vm₁, cA, comp, -, fA, fC, hO, -, X', step⟩ := Xs.multianewarray2F hexec hown hclink (va_AOA.use hover) harr (g := F0 m pc ls (.int k :: .int n :: rest)) rfl (by rw [hb]; exact hdg) rfl hn hk hb1 hb2 hb3 hdf hdd hcells hslots
  have ec : some cy = some comp := hcy.symm.trans fC
  cases ec
  generalize hF : Jvm.Free.Multi.fill (T.setVm vm₁) cA cy n.toNatClampNeg k.toNatClampNeg (defaultValue ty) n.toNatClampNeg = F at X' step
  have hTh : (T.setVm vm₁).heap = H := hT
  obtain ⟨f1, f2, -, -⟩ := Jvm.Free.Multi.fill_facts (T.setVm vm₁) cA cy n.toNatClampNeg k.toNatClampNeg (defaultValue ty) n.toNatClampNeg
  rw [hF, hTh] at f1 f2
  have hold : ∀ x : Nat, x < H.size → F.heap[x]? = H[x]? := fun x hx => by
    have := Jvm.Free.Multi.fill_old (T.setVm vm₁) cA cy n.toNatClampNeg k.toNatClampNeg (defaultValue ty) (a := x) (by rw [hTh]; exact hx) n.toNatClampNeg
    rw [hF, hTh] at this
    exact this
  have hrow : ∀ j : Nat, j < n.toNatClampNeg → F.heap[H.size + 1 + j]? = some (vp_cell cy z) := fun j hj => by
    have := Jvm.Free.Multi.fill_inner (T.setVm vm₁) cA cy n.toNatClampNeg k.toNatClampNeg (defaultValue ty) n.toNatClampNeg j hj
    rw [hF, hTh, hz] at this
    exact this
  have hout : Jvm.Free.Multi.outerC cA n.toNatClampNeg H.size n.toNatClampNeg = vp_cell cA (n.toNatClampNeg, .inr (.inr (.inr (.inr (fun i => if i < n.toNatClampNeg then some (H.size + 1 + i) else none))))) := by
    rw [vp_cell_q]
    exact vr_outer cA n.toNatClampNeg H.size n.toNatClampNeg
  rw [hout] at f2
  have hlt : ∀ a, a ∈ L → a < H.size := fun a ha => by
    obtain ⟨k9, hk9⟩ := va_pl_get (X := X) (f := f) ha
    exact (hP k9 _ hk9).lt
  have hnl : ∀ i : Nat, i < n.toNatClampNeg → H.size + 1 + i ∉ L := fun i _ h => by
    have := hlt _ h
    omega
  have hnm : ∀ a, a ∈ (List.range n.toNatClampNeg).map (fun i => H.size + 1 + i) → a ∉ L := fun a ha h => by
    obtain ⟨i, -, rfl⟩ := List.mem_map.mp ha
    have := hlt _ h
    omega
  have hP0 : va_P D cl (X ++ va_pl L f) F.heap := hP.kept (fun k9 x hx => hold x.1 ((hP k9 x hx).lt))
  have hP1 : va_P D cl ((X ++ va_pl L f) ++ [(H.size, .inl (cA, n.toNatClampNeg, .inr (.inr (.inr (.inr (fun i => if i < n.toNatClampNeg then some (H.size + 1 + i) else none))))))]) F.heap := hP0.app (fun k9 x hx => by
    have h0 : k9 < 1 := (List.getElem?_eq_some_iff.mp hx).1
    rw [show k9 = 0 by omega] at hx
    cases hx
    exact f2)
  have hP2 : va_P D cl (((X ++ va_pl L f) ++ [(H.size, .inl (cA, n.toNatClampNeg, .inr (.inr (.inr (.inr (fun i => if i < n.toNatClampNeg then some (H.size + 1 + i) else none))))))]) ++ ((List.range n.toNatClampNeg).map (fun i => H.size + 1 + i)).map (fun a => (a, .inl (cy, z)))) F.heap := hP1.app (fun k9 x hx => by
    obtain ⟨a, ha, rfl⟩ := List.mem_map.mp (List.mem_of_getElem? hx)
    obtain ⟨i, hi, rfl⟩ := List.mem_map.mp ha
    exact hrow i (List.mem_range.mp hi))
  have hD2 : va_D A (((X ++ va_pl L f) ++ [(H.size, .inl (cA, n.toNatClampNeg, .inr (.inr (.inr (.inr (fun i => if i < n.toNatClampNeg then some (H.size + 1 + i) else none))))))]) ++ ((List.range n.toNatClampNeg).map (fun i => H.size + 1 + i)).map (fun a => (a, .inl (cy, z)))) := by
    have hD1 := hD.push (e := .inl (cA, n.toNatClampNeg, .inr (.inr (.inr (.inr (fun i => if i < n.toNatClampNeg then some (H.size + 1 + i) else none)))))) hP rfl (hA _ hS.1)
    generalize hW1 : (X ++ va_pl L f) ++ [(H.size, .inl (cA, n.toNatClampNeg, .inr (.inr (.inr (.inr (fun i => if i < n.toNatClampNeg then some (H.size + 1 + i) else none))))))] = W1 at hD1 hP1 ⊢
    have hle : ∀ (k9 : Nat) (x : Nat × va_E), W1[k9]? = some x → x.1 ≤ H.size := fun k9 x hx => by
      rw [← hW1] at hx
      by_cases hl : k9 < (X ++ va_pl L f).length
      · rw [List.getElem?_append_left hl] at hx
        exact Nat.le_of_lt ((hP k9 x hx).lt)
      · rw [List.getElem?_append_right (by omega)] at hx
        have h0 : k9 - (X ++ va_pl L f).length < 1 := (List.getElem?_eq_some_iff.mp hx).1
        rw [show k9 - (X ++ va_pl L f).length = 0 by omega] at hx
        cases hx
        exact Nat.le_refl _
    have hr : ∀ (k9 : Nat) (x : Nat × va_E), (((List.range n.toNatClampNeg).map (fun i => H.size + 1 + i)).map (fun a => ((a, .inl (cy, z)) : Nat × va_E)))[k9]? = some x → x.1 = H.size + 1 + k9 := fun k9 x hx => by
      rw [List.getElem?_map, List.getElem?_map] at hx
      by_cases h9 : k9 < n.toNatClampNeg
      · rw [List.getElem?_range h9] at hx
        cases hx
        rfl
      · have hn0 : (List.range n.toNatClampNeg)[k9]? = none := List.getElem?_eq_none (by rw [List.length_range]; omega)
        rw [hn0] at hx
        cases hx
    refine ⟨fun i j x y hi hj hxy => ?_, fun k9 x hx => ?_⟩
    · by_cases h1 : i < W1.length <;> by_cases h2 : j < W1.length
      · rw [List.getElem?_append_left h1] at hi
        rw [List.getElem?_append_left h2] at hj
        exact hD1.1 i j x y hi hj hxy
      · rw [List.getElem?_append_left h1] at hi
        rw [List.getElem?_append_right (by omega)] at hj
        have := hle _ _ hi
        have := hr _ _ hj
        omega
      · rw [List.getElem?_append_right (by omega)] at hi
        rw [List.getElem?_append_left h2] at hj
        have := hle _ _ hj
        have := hr _ _ hi
        omega
      · rw [List.getElem?_append_right (by omega)] at hi hj
        have := hr _ _ hi
        have := hr _ _ hj
        omega
    · by_cases h1 : k9 < W1.length
      · rw [List.getElem?_append_left h1] at hx
        exact hD1.2 k9 x hx
      · rw [List.getElem?_append_right (by omega)] at hx
        have := hr _ _ hx
        exact hA _ (by have := hS.1; omega)
  have hAr : ArrOfT s cA (.array ty) := fun N9 z9 => by
    obtain ⟨-, k9, hk9, cm9, hkk9⟩ := (hO 0 0 0).1
    exact ⟨(fun q hq => by cases hq), k9, hk9, cm9, hkk9⟩
  have hK2 : va_K D cl (tys ++ [(cA, .array ty)]) s := ⟨hK.1, fun k9 x hx => by
    by_cases hl : k9 < tys.length
    · rw [List.getElem?_append_left hl] at hx
      exact hK.2 k9 x hx
    · rw [List.getElem?_append_right (by omega)] at hx
      have h0 : k9 - tys.length < 1 := (List.getElem?_eq_some_iff.mp hx).1
      rw [show k9 - tys.length = 0 by omega] at hx
      cases hx
      exact ⟨hAr, fA⟩⟩
  obtain ⟨t, a1, b1⟩ := kk H.size (fun i => H.size + 1 + i) cA F.heap (fun i j _ _ h => by have h9 : H.size + 1 + i = H.size + 1 + j := h; omega) hnl hK2 (by rw [← vr_rows hnm]; exact vr_lay hP2) (by rw [← vr_rows hnm]; exact vr_layD hD2) ⟨by rw [f1]; have := hS.1; omega, fun x h1 h2 => (hold x (Nat.lt_of_lt_of_le h1 hS.1)).trans (hS.2.1 x h1 h2), hS.2.2⟩ F rfl X'
  refine ⟨t, step t ?_, b1⟩
  have e : T.heap.size = H.size := by rw [hT]
  rw [e]
  exact a1
end VGM
/-! ===== END ===== -/
end
section
/-! ===== BEGIN printed: names, fields, word lists, decode rows ===== -/
def RX0 : String := "HeadMarks$Book"
def TX0 : u_T := fun k => match k with
  | 0 => ("HeadMarks$Book", "signs", "[I", true)
  | 1 => ("HeadMarks$Book", "broken", "[I", true)
  | 2 => ("HeadMarks$Book", "rules", "[I", true)
  | _ => ("HeadMarks$Book", "lines", "I", false)
def tyX0 : Nat → FieldType := fun k => match k with
  | 0 => .array .int
  | 1 => .array .int
  | 2 => .array .int
  | _ => .int
abbrev wsX00 : List Cond := u_ws RX0 TX0 4
theorem nmX0 : ∀ a, a < 4 → ∀ b, b < 4 → a ≠ b → (TX0 a).2.1 ≠ (TX0 b).2.1 := by decide +kernel
theorem tyX0_ok : ∀ k, k < 4 → parseFieldDescriptor (TX0 k).2.2.1 = some (tyX0 k) := by decide +kernel
abbrev cX0_init : ByteArray := prog_2_method_1_code
def yX0_init : MethodName := ⟨RX0, "<init>", "()V"⟩
abbrev cX0_takeText : ByteArray := prog_2_method_2_code
def yX0_takeText : MethodName := ⟨RX0, "takeText", "(LHeadMarks$Pad;)V"⟩
abbrev cX0_copyFrom : ByteArray := prog_2_method_3_code
def yX0_copyFrom : MethodName := ⟨RX0, "copyFrom", "(LHeadMarks$Book;)V"⟩
abbrev cX0_mayRule : ByteArray := prog_2_method_4_code
def yX0_mayRule : MethodName := ⟨RX0, "mayRule", "(II)Z"⟩
abbrev cX0_canBreakAhead : ByteArray := prog_2_method_5_code
def yX0_canBreakAhead : MethodName := ⟨RX0, "canBreakAhead", "(I)Z"⟩
abbrev cX0_countBreaks : ByteArray := prog_2_method_6_code
def yX0_countBreaks : MethodName := ⟨RX0, "countBreaks", "()I"⟩
abbrev cX0_countSections : ByteArray := prog_2_method_7_code
def yX0_countSections : MethodName := ⟨RX0, "countSections", "(II)I"⟩
def RX1 : String := "HeadMarks$Layout"
def TX1 : u_T := fun k => match k with
  | 0 => ("HeadMarks$Layout", "pageOf", "[I", true)
  | 1 => ("HeadMarks$Layout", "chapterOf", "[I", true)
  | 2 => ("HeadMarks$Layout", "inForce", "[[I", true)
  | 3 => ("HeadMarks$Layout", "linesAhead", "[I", true)
  | 4 => ("HeadMarks$Layout", "linesOn", "[I", true)
  | 5 => ("HeadMarks$Layout", "ownFirst", "[[I", true)
  | 6 => ("HeadMarks$Layout", "heads", "[I", true)
  | 7 => ("HeadMarks$Layout", "lines", "I", false)
  | _ => ("HeadMarks$Layout", "pages", "I", false)
def tyX1 : Nat → FieldType := fun k => match k with
  | 0 => .array .int
  | 1 => .array .int
  | 2 => .array (.array .int)
  | 3 => .array .int
  | 4 => .array .int
  | 5 => .array (.array .int)
  | 6 => .array .int
  | 7 => .int
  | _ => .int
abbrev wsX10 : List Cond := u_ws RX1 TX1 9
theorem nmX1 : ∀ a, a < 9 → ∀ b, b < 9 → a ≠ b → (TX1 a).2.1 ≠ (TX1 b).2.1 := by decide +kernel
theorem tyX1_ok : ∀ k, k < 9 → parseFieldDescriptor (TX1 k).2.2.1 = some (tyX1 k) := by decide +kernel
abbrev cX1_init : ByteArray := prog_3_method_1_code
def yX1_init : MethodName := ⟨RX1, "<init>", "()V"⟩
abbrev cX1_lay : ByteArray := prog_3_method_2_code
def yX1_lay : MethodName := ⟨RX1, "lay", "(LHeadMarks$Book;II)V"⟩
abbrev cX1_opensPage : ByteArray := prog_3_method_3_code
def yX1_opensPage : MethodName := ⟨RX1, "opensPage", "(LHeadMarks$Book;II)Z"⟩
abbrev cX1_turnPage : ByteArray := prog_3_method_4_code
def yX1_turnPage : MethodName := ⟨RX1, "turnPage", "(LHeadMarks$Book;I)V"⟩
abbrev cX1_addPage : ByteArray := prog_3_method_5_code
def yX1_addPage : MethodName := ⟨RX1, "addPage", "(I)V"⟩
abbrev cX1_putLine : ByteArray := prog_3_method_6_code
def yX1_putLine : MethodName := ⟨RX1, "putLine", "(LHeadMarks$Book;I)V"⟩
abbrev cX1_putMark : ByteArray := prog_3_method_7_code
def yX1_putMark : MethodName := ⟨RX1, "putMark", "(LHeadMarks$Book;II)V"⟩
abbrev cX1_forceBehind : ByteArray := prog_3_method_8_code
def yX1_forceBehind : MethodName := ⟨RX1, "forceBehind", "(II)I"⟩
abbrev cX1_headOf : ByteArray := prog_3_method_9_code
def yX1_headOf : MethodName := ⟨RX1, "headOf", "(LHeadMarks$Book;I)I"⟩
abbrev cX1_markOf : ByteArray := prog_3_method_10_code
def yX1_markOf : MethodName := ⟨RX1, "markOf", "(III)I"⟩
abbrev cX1_hasPage : ByteArray := prog_3_method_11_code
def yX1_hasPage : MethodName := ⟨RX1, "hasPage", "(I)Z"⟩
abbrev cX1_headOrNone : ByteArray := prog_3_method_12_code
def yX1_headOrNone : MethodName := ⟨RX1, "headOrNone", "(I)I"⟩
abbrev cX1_isShared : ByteArray := prog_3_method_13_code
def yX1_isShared : MethodName := ⟨RX1, "isShared", "(I)Z"⟩
abbrev cX1_titleLineOf : ByteArray := prog_3_method_14_code
def yX1_titleLineOf : MethodName := ⟨RX1, "titleLineOf", "(I)I"⟩
abbrev cX1_lastLineOf : ByteArray := prog_3_method_15_code
def yX1_lastLineOf : MethodName := ⟨RX1, "lastLineOf", "(I)I"⟩
abbrev cX1_countChapters : ByteArray := prog_3_method_16_code
def yX1_countChapters : MethodName := ⟨RX1, "countChapters", "()I"⟩
abbrev cX1_countBlank : ByteArray := prog_3_method_17_code
def yX1_countBlank : MethodName := ⟨RX1, "countBlank", "()I"⟩
abbrev cX1_countShared : ByteArray := prog_3_method_18_code
def yX1_countShared : MethodName := ⟨RX1, "countShared", "()I"⟩
abbrev cX1_countHeads : ByteArray := prog_3_method_19_code
def yX1_countHeads : MethodName := ⟨RX1, "countHeads", "()I"⟩
abbrev cX1_isLeft : ByteArray := prog_3_method_20_code
def yX1_isLeft : MethodName := ⟨RX1, "isLeft", "(I)Z"⟩
def RX2 : String := "HeadMarks$Pad"
def TX2 : u_T := fun k => match k with
  | 0 => ("HeadMarks$Pad", "signs", "[I", true)
  | _ => ("HeadMarks$Pad", "size", "I", false)
def tyX2 : Nat → FieldType := fun k => match k with
  | 0 => .array .int
  | _ => .int
abbrev wsX20 : List Cond := u_ws RX2 TX2 2
theorem nmX2 : ∀ a, a < 2 → ∀ b, b < 2 → a ≠ b → (TX2 a).2.1 ≠ (TX2 b).2.1 := by decide +kernel
theorem tyX2_ok : ∀ k, k < 2 → parseFieldDescriptor (TX2 k).2.2.1 = some (tyX2 k) := by decide +kernel
abbrev cX2_init : ByteArray := prog_4_method_1_code
def yX2_init : MethodName := ⟨RX2, "<init>", "()V"⟩
abbrev cX2_append : ByteArray := prog_4_method_2_code
def yX2_append : MethodName := ⟨RX2, "append", "(I)V"⟩
abbrev cX2_faultPlace : ByteArray := prog_4_method_3_code
def yX2_faultPlace : MethodName := ⟨RX2, "faultPlace", "()I"⟩
def RX3 : String := "HeadMarks"
def TX3 : u_T := fun k => match k with
  | 0 => ("HeadMarks", "pad", "LHeadMarks$Pad;", true)
  | 1 => ("HeadMarks", "book", "LHeadMarks$Book;", true)
  | 2 => ("HeadMarks", "images", "[LHeadMarks$Book;", true)
  | 3 => ("HeadMarks", "imagesKept", "I", false)
  | 4 => ("HeadMarks", "now", "LHeadMarks$Layout;", true)
  | _ => ("HeadMarks", "trial", "LHeadMarks$Layout;", true)
def tyX3 : Nat → FieldType := fun k => match k with
  | 0 => .object "HeadMarks$Pad"
  | 1 => .object "HeadMarks$Book"
  | 2 => .array (.object "HeadMarks$Book")
  | 3 => .int
  | 4 => .object "HeadMarks$Layout"
  | _ => .object "HeadMarks$Layout"
abbrev wsX30 : List Cond := u_ws RX3 TX3 6
theorem nmX3 : ∀ a, a < 6 → ∀ b, b < 6 → a ≠ b → (TX3 a).2.1 ≠ (TX3 b).2.1 := by decide +kernel
theorem tyX3_ok : ∀ k, k < 6 → parseFieldDescriptor (TX3 k).2.2.1 = some (tyX3 k) := by decide +kernel
abbrev cX3_init : ByteArray := prog_1_method_1_code
def yX3_init : MethodName := ⟨RX3, "<init>", "()V"⟩
abbrev cX3_say : ByteArray := prog_1_method_2_code
def yX3_say : MethodName := ⟨RX3, "say", "(I)I"⟩
abbrev cX3_wipe : ByteArray := prog_1_method_3_code
def yX3_wipe : MethodName := ⟨RX3, "wipe", "()I"⟩
abbrev cX3_fault : ByteArray := prog_1_method_4_code
def yX3_fault : MethodName := ⟨RX3, "fault", "()I"⟩
abbrev cX3_read : ByteArray := prog_1_method_5_code
def yX3_read : MethodName := ⟨RX3, "read", "()I"⟩
abbrev cX3_rule : ByteArray := prog_1_method_6_code
def yX3_rule : MethodName := ⟨RX3, "rule", "(II)I"⟩
abbrev cX3_cut : ByteArray := prog_1_method_7_code
def yX3_cut : MethodName := ⟨RX3, "cut", "(II)I"⟩
abbrev cX3_line : ByteArray := prog_1_method_8_code
def yX3_line : MethodName := ⟨RX3, "line", "(II)I"⟩
abbrev cX3_page : ByteArray := prog_1_method_9_code
def yX3_page : MethodName := ⟨RX3, "page", "(II)I"⟩
abbrev cX3_mark : ByteArray := prog_1_method_10_code
def yX3_mark : MethodName := ⟨RX3, "mark", "(III)I"⟩
abbrev cX3_headed : ByteArray := prog_1_method_11_code
def yX3_headed : MethodName := ⟨RX3, "headed", "(II)I"⟩
abbrev cX3_chapter : ByteArray := prog_1_method_12_code
def yX3_chapter : MethodName := ⟨RX3, "chapter", "(II)I"⟩
abbrev cX3_changed : ByteArray := prog_1_method_13_code
def yX3_changed : MethodName := ⟨RX3, "changed", "(I)I"⟩
abbrev cX3_worst : ByteArray := prog_1_method_14_code
def yX3_worst : MethodName := ⟨RX3, "worst", "(I)I"⟩
abbrev cX3_fit : ByteArray := prog_1_method_15_code
def yX3_fit : MethodName := ⟨RX3, "fit", "(I)I"⟩
abbrev cX3_image : ByteArray := prog_1_method_16_code
def yX3_image : MethodName := ⟨RX3, "image", "(I)I"⟩
abbrev cX3_restore : ByteArray := prog_1_method_17_code
def yX3_restore : MethodName := ⟨RX3, "restore", "(I)I"⟩
abbrev cX3_count : ByteArray := prog_1_method_18_code
def yX3_count : MethodName := ⟨RX3, "count", "(I)I"⟩
abbrev cX3_layNow : ByteArray := prog_1_method_19_code
def yX3_layNow : MethodName := ⟨RX3, "layNow", "()V"⟩
abbrev cX3_countChanged : ByteArray := prog_1_method_20_code
def yX3_countChanged : MethodName := ⟨RX3, "countChanged", "(I)I"⟩
abbrev cX3_classOf : ByteArray := prog_1_method_21_code
def yX3_classOf : MethodName := ⟨RX3, "classOf", "(I)I"⟩
def RX4 : String := "HeadMarksModel"
def TX4 : u_T := fun k => match k with
  | 0 => ("HeadMarksModel", "state", "[I", true)
  | 1 => ("HeadMarksModel", "images", "[I", true)
  | 2 => ("HeadMarksModel", "isKept", "[Z", true)
  | 3 => ("HeadMarksModel", "pad", "[I", true)
  | 4 => ("HeadMarksModel", "said", "I", false)
  | 5 => ("HeadMarksModel", "pageOf", "[I", true)
  | 6 => ("HeadMarksModel", "placeOf", "[I", true)
  | 7 => ("HeadMarksModel", "force", "[I", true)
  | 8 => ("HeadMarksModel", "firstOn", "[I", true)
  | 9 => ("HeadMarksModel", "linesOn", "[I", true)
  | 10 => ("HeadMarksModel", "pages", "I", false)
  | _ => ("HeadMarksModel", "headNow", "[I", true)
def tyX4 : Nat → FieldType := fun k => match k with
  | 0 => .array .int
  | 1 => .array .int
  | 2 => .array .boolean
  | 3 => .array .int
  | 4 => .int
  | 5 => .array .int
  | 6 => .array .int
  | 7 => .array .int
  | 8 => .array .int
  | 9 => .array .int
  | 10 => .int
  | _ => .array .int
abbrev wsX40 : List Cond := u_ws RX4 TX4 12
theorem nmX4 : ∀ a, a < 12 → ∀ b, b < 12 → a ≠ b → (TX4 a).2.1 ≠ (TX4 b).2.1 := by decide +kernel
theorem tyX4_ok : ∀ k, k < 12 → parseFieldDescriptor (TX4 k).2.2.1 = some (tyX4 k) := by decide +kernel
abbrev cX4_init : ByteArray := prog_6_method_1_code
def yX4_init : MethodName := ⟨RX4, "<init>", "()V"⟩
abbrev cX4_in : ByteArray := prog_6_method_2_code
def yX4_in : MethodName := ⟨RX4, "in", "(III)Z"⟩
abbrev cX4_isChapter : ByteArray := prog_6_method_3_code
def yX4_isChapter : MethodName := ⟨RX4, "isChapter", "(I)Z"⟩
abbrev cX4_isSection : ByteArray := prog_6_method_4_code
def yX4_isSection : MethodName := ⟨RX4, "isSection", "(I)Z"⟩
abbrev cX4_many : ByteArray := prog_6_method_5_code
def yX4_many : MethodName := ⟨RX4, "many", "()I"⟩
abbrev cX4_isLine : ByteArray := prog_6_method_6_code
def yX4_isLine : MethodName := ⟨RX4, "isLine", "(I)Z"⟩
abbrev cX4_say : ByteArray := prog_6_method_7_code
def yX4_say : MethodName := ⟨RX4, "say", "(I)I"⟩
abbrev cX4_wipe : ByteArray := prog_6_method_8_code
def yX4_wipe : MethodName := ⟨RX4, "wipe", "()I"⟩
abbrev cX4_canStand : ByteArray := prog_6_method_9_code
def yX4_canStand : MethodName := ⟨RX4, "canStand", "(I)Z"⟩
abbrev cX4_fault : ByteArray := prog_6_method_10_code
def yX4_fault : MethodName := ⟨RX4, "fault", "()I"⟩
abbrev cX4_read : ByteArray := prog_6_method_11_code
def yX4_read : MethodName := ⟨RX4, "read", "()I"⟩
abbrev cX4_least : ByteArray := prog_6_method_12_code
def yX4_least : MethodName := ⟨RX4, "least", "(I)I"⟩
abbrev cX4_most : ByteArray := prog_6_method_13_code
def yX4_most : MethodName := ⟨RX4, "most", "(I)I"⟩
abbrev cX4_rule : ByteArray := prog_6_method_14_code
def yX4_rule : MethodName := ⟨RX4, "rule", "(II)I"⟩
abbrev cX4_breaks : ByteArray := prog_6_method_15_code
def yX4_breaks : MethodName := ⟨RX4, "breaks", "()I"⟩
abbrev cX4_cut : ByteArray := prog_6_method_16_code
def yX4_cut : MethodName := ⟨RX4, "cut", "(II)I"⟩
abbrev cX4_isNew : ByteArray := prog_6_method_17_code
def yX4_isNew : MethodName := ⟨RX4, "isNew", "(II)Z"⟩
abbrev cX4_beginPage : ByteArray := prog_6_method_18_code
def yX4_beginPage : MethodName := ⟨RX4, "beginPage", "()V"⟩
abbrev cX4_layForce : ByteArray := prog_6_method_19_code
def yX4_layForce : MethodName := ⟨RX4, "layForce", "(I)V"⟩
abbrev cX4_layPages : ByteArray := prog_6_method_20_code
def yX4_layPages : MethodName := ⟨RX4, "layPages", "()V"⟩
abbrev cX4_isPage : ByteArray := prog_6_method_21_code
def yX4_isPage : MethodName := ⟨RX4, "isPage", "(I)Z"⟩
abbrev cX4_breakMark : ByteArray := prog_6_method_22_code
def yX4_breakMark : MethodName := ⟨RX4, "breakMark", "(II)I"⟩
abbrev cX4_lineAhead : ByteArray := prog_6_method_23_code
def yX4_lineAhead : MethodName := ⟨RX4, "lineAhead", "(I)I"⟩
abbrev cX4_firstMark : ByteArray := prog_6_method_24_code
def yX4_firstMark : MethodName := ⟨RX4, "firstMark", "(II)I"⟩
abbrev cX4_markOf : ByteArray := prog_6_method_25_code
def yX4_markOf : MethodName := ⟨RX4, "markOf", "(III)I"⟩
abbrev cX4_headOf : ByteArray := prog_6_method_26_code
def yX4_headOf : MethodName := ⟨RX4, "headOf", "(I)I"⟩
abbrev cX4_line : ByteArray := prog_6_method_27_code
def yX4_line : MethodName := ⟨RX4, "line", "(II)I"⟩
abbrev cX4_chapterOf : ByteArray := prog_6_method_28_code
def yX4_chapterOf : MethodName := ⟨RX4, "chapterOf", "(I)I"⟩
abbrev cX4_isShared : ByteArray := prog_6_method_29_code
def yX4_isShared : MethodName := ⟨RX4, "isShared", "(I)Z"⟩
abbrev cX4_page : ByteArray := prog_6_method_30_code
def yX4_page : MethodName := ⟨RX4, "page", "(II)I"⟩
abbrev cX4_mark : ByteArray := prog_6_method_31_code
def yX4_mark : MethodName := ⟨RX4, "mark", "(III)I"⟩
abbrev cX4_headed : ByteArray := prog_6_method_32_code
def yX4_headed : MethodName := ⟨RX4, "headed", "(II)I"⟩
abbrev cX4_chapters : ByteArray := prog_6_method_33_code
def yX4_chapters : MethodName := ⟨RX4, "chapters", "()I"⟩
abbrev cX4_titleLine : ByteArray := prog_6_method_34_code
def yX4_titleLine : MethodName := ⟨RX4, "titleLine", "(I)I"⟩
abbrev cX4_linesOf : ByteArray := prog_6_method_35_code
def yX4_linesOf : MethodName := ⟨RX4, "linesOf", "(IZ)I"⟩
abbrev cX4_chapter : ByteArray := prog_6_method_36_code
def yX4_chapter : MethodName := ⟨RX4, "chapter", "(II)I"⟩
abbrev cX4_layHeads : ByteArray := prog_6_method_37_code
def yX4_layHeads : MethodName := ⟨RX4, "layHeads", "()V"⟩
abbrev cX4_changedBy : ByteArray := prog_6_method_38_code
def yX4_changedBy : MethodName := ⟨RX4, "changedBy", "(I)I"⟩
abbrev cX4_changed : ByteArray := prog_6_method_39_code
def yX4_changed : MethodName := ⟨RX4, "changed", "(I)I"⟩
abbrev cX4_worst : ByteArray := prog_6_method_40_code
def yX4_worst : MethodName := ⟨RX4, "worst", "(I)I"⟩
abbrev cX4_fit : ByteArray := prog_6_method_41_code
def yX4_fit : MethodName := ⟨RX4, "fit", "(I)I"⟩
abbrev cX4_image : ByteArray := prog_6_method_42_code
def yX4_image : MethodName := ⟨RX4, "image", "(I)I"⟩
abbrev cX4_restore : ByteArray := prog_6_method_43_code
def yX4_restore : MethodName := ⟨RX4, "restore", "(I)I"⟩
abbrev cX4_pagesThat : ByteArray := prog_6_method_44_code
def yX4_pagesThat : MethodName := ⟨RX4, "pagesThat", "(I)I"⟩
abbrev cX4_count : ByteArray := prog_6_method_45_code
def yX4_count : MethodName := ⟨RX4, "count", "(I)I"⟩
def RJx8e188 : String := "java/lang/Cloneable"
def TJx8e188 : u_T := fun k => match k with
  | _ => ("", "", "", false)
def tyJx8e188 : Nat → FieldType := fun k => match k with
  | _ => .int
abbrev wsJx8e1880 : List Cond := u_ws RJx8e188 TJx8e188 0
theorem nmJx8e188 : ∀ a, a < 0 → ∀ b, b < 0 → a ≠ b → (TJx8e188 a).2.1 ≠ (TJx8e188 b).2.1 := by decide +kernel
theorem tyJx8e188_ok : ∀ k, k < 0 → parseFieldDescriptor (TJx8e188 k).2.2.1 = some (tyJx8e188 k) := by decide +kernel
def RJ9 : String := "java/lang/Math"
def TJ9 : u_T := fun k => match k with
  | _ => ("", "", "", false)
def tyJ9 : Nat → FieldType := fun k => match k with
  | _ => .int
abbrev wsJ90 : List Cond := u_ws RJ9 TJ9 0
theorem nmJ9 : ∀ a, a < 0 → ∀ b, b < 0 → a ≠ b → (TJ9 a).2.1 ≠ (TJ9 b).2.1 := by decide +kernel
theorem tyJ9_ok : ∀ k, k < 0 → parseFieldDescriptor (TJ9 k).2.2.1 = some (tyJ9 k) := by decide +kernel
abbrev cJ9_max_7cf53 : ByteArray := prog_8_method_65_code
def yJ9_max_7cf53 : MethodName := ⟨RJ9, "max", "(II)I"⟩
def RJ10 : String := "java/lang/System"
def TJ10 : u_T := fun k => match k with
  | _ => ("", "", "", false)
def tyJ10 : Nat → FieldType := fun k => match k with
  | _ => .int
abbrev wsJ100 : List Cond := u_ws RJ10 TJ10 0
theorem nmJ10 : ∀ a, a < 0 → ∀ b, b < 0 → a ≠ b → (TJ10 a).2.1 ≠ (TJ10 b).2.1 := by decide +kernel
theorem tyJ10_ok : ∀ k, k < 0 → parseFieldDescriptor (TJ10 k).2.2.1 = some (tyJ10 k) := by decide +kernel
def RL : String := "HeadMarksLaw"
abbrev cL_law : ByteArray := code
def yL_law : MethodName := ⟨RL, "law", "([I)Z"⟩
def wsX0_init : List Cond := .code yX0_init cX0_init 1 none :: ([.methodLink RX0 3 objectInit, .instanceMethod objectInit, .code objectInit ⟨#[0xb1]⟩ 1 none, .arrayClass .int, .fieldLink RX0 9 "HeadMarks$Book" "signs" "[I", .fieldLink RX0 15 "HeadMarks$Book" "broken" "[I", .methodLink RX0 21 ⟨"[I", "clone", "()Ljava/lang/Object;"⟩, .sameMethod "[I" "java/lang/Object" "clone" "()Ljava/lang/Object;", .native ⟨"java/lang/Object", "clone", "()Ljava/lang/Object;"⟩, .instanceMethod ⟨"java/lang/Object", "clone", "()Ljava/lang/Object;"⟩, .selects "[I" ⟨"[I", "clone", "()Ljava/lang/Object;"⟩ ⟨"java/lang/Object", "clone", "()Ljava/lang/Object;"⟩, .classLink RX0 22 "[I", .fieldLink RX0 26 "HeadMarks$Book" "rules" "[I", .fieldLink RX0 29 "HeadMarks$Book" "lines" "I"] ++ wsX00)
def wsX0_takeText : List Cond := .code yX0_takeText cX0_takeText 4 none :: ([.fieldLink RX0 29 "HeadMarks$Book" "lines" "I", .fieldLink RX0 33 "HeadMarks$Pad" "size" "I", .fieldLink RX0 38 "HeadMarks$Pad" "signs" "[I", .fieldLink RX0 9 "HeadMarks$Book" "signs" "[I", .fieldLink RX0 15 "HeadMarks$Book" "broken" "[I"] ++ wsX00 ++ wsX20)
def wsX0_copyFrom : List Cond := .code yX0_copyFrom cX0_copyFrom 2 none :: ([.fieldLink RX0 9 "HeadMarks$Book" "signs" "[I", .methodLink RX0 39 arraycopyName, .native arraycopyName, .static arraycopyName, .initialized "java/lang/System", .fieldLink RX0 15 "HeadMarks$Book" "broken" "[I", .fieldLink RX0 26 "HeadMarks$Book" "rules" "[I", .fieldLink RX0 29 "HeadMarks$Book" "lines" "I"] ++ wsX00)
def wsX0_mayRule : List Cond := .code yX0_mayRule cX0_mayRule 5 (some .boolean) :: ([.fieldLink RX0 26 "HeadMarks$Book" "rules" "[I"] ++ wsX00)
def wsX0_canBreakAhead : List Cond := .code yX0_canBreakAhead cX0_canBreakAhead 2 (some .boolean) :: ([.fieldLink RX0 29 "HeadMarks$Book" "lines" "I"] ++ wsX00)
def wsX0_countBreaks : List Cond := .code yX0_countBreaks cX0_countBreaks 3 (some .int) :: ([.fieldLink RX0 29 "HeadMarks$Book" "lines" "I", .fieldLink RX0 15 "HeadMarks$Book" "broken" "[I"] ++ wsX00)
def wsX3_classOf : List Cond := .code yX3_classOf cX3_classOf 1 (some .int) :: ([])
def wsX0_countSections : List Cond := .code yX0_countSections cX0_countSections 5 (some .int) :: ([.fieldLink RX0 9 "HeadMarks$Book" "signs" "[I", .static yX3_classOf, .initialized RX3, .code yX3_classOf cX3_classOf 1 (some .int)] ++ wsX00)
def wsX1_init : List Cond := .code yX1_init cX1_init 1 none :: ([.methodLink RX1 3 objectInit, .instanceMethod objectInit, .code objectInit ⟨#[0xb1]⟩ 1 none, .arrayClass .int, .fieldLink RX1 9 "HeadMarks$Layout" "pageOf" "[I", .fieldLink RX1 15 "HeadMarks$Layout" "chapterOf" "[I", .classLink RX1 18 "[[I", .fieldLink RX1 20 "HeadMarks$Layout" "inForce" "[[I", .fieldLink RX1 23 "HeadMarks$Layout" "linesAhead" "[I", .fieldLink RX1 26 "HeadMarks$Layout" "linesOn" "[I", .fieldLink RX1 29 "HeadMarks$Layout" "ownFirst" "[[I", .fieldLink RX1 32 "HeadMarks$Layout" "heads" "[I", .fieldLink RX1 35 "HeadMarks$Layout" "lines" "I", .fieldLink RX1 39 "HeadMarks$Layout" "pages" "I"] ++ wsX10)
def wsX1_opensPage : List Cond := .code yX1_opensPage cX1_opensPage 6 (some .boolean) :: ([.fieldLink RX1 63 "HeadMarks$Book" "signs" "[I", .fieldLink RX1 26 "HeadMarks$Layout" "linesOn" "[I", .fieldLink RX1 39 "HeadMarks$Layout" "pages" "I", .fieldLink RX1 70 "HeadMarks$Book" "rules" "[I", .static yX3_classOf, .initialized RX3, .code yX3_classOf cX3_classOf 1 (some .int)] ++ wsX00 ++ wsX10)
def wsX1_addPage : List Cond := .code yX1_addPage cX1_addPage 3 none :: ([.fieldLink RX1 39 "HeadMarks$Layout" "pages" "I", .fieldLink RX1 23 "HeadMarks$Layout" "linesAhead" "[I", .fieldLink RX1 26 "HeadMarks$Layout" "linesOn" "[I", .fieldLink RX1 29 "HeadMarks$Layout" "ownFirst" "[[I"] ++ wsX10)
def wsX1_isLeft : List Cond := .code yX1_isLeft cX1_isLeft 1 (some .boolean) :: ([])
def wsX1_turnPage : List Cond := .code yX1_turnPage cX1_turnPage 4 none :: ([.fieldLink RX1 70 "HeadMarks$Book" "rules" "[I", .fieldLink RX1 63 "HeadMarks$Book" "signs" "[I", .fieldLink RX1 39 "HeadMarks$Layout" "pages" "I", .methodLink RX1 73 yX1_addPage, .instanceMethod yX1_addPage, .selects RX1 yX1_addPage yX1_addPage, .initialized RX1, .code yX1_addPage cX1_addPage 3 none, .fieldLink RX1 23 "HeadMarks$Layout" "linesAhead" "[I", .fieldLink RX1 26 "HeadMarks$Layout" "linesOn" "[I", .fieldLink RX1 29 "HeadMarks$Layout" "ownFirst" "[[I", .static yX3_classOf, .initialized RX3, .code yX3_classOf cX3_classOf 1 (some .int), .methodLink RX1 77 yX1_isLeft, .static yX1_isLeft, .code yX1_isLeft cX1_isLeft 1 (some .boolean)] ++ wsX00 ++ wsX10)
def wsX1_forceBehind : List Cond := .code yX1_forceBehind cX1_forceBehind 3 (some .int) :: ([.fieldLink RX1 20 "HeadMarks$Layout" "inForce" "[[I"] ++ wsX10)
def wsX1_putMark : List Cond := .code yX1_putMark cX1_putMark 4 none :: ([.fieldLink RX1 20 "HeadMarks$Layout" "inForce" "[[I", .fieldLink RX1 63 "HeadMarks$Book" "signs" "[I", .fieldLink RX1 29 "HeadMarks$Layout" "ownFirst" "[[I", .fieldLink RX1 39 "HeadMarks$Layout" "pages" "I", .fieldLink RX1 15 "HeadMarks$Layout" "chapterOf" "[I", .fieldLink RX1 70 "HeadMarks$Book" "rules" "[I"] ++ wsX10 ++ wsX00)
def wsX1_putLine : List Cond := .code yX1_putLine cX1_putLine 4 none :: ([.fieldLink RX1 9 "HeadMarks$Layout" "pageOf" "[I", .fieldLink RX1 39 "HeadMarks$Layout" "pages" "I", .fieldLink RX1 26 "HeadMarks$Layout" "linesOn" "[I", .fieldLink RX1 15 "HeadMarks$Layout" "chapterOf" "[I", .fieldLink RX1 20 "HeadMarks$Layout" "inForce" "[[I", .fieldLink RX1 63 "HeadMarks$Book" "signs" "[I", .methodLink RX1 81 yX1_forceBehind, .instanceMethod yX1_forceBehind, .selects RX1 yX1_forceBehind yX1_forceBehind, .initialized RX1, .code yX1_forceBehind cX1_forceBehind 3 (some .int), .static yX3_classOf, .initialized RX3, .code yX3_classOf cX3_classOf 1 (some .int), .methodLink RX1 85 yX1_putMark, .instanceMethod yX1_putMark, .selects RX1 yX1_putMark yX1_putMark, .code yX1_putMark cX1_putMark 4 none, .fieldLink RX1 29 "HeadMarks$Layout" "ownFirst" "[[I", .fieldLink RX1 70 "HeadMarks$Book" "rules" "[I"] ++ wsX10 ++ wsX00)
def wsX1_markOf : List Cond := .code yX1_markOf cX1_markOf 4 (some .int) :: ([.fieldLink RX1 23 "HeadMarks$Layout" "linesAhead" "[I", .fieldLink RX1 26 "HeadMarks$Layout" "linesOn" "[I", .fieldLink RX1 29 "HeadMarks$Layout" "ownFirst" "[[I", .methodLink RX1 81 yX1_forceBehind, .instanceMethod yX1_forceBehind, .selects RX1 yX1_forceBehind yX1_forceBehind, .initialized RX1, .code yX1_forceBehind cX1_forceBehind 3 (some .int), .fieldLink RX1 20 "HeadMarks$Layout" "inForce" "[[I"] ++ wsX10)
def wsX1_headOf : List Cond := .code yX1_headOf cX1_headOf 5 (some .int) :: ([.fieldLink RX1 26 "HeadMarks$Layout" "linesOn" "[I", .fieldLink RX1 70 "HeadMarks$Book" "rules" "[I", .fieldLink RX1 63 "HeadMarks$Book" "signs" "[I", .fieldLink RX1 23 "HeadMarks$Layout" "linesAhead" "[I", .static yX3_classOf, .initialized RX3, .code yX3_classOf cX3_classOf 1 (some .int), .methodLink RX1 77 yX1_isLeft, .static yX1_isLeft, .initialized RX1, .code yX1_isLeft cX1_isLeft 1 (some .boolean), .methodLink RX1 89 yX1_markOf, .instanceMethod yX1_markOf, .selects RX1 yX1_markOf yX1_markOf, .code yX1_markOf cX1_markOf 4 (some .int), .fieldLink RX1 29 "HeadMarks$Layout" "ownFirst" "[[I", .methodLink RX1 81 yX1_forceBehind, .instanceMethod yX1_forceBehind, .selects RX1 yX1_forceBehind yX1_forceBehind, .code yX1_forceBehind cX1_forceBehind 3 (some .int), .fieldLink RX1 20 "HeadMarks$Layout" "inForce" "[[I"] ++ wsX10 ++ wsX00)
def wsX1_lay_r1 : List Cond := [Cond.fieldLink RX1 42 "HeadMarks$Book" "lines" "I", Cond.fieldLink RX1 35 "HeadMarks$Layout" "lines" "I", Cond.fieldLink RX1 39 "HeadMarks$Layout" "pages" "I", Cond.fieldLink RX1 45 "HeadMarks$Book" "broken" "[I", Cond.fieldLink RX1 32 "HeadMarks$Layout" "heads" "[I", Cond.methodLink RX1 48 yX1_opensPage, Cond.instanceMethod yX1_opensPage, Cond.selects RX1 yX1_opensPage yX1_opensPage, Cond.initialized RX1, Cond.code yX1_opensPage cX1_opensPage 6 (some .boolean), Cond.fieldLink RX1 63 "HeadMarks$Book" "signs" "[I", Cond.fieldLink RX1 26 "HeadMarks$Layout" "linesOn" "[I", Cond.fieldLink RX1 70 "HeadMarks$Book" "rules" "[I", Cond.static yX3_classOf, Cond.initialized RX3, Cond.code yX3_classOf cX3_classOf 1 (some .int), Cond.methodLink RX1 52 yX1_turnPage, Cond.instanceMethod yX1_turnPage, Cond.selects RX1 yX1_turnPage yX1_turnPage, Cond.code yX1_turnPage cX1_turnPage 4 none, Cond.methodLink RX1 73 yX1_addPage, Cond.instanceMethod yX1_addPage, Cond.selects RX1 yX1_addPage yX1_addPage, Cond.code yX1_addPage cX1_addPage 3 none]
def wsX1_lay_r2 : List Cond := [Cond.fieldLink RX1 23 "HeadMarks$Layout" "linesAhead" "[I", Cond.fieldLink RX1 29 "HeadMarks$Layout" "ownFirst" "[[I", Cond.methodLink RX1 77 yX1_isLeft, Cond.static yX1_isLeft, Cond.code yX1_isLeft cX1_isLeft 1 (some .boolean), Cond.methodLink RX1 56 yX1_putLine, Cond.instanceMethod yX1_putLine, Cond.selects RX1 yX1_putLine yX1_putLine, Cond.code yX1_putLine cX1_putLine 4 none, Cond.fieldLink RX1 9 "HeadMarks$Layout" "pageOf" "[I", Cond.fieldLink RX1 15 "HeadMarks$Layout" "chapterOf" "[I", Cond.fieldLink RX1 20 "HeadMarks$Layout" "inForce" "[[I", Cond.methodLink RX1 81 yX1_forceBehind, Cond.instanceMethod yX1_forceBehind, Cond.selects RX1 yX1_forceBehind yX1_forceBehind, Cond.code yX1_forceBehind cX1_forceBehind 3 (some .int), Cond.methodLink RX1 85 yX1_putMark, Cond.instanceMethod yX1_putMark, Cond.selects RX1 yX1_putMark yX1_putMark, Cond.code yX1_putMark cX1_putMark 4 none, Cond.methodLink RX1 59 yX1_headOf, Cond.instanceMethod yX1_headOf, Cond.selects RX1 yX1_headOf yX1_headOf, Cond.code yX1_headOf cX1_headOf 5 (some .int)]
def wsX1_lay_r3 : List Cond := [Cond.methodLink RX1 89 yX1_markOf, Cond.instanceMethod yX1_markOf, Cond.selects RX1 yX1_markOf yX1_markOf, Cond.code yX1_markOf cX1_markOf 4 (some .int)]
def wsX1_lay : List Cond := .code yX1_lay cX1_lay 6 none :: ((wsX1_lay_r1 ++ (wsX1_lay_r2 ++ wsX1_lay_r3)) ++ wsX00 ++ wsX10)
def wsX1_hasPage : List Cond := .code yX1_hasPage cX1_hasPage 2 (some .boolean) :: ([.fieldLink RX1 39 "HeadMarks$Layout" "pages" "I"] ++ wsX10)
def wsX1_headOrNone : List Cond := .code yX1_headOrNone cX1_headOrNone 2 (some .int) :: ([.fieldLink RX1 32 "HeadMarks$Layout" "heads" "[I", .methodLink RX1 93 yX1_hasPage, .instanceMethod yX1_hasPage, .selects RX1 yX1_hasPage yX1_hasPage, .initialized RX1, .code yX1_hasPage cX1_hasPage 2 (some .boolean), .fieldLink RX1 39 "HeadMarks$Layout" "pages" "I"] ++ wsX10)
def wsX1_isShared : List Cond := .code yX1_isShared cX1_isShared 4 (some .boolean) :: ([.fieldLink RX1 26 "HeadMarks$Layout" "linesOn" "[I", .fieldLink RX1 23 "HeadMarks$Layout" "linesAhead" "[I", .fieldLink RX1 15 "HeadMarks$Layout" "chapterOf" "[I", .methodLink RX1 96 Lib.Math.max.name, .static Lib.Math.max.name, .initialized "java/lang/Math", .code Lib.Math.max.name Lib.Math.max.code 2 (some .int)] ++ wsX10)
def wsX1_titleLineOf : List Cond := .code yX1_titleLineOf cX1_titleLineOf 3 (some .int) :: ([.fieldLink RX1 35 "HeadMarks$Layout" "lines" "I", .fieldLink RX1 15 "HeadMarks$Layout" "chapterOf" "[I"] ++ wsX10)
def wsX1_lastLineOf : List Cond := .code yX1_lastLineOf cX1_lastLineOf 3 (some .int) :: ([.fieldLink RX1 35 "HeadMarks$Layout" "lines" "I", .fieldLink RX1 15 "HeadMarks$Layout" "chapterOf" "[I"] ++ wsX10)
def wsX1_countChapters : List Cond := .code yX1_countChapters cX1_countChapters 1 (some .int) :: ([.fieldLink RX1 35 "HeadMarks$Layout" "lines" "I", .fieldLink RX1 15 "HeadMarks$Layout" "chapterOf" "[I"] ++ wsX10)
def wsX1_countBlank : List Cond := .code yX1_countBlank cX1_countBlank 3 (some .int) :: ([.fieldLink RX1 39 "HeadMarks$Layout" "pages" "I", .fieldLink RX1 26 "HeadMarks$Layout" "linesOn" "[I"] ++ wsX10)
def wsX1_countShared : List Cond := .code yX1_countShared cX1_countShared 3 (some .int) :: ([.fieldLink RX1 39 "HeadMarks$Layout" "pages" "I", .methodLink RX1 101 yX1_isShared, .instanceMethod yX1_isShared, .selects RX1 yX1_isShared yX1_isShared, .initialized RX1, .code yX1_isShared cX1_isShared 4 (some .boolean), .fieldLink RX1 26 "HeadMarks$Layout" "linesOn" "[I", .fieldLink RX1 23 "HeadMarks$Layout" "linesAhead" "[I", .fieldLink RX1 15 "HeadMarks$Layout" "chapterOf" "[I", .methodLink RX1 96 Lib.Math.max.name, .static Lib.Math.max.name, .initialized "java/lang/Math", .code Lib.Math.max.name Lib.Math.max.code 2 (some .int)] ++ wsX10)
def wsX1_countHeads : List Cond := .code yX1_countHeads cX1_countHeads 3 (some .int) :: ([.fieldLink RX1 39 "HeadMarks$Layout" "pages" "I", .fieldLink RX1 32 "HeadMarks$Layout" "heads" "[I"] ++ wsX10)
def wsX2_init : List Cond := .code yX2_init cX2_init 1 none :: ([.methodLink RX2 3 objectInit, .instanceMethod objectInit, .code objectInit ⟨#[0xb1]⟩ 1 none, .arrayClass .int, .fieldLink RX2 9 "HeadMarks$Pad" "signs" "[I", .fieldLink RX2 15 "HeadMarks$Pad" "size" "I"] ++ wsX20)
def wsX2_append : List Cond := .code yX2_append cX2_append 2 none :: ([.fieldLink RX2 15 "HeadMarks$Pad" "size" "I", .fieldLink RX2 9 "HeadMarks$Pad" "signs" "[I"] ++ wsX20)
def wsX2_faultPlace : List Cond := .code yX2_faultPlace cX2_faultPlace 5 (some .int) :: ([.fieldLink RX2 15 "HeadMarks$Pad" "size" "I", .fieldLink RX2 9 "HeadMarks$Pad" "signs" "[I", .static yX3_classOf, .initialized RX3, .code yX3_classOf cX3_classOf 1 (some .int)] ++ wsX20)
def wsX3_init_r1 : List Cond := [Cond.methodLink RX3 3 objectInit, Cond.instanceMethod objectInit, Cond.code objectInit ⟨#[0xb1]⟩ 1 none, Cond.classLink RX3 9 RX2, Cond.instantiable RX2 2, Cond.initialized RX2, Cond.fieldLink RX3 12 "HeadMarks" "pad" "LHeadMarks$Pad;", Cond.classLink RX3 16 RX0, Cond.instantiable RX0 4, Cond.initialized RX0, Cond.fieldLink RX3 19 "HeadMarks" "book" "LHeadMarks$Book;", Cond.fieldLink RX3 23 "HeadMarks" "images" "[LHeadMarks$Book;", Cond.fieldLink RX3 27 "HeadMarks" "imagesKept" "I", Cond.classLink RX3 31 RX1, Cond.instantiable RX1 9, Cond.initialized RX1, Cond.fieldLink RX3 34 "HeadMarks" "now" "LHeadMarks$Layout;", Cond.fieldLink RX3 38 "HeadMarks" "trial" "LHeadMarks$Layout;", Cond.instanceMethod yX2_init, Cond.code yX2_init cX2_init 1 none, Cond.methodLink RX2 3 objectInit, Cond.arrayClass .int, Cond.fieldLink RX2 9 "HeadMarks$Pad" "signs" "[I", Cond.fieldLink RX2 15 "HeadMarks$Pad" "size" "I"]
def wsX3_init_r2 : List Cond := [Cond.instanceMethod yX0_init, Cond.code yX0_init cX0_init 1 none, Cond.methodLink RX0 3 objectInit, Cond.fieldLink RX0 9 "HeadMarks$Book" "signs" "[I", Cond.fieldLink RX0 15 "HeadMarks$Book" "broken" "[I", Cond.methodLink RX0 21 ⟨"[I", "clone", "()Ljava/lang/Object;"⟩, Cond.sameMethod "[I" "java/lang/Object" "clone" "()Ljava/lang/Object;", Cond.native ⟨"java/lang/Object", "clone", "()Ljava/lang/Object;"⟩, Cond.instanceMethod ⟨"java/lang/Object", "clone", "()Ljava/lang/Object;"⟩, Cond.selects "[I" ⟨"[I", "clone", "()Ljava/lang/Object;"⟩ ⟨"java/lang/Object", "clone", "()Ljava/lang/Object;"⟩, Cond.classLink RX0 22 "[I", Cond.fieldLink RX0 26 "HeadMarks$Book" "rules" "[I", Cond.fieldLink RX0 29 "HeadMarks$Book" "lines" "I", Cond.instanceMethod yX1_init, Cond.code yX1_init cX1_init 1 none, Cond.methodLink RX1 3 objectInit, Cond.fieldLink RX1 9 "HeadMarks$Layout" "pageOf" "[I", Cond.fieldLink RX1 15 "HeadMarks$Layout" "chapterOf" "[I", Cond.classLink RX1 18 "[[I", Cond.fieldLink RX1 20 "HeadMarks$Layout" "inForce" "[[I", Cond.fieldLink RX1 23 "HeadMarks$Layout" "linesAhead" "[I", Cond.fieldLink RX1 26 "HeadMarks$Layout" "linesOn" "[I", Cond.fieldLink RX1 29 "HeadMarks$Layout" "ownFirst" "[[I", Cond.fieldLink RX1 32 "HeadMarks$Layout" "heads" "[I"]
def wsX3_init_r3 : List Cond := [Cond.fieldLink RX1 35 "HeadMarks$Layout" "lines" "I", Cond.fieldLink RX1 39 "HeadMarks$Layout" "pages" "I"]
def wsX3_init : List Cond := .code yX3_init cX3_init 2 none :: ((wsX3_init_r1 ++ (wsX3_init_r2 ++ wsX3_init_r3)) ++ wsX20 ++ wsX30 ++ wsX00 ++ wsX10)
def wsX3_say : List Cond := .code yX3_say cX3_say 2 (some .int) :: ([.fieldLink RX3 12 "HeadMarks" "pad" "LHeadMarks$Pad;", .fieldLink RX3 41 "HeadMarks$Pad" "size" "I", .methodLink RX3 44 yX2_append, .instanceMethod yX2_append, .selects RX2 yX2_append yX2_append, .initialized RX2, .code yX2_append cX2_append 2 none, .fieldLink RX2 15 "HeadMarks$Pad" "size" "I", .fieldLink RX2 9 "HeadMarks$Pad" "signs" "[I"] ++ wsX30 ++ wsX20)
def wsX3_wipe : List Cond := .code yX3_wipe cX3_wipe 2 (some .int) :: ([.fieldLink RX3 12 "HeadMarks" "pad" "LHeadMarks$Pad;", .fieldLink RX3 41 "HeadMarks$Pad" "size" "I"] ++ wsX30 ++ wsX20)
def wsX3_fault : List Cond := .code yX3_fault cX3_fault 1 (some .int) :: ([.fieldLink RX3 12 "HeadMarks" "pad" "LHeadMarks$Pad;", .methodLink RX3 48 yX2_faultPlace, .instanceMethod yX2_faultPlace, .selects RX2 yX2_faultPlace yX2_faultPlace, .initialized RX2, .code yX2_faultPlace cX2_faultPlace 5 (some .int), .fieldLink RX2 15 "HeadMarks$Pad" "size" "I", .fieldLink RX2 9 "HeadMarks$Pad" "signs" "[I", .static yX3_classOf, .initialized RX3, .code yX3_classOf cX3_classOf 1 (some .int)] ++ wsX30 ++ wsX20)
def wsX3_layNow_r1 : List Cond := [Cond.fieldLink RX3 34 "HeadMarks" "now" "LHeadMarks$Layout;", Cond.fieldLink RX3 19 "HeadMarks" "book" "LHeadMarks$Book;", Cond.fieldLink RX3 66 "HeadMarks$Book" "rules" "[I", Cond.methodLink RX3 143 yX1_lay, Cond.instanceMethod yX1_lay, Cond.selects RX1 yX1_lay yX1_lay, Cond.initialized RX1, Cond.code yX1_lay cX1_lay 6 none, Cond.fieldLink RX1 42 "HeadMarks$Book" "lines" "I", Cond.fieldLink RX1 35 "HeadMarks$Layout" "lines" "I", Cond.fieldLink RX1 39 "HeadMarks$Layout" "pages" "I", Cond.fieldLink RX1 45 "HeadMarks$Book" "broken" "[I", Cond.fieldLink RX1 32 "HeadMarks$Layout" "heads" "[I", Cond.methodLink RX1 48 yX1_opensPage, Cond.instanceMethod yX1_opensPage, Cond.selects RX1 yX1_opensPage yX1_opensPage, Cond.code yX1_opensPage cX1_opensPage 6 (some .boolean), Cond.fieldLink RX1 63 "HeadMarks$Book" "signs" "[I", Cond.fieldLink RX1 26 "HeadMarks$Layout" "linesOn" "[I", Cond.fieldLink RX1 70 "HeadMarks$Book" "rules" "[I", Cond.static yX3_classOf, Cond.initialized RX3, Cond.code yX3_classOf cX3_classOf 1 (some .int), Cond.methodLink RX1 52 yX1_turnPage]
def wsX3_layNow_r2 : List Cond := [Cond.instanceMethod yX1_turnPage, Cond.selects RX1 yX1_turnPage yX1_turnPage, Cond.code yX1_turnPage cX1_turnPage 4 none, Cond.methodLink RX1 73 yX1_addPage, Cond.instanceMethod yX1_addPage, Cond.selects RX1 yX1_addPage yX1_addPage, Cond.code yX1_addPage cX1_addPage 3 none, Cond.fieldLink RX1 23 "HeadMarks$Layout" "linesAhead" "[I", Cond.fieldLink RX1 29 "HeadMarks$Layout" "ownFirst" "[[I", Cond.methodLink RX1 77 yX1_isLeft, Cond.static yX1_isLeft, Cond.code yX1_isLeft cX1_isLeft 1 (some .boolean), Cond.methodLink RX1 56 yX1_putLine, Cond.instanceMethod yX1_putLine, Cond.selects RX1 yX1_putLine yX1_putLine, Cond.code yX1_putLine cX1_putLine 4 none, Cond.fieldLink RX1 9 "HeadMarks$Layout" "pageOf" "[I", Cond.fieldLink RX1 15 "HeadMarks$Layout" "chapterOf" "[I", Cond.fieldLink RX1 20 "HeadMarks$Layout" "inForce" "[[I", Cond.methodLink RX1 81 yX1_forceBehind, Cond.instanceMethod yX1_forceBehind, Cond.selects RX1 yX1_forceBehind yX1_forceBehind, Cond.code yX1_forceBehind cX1_forceBehind 3 (some .int), Cond.methodLink RX1 85 yX1_putMark]
def wsX3_layNow_r3 : List Cond := [Cond.instanceMethod yX1_putMark, Cond.selects RX1 yX1_putMark yX1_putMark, Cond.code yX1_putMark cX1_putMark 4 none, Cond.methodLink RX1 59 yX1_headOf, Cond.instanceMethod yX1_headOf, Cond.selects RX1 yX1_headOf yX1_headOf, Cond.code yX1_headOf cX1_headOf 5 (some .int), Cond.methodLink RX1 89 yX1_markOf, Cond.instanceMethod yX1_markOf, Cond.selects RX1 yX1_markOf yX1_markOf, Cond.code yX1_markOf cX1_markOf 4 (some .int)]
def wsX3_layNow : List Cond := .code yX3_layNow cX3_layNow 1 none :: ((wsX3_layNow_r1 ++ (wsX3_layNow_r2 ++ wsX3_layNow_r3)) ++ wsX30 ++ wsX00 ++ wsX10)
def wsX3_read_r1 : List Cond := [Cond.fieldLink RX3 12 "HeadMarks" "pad" "LHeadMarks$Pad;", Cond.fieldLink RX3 19 "HeadMarks" "book" "LHeadMarks$Book;", Cond.fieldLink RX3 41 "HeadMarks$Pad" "size" "I", Cond.fieldLink RX3 59 "HeadMarks$Book" "lines" "I", Cond.methodLink RX3 48 yX2_faultPlace, Cond.instanceMethod yX2_faultPlace, Cond.selects RX2 yX2_faultPlace yX2_faultPlace, Cond.initialized RX2, Cond.code yX2_faultPlace cX2_faultPlace 5 (some .int), Cond.fieldLink RX2 15 "HeadMarks$Pad" "size" "I", Cond.fieldLink RX2 9 "HeadMarks$Pad" "signs" "[I", Cond.static yX3_classOf, Cond.initialized RX3, Cond.code yX3_classOf cX3_classOf 1 (some .int), Cond.methodLink RX3 52 yX0_takeText, Cond.instanceMethod yX0_takeText, Cond.selects RX0 yX0_takeText yX0_takeText, Cond.initialized RX0, Cond.code yX0_takeText cX0_takeText 4 none, Cond.fieldLink RX0 29 "HeadMarks$Book" "lines" "I", Cond.fieldLink RX0 33 "HeadMarks$Pad" "size" "I", Cond.fieldLink RX0 38 "HeadMarks$Pad" "signs" "[I", Cond.fieldLink RX0 9 "HeadMarks$Book" "signs" "[I", Cond.fieldLink RX0 15 "HeadMarks$Book" "broken" "[I"]
def wsX3_read_r2 : List Cond := [Cond.methodLink RX3 56 yX3_layNow, Cond.instanceMethod yX3_layNow, Cond.selects RX3 yX3_layNow yX3_layNow, Cond.code yX3_layNow cX3_layNow 1 none, Cond.fieldLink RX3 34 "HeadMarks" "now" "LHeadMarks$Layout;", Cond.fieldLink RX3 66 "HeadMarks$Book" "rules" "[I", Cond.methodLink RX3 143 yX1_lay, Cond.instanceMethod yX1_lay, Cond.selects RX1 yX1_lay yX1_lay, Cond.initialized RX1, Cond.code yX1_lay cX1_lay 6 none, Cond.fieldLink RX1 42 "HeadMarks$Book" "lines" "I", Cond.fieldLink RX1 35 "HeadMarks$Layout" "lines" "I", Cond.fieldLink RX1 39 "HeadMarks$Layout" "pages" "I", Cond.fieldLink RX1 45 "HeadMarks$Book" "broken" "[I", Cond.fieldLink RX1 32 "HeadMarks$Layout" "heads" "[I", Cond.methodLink RX1 48 yX1_opensPage, Cond.instanceMethod yX1_opensPage, Cond.selects RX1 yX1_opensPage yX1_opensPage, Cond.code yX1_opensPage cX1_opensPage 6 (some .boolean), Cond.fieldLink RX1 63 "HeadMarks$Book" "signs" "[I", Cond.fieldLink RX1 26 "HeadMarks$Layout" "linesOn" "[I", Cond.fieldLink RX1 70 "HeadMarks$Book" "rules" "[I", Cond.methodLink RX1 52 yX1_turnPage]
def wsX3_read_r3 : List Cond := [Cond.instanceMethod yX1_turnPage, Cond.selects RX1 yX1_turnPage yX1_turnPage, Cond.code yX1_turnPage cX1_turnPage 4 none, Cond.methodLink RX1 73 yX1_addPage, Cond.instanceMethod yX1_addPage, Cond.selects RX1 yX1_addPage yX1_addPage, Cond.code yX1_addPage cX1_addPage 3 none, Cond.fieldLink RX1 23 "HeadMarks$Layout" "linesAhead" "[I", Cond.fieldLink RX1 29 "HeadMarks$Layout" "ownFirst" "[[I", Cond.methodLink RX1 77 yX1_isLeft, Cond.static yX1_isLeft, Cond.code yX1_isLeft cX1_isLeft 1 (some .boolean), Cond.methodLink RX1 56 yX1_putLine, Cond.instanceMethod yX1_putLine, Cond.selects RX1 yX1_putLine yX1_putLine, Cond.code yX1_putLine cX1_putLine 4 none, Cond.fieldLink RX1 9 "HeadMarks$Layout" "pageOf" "[I", Cond.fieldLink RX1 15 "HeadMarks$Layout" "chapterOf" "[I", Cond.fieldLink RX1 20 "HeadMarks$Layout" "inForce" "[[I", Cond.methodLink RX1 81 yX1_forceBehind, Cond.instanceMethod yX1_forceBehind, Cond.selects RX1 yX1_forceBehind yX1_forceBehind, Cond.code yX1_forceBehind cX1_forceBehind 3 (some .int), Cond.methodLink RX1 85 yX1_putMark]
def wsX3_read_r4 : List Cond := [Cond.instanceMethod yX1_putMark, Cond.selects RX1 yX1_putMark yX1_putMark, Cond.code yX1_putMark cX1_putMark 4 none, Cond.methodLink RX1 59 yX1_headOf, Cond.instanceMethod yX1_headOf, Cond.selects RX1 yX1_headOf yX1_headOf, Cond.code yX1_headOf cX1_headOf 5 (some .int), Cond.methodLink RX1 89 yX1_markOf, Cond.instanceMethod yX1_markOf, Cond.selects RX1 yX1_markOf yX1_markOf, Cond.code yX1_markOf cX1_markOf 4 (some .int)]
def wsX3_read : List Cond := .code yX3_read cX3_read 1 (some .int) :: ((wsX3_read_r1 ++ (wsX3_read_r2 ++ (wsX3_read_r3 ++ wsX3_read_r4))) ++ wsX30 ++ wsX20 ++ wsX00 ++ wsX10)
def wsX3_rule_r1 : List Cond := [Cond.fieldLink RX3 19 "HeadMarks" "book" "LHeadMarks$Book;", Cond.fieldLink RX3 66 "HeadMarks$Book" "rules" "[I", Cond.methodLink RX3 62 yX0_mayRule, Cond.instanceMethod yX0_mayRule, Cond.selects RX0 yX0_mayRule yX0_mayRule, Cond.initialized RX0, Cond.code yX0_mayRule cX0_mayRule 5 (some .boolean), Cond.fieldLink RX0 26 "HeadMarks$Book" "rules" "[I", Cond.methodLink RX3 56 yX3_layNow, Cond.instanceMethod yX3_layNow, Cond.selects RX3 yX3_layNow yX3_layNow, Cond.initialized RX3, Cond.code yX3_layNow cX3_layNow 1 none, Cond.fieldLink RX3 34 "HeadMarks" "now" "LHeadMarks$Layout;", Cond.methodLink RX3 143 yX1_lay, Cond.instanceMethod yX1_lay, Cond.selects RX1 yX1_lay yX1_lay, Cond.initialized RX1, Cond.code yX1_lay cX1_lay 6 none, Cond.fieldLink RX1 42 "HeadMarks$Book" "lines" "I", Cond.fieldLink RX1 35 "HeadMarks$Layout" "lines" "I", Cond.fieldLink RX1 39 "HeadMarks$Layout" "pages" "I", Cond.fieldLink RX1 45 "HeadMarks$Book" "broken" "[I", Cond.fieldLink RX1 32 "HeadMarks$Layout" "heads" "[I"]
def wsX3_rule_r2 : List Cond := [Cond.methodLink RX1 48 yX1_opensPage, Cond.instanceMethod yX1_opensPage, Cond.selects RX1 yX1_opensPage yX1_opensPage, Cond.code yX1_opensPage cX1_opensPage 6 (some .boolean), Cond.fieldLink RX1 63 "HeadMarks$Book" "signs" "[I", Cond.fieldLink RX1 26 "HeadMarks$Layout" "linesOn" "[I", Cond.fieldLink RX1 70 "HeadMarks$Book" "rules" "[I", Cond.static yX3_classOf, Cond.code yX3_classOf cX3_classOf 1 (some .int), Cond.methodLink RX1 52 yX1_turnPage, Cond.instanceMethod yX1_turnPage, Cond.selects RX1 yX1_turnPage yX1_turnPage, Cond.code yX1_turnPage cX1_turnPage 4 none, Cond.methodLink RX1 73 yX1_addPage, Cond.instanceMethod yX1_addPage, Cond.selects RX1 yX1_addPage yX1_addPage, Cond.code yX1_addPage cX1_addPage 3 none, Cond.fieldLink RX1 23 "HeadMarks$Layout" "linesAhead" "[I", Cond.fieldLink RX1 29 "HeadMarks$Layout" "ownFirst" "[[I", Cond.methodLink RX1 77 yX1_isLeft, Cond.static yX1_isLeft, Cond.code yX1_isLeft cX1_isLeft 1 (some .boolean), Cond.methodLink RX1 56 yX1_putLine, Cond.instanceMethod yX1_putLine]
def wsX3_rule_r3 : List Cond := [Cond.selects RX1 yX1_putLine yX1_putLine, Cond.code yX1_putLine cX1_putLine 4 none, Cond.fieldLink RX1 9 "HeadMarks$Layout" "pageOf" "[I", Cond.fieldLink RX1 15 "HeadMarks$Layout" "chapterOf" "[I", Cond.fieldLink RX1 20 "HeadMarks$Layout" "inForce" "[[I", Cond.methodLink RX1 81 yX1_forceBehind, Cond.instanceMethod yX1_forceBehind, Cond.selects RX1 yX1_forceBehind yX1_forceBehind, Cond.code yX1_forceBehind cX1_forceBehind 3 (some .int), Cond.methodLink RX1 85 yX1_putMark, Cond.instanceMethod yX1_putMark, Cond.selects RX1 yX1_putMark yX1_putMark, Cond.code yX1_putMark cX1_putMark 4 none, Cond.methodLink RX1 59 yX1_headOf, Cond.instanceMethod yX1_headOf, Cond.selects RX1 yX1_headOf yX1_headOf, Cond.code yX1_headOf cX1_headOf 5 (some .int), Cond.methodLink RX1 89 yX1_markOf, Cond.instanceMethod yX1_markOf, Cond.selects RX1 yX1_markOf yX1_markOf, Cond.code yX1_markOf cX1_markOf 4 (some .int)]
def wsX3_rule : List Cond := .code yX3_rule cX3_rule 4 (some .int) :: ((wsX3_rule_r1 ++ (wsX3_rule_r2 ++ wsX3_rule_r3)) ++ wsX30 ++ wsX00 ++ wsX10)
def wsX3_cut_r1 : List Cond := [Cond.fieldLink RX3 19 "HeadMarks" "book" "LHeadMarks$Book;", Cond.fieldLink RX3 74 "HeadMarks$Book" "broken" "[I", Cond.methodLink RX3 70 yX0_canBreakAhead, Cond.instanceMethod yX0_canBreakAhead, Cond.selects RX0 yX0_canBreakAhead yX0_canBreakAhead, Cond.initialized RX0, Cond.code yX0_canBreakAhead cX0_canBreakAhead 2 (some .boolean), Cond.fieldLink RX0 29 "HeadMarks$Book" "lines" "I", Cond.methodLink RX3 56 yX3_layNow, Cond.instanceMethod yX3_layNow, Cond.selects RX3 yX3_layNow yX3_layNow, Cond.initialized RX3, Cond.code yX3_layNow cX3_layNow 1 none, Cond.fieldLink RX3 34 "HeadMarks" "now" "LHeadMarks$Layout;", Cond.fieldLink RX3 66 "HeadMarks$Book" "rules" "[I", Cond.methodLink RX3 143 yX1_lay, Cond.instanceMethod yX1_lay, Cond.selects RX1 yX1_lay yX1_lay, Cond.initialized RX1, Cond.code yX1_lay cX1_lay 6 none, Cond.fieldLink RX1 42 "HeadMarks$Book" "lines" "I", Cond.fieldLink RX1 35 "HeadMarks$Layout" "lines" "I", Cond.fieldLink RX1 39 "HeadMarks$Layout" "pages" "I", Cond.fieldLink RX1 45 "HeadMarks$Book" "broken" "[I"]
def wsX3_cut_r2 : List Cond := [Cond.fieldLink RX1 32 "HeadMarks$Layout" "heads" "[I", Cond.methodLink RX1 48 yX1_opensPage, Cond.instanceMethod yX1_opensPage, Cond.selects RX1 yX1_opensPage yX1_opensPage, Cond.code yX1_opensPage cX1_opensPage 6 (some .boolean), Cond.fieldLink RX1 63 "HeadMarks$Book" "signs" "[I", Cond.fieldLink RX1 26 "HeadMarks$Layout" "linesOn" "[I", Cond.fieldLink RX1 70 "HeadMarks$Book" "rules" "[I", Cond.static yX3_classOf, Cond.code yX3_classOf cX3_classOf 1 (some .int), Cond.methodLink RX1 52 yX1_turnPage, Cond.instanceMethod yX1_turnPage, Cond.selects RX1 yX1_turnPage yX1_turnPage, Cond.code yX1_turnPage cX1_turnPage 4 none, Cond.methodLink RX1 73 yX1_addPage, Cond.instanceMethod yX1_addPage, Cond.selects RX1 yX1_addPage yX1_addPage, Cond.code yX1_addPage cX1_addPage 3 none, Cond.fieldLink RX1 23 "HeadMarks$Layout" "linesAhead" "[I", Cond.fieldLink RX1 29 "HeadMarks$Layout" "ownFirst" "[[I", Cond.methodLink RX1 77 yX1_isLeft, Cond.static yX1_isLeft, Cond.code yX1_isLeft cX1_isLeft 1 (some .boolean), Cond.methodLink RX1 56 yX1_putLine]
def wsX3_cut_r3 : List Cond := [Cond.instanceMethod yX1_putLine, Cond.selects RX1 yX1_putLine yX1_putLine, Cond.code yX1_putLine cX1_putLine 4 none, Cond.fieldLink RX1 9 "HeadMarks$Layout" "pageOf" "[I", Cond.fieldLink RX1 15 "HeadMarks$Layout" "chapterOf" "[I", Cond.fieldLink RX1 20 "HeadMarks$Layout" "inForce" "[[I", Cond.methodLink RX1 81 yX1_forceBehind, Cond.instanceMethod yX1_forceBehind, Cond.selects RX1 yX1_forceBehind yX1_forceBehind, Cond.code yX1_forceBehind cX1_forceBehind 3 (some .int), Cond.methodLink RX1 85 yX1_putMark, Cond.instanceMethod yX1_putMark, Cond.selects RX1 yX1_putMark yX1_putMark, Cond.code yX1_putMark cX1_putMark 4 none, Cond.methodLink RX1 59 yX1_headOf, Cond.instanceMethod yX1_headOf, Cond.selects RX1 yX1_headOf yX1_headOf, Cond.code yX1_headOf cX1_headOf 5 (some .int), Cond.methodLink RX1 89 yX1_markOf, Cond.instanceMethod yX1_markOf, Cond.selects RX1 yX1_markOf yX1_markOf, Cond.code yX1_markOf cX1_markOf 4 (some .int), Cond.methodLink RX3 77 yX0_countBreaks, Cond.instanceMethod yX0_countBreaks]
def wsX3_cut_r4 : List Cond := [Cond.selects RX0 yX0_countBreaks yX0_countBreaks, Cond.code yX0_countBreaks cX0_countBreaks 3 (some .int), Cond.fieldLink RX0 15 "HeadMarks$Book" "broken" "[I"]
def wsX3_cut : List Cond := .code yX3_cut cX3_cut 3 (some .int) :: ((wsX3_cut_r1 ++ (wsX3_cut_r2 ++ (wsX3_cut_r3 ++ wsX3_cut_r4))) ++ wsX30 ++ wsX00 ++ wsX10)
def wsX3_line : List Cond := .code yX3_line cX3_line 3 (some .int) :: ([.fieldLink RX3 19 "HeadMarks" "book" "LHeadMarks$Book;", .fieldLink RX3 59 "HeadMarks$Book" "lines" "I", .fieldLink RX3 80 "HeadMarks$Book" "signs" "[I", .fieldLink RX3 34 "HeadMarks" "now" "LHeadMarks$Layout;", .fieldLink RX3 87 "HeadMarks$Layout" "pageOf" "[I", .fieldLink RX3 90 "HeadMarks$Layout" "linesAhead" "[I", .fieldLink RX3 74 "HeadMarks$Book" "broken" "[I", .fieldLink RX3 93 "HeadMarks$Layout" "inForce" "[[I", .methodLink RX3 83 yX3_classOf, .static yX3_classOf, .initialized RX3, .code yX3_classOf cX3_classOf 1 (some .int)] ++ wsX30 ++ wsX00 ++ wsX10)
def wsX3_page : List Cond := .code yX3_page cX3_page 3 (some .int) :: ([.fieldLink RX3 34 "HeadMarks" "now" "LHeadMarks$Layout;", .fieldLink RX3 100 "HeadMarks$Layout" "linesOn" "[I", .fieldLink RX3 90 "HeadMarks$Layout" "linesAhead" "[I", .fieldLink RX3 103 "HeadMarks$Layout" "heads" "[I", .methodLink RX3 97 yX1_hasPage, .instanceMethod yX1_hasPage, .selects RX1 yX1_hasPage yX1_hasPage, .initialized RX1, .code yX1_hasPage cX1_hasPage 2 (some .boolean), .fieldLink RX1 39 "HeadMarks$Layout" "pages" "I", .methodLink RX3 106 yX1_isShared, .instanceMethod yX1_isShared, .selects RX1 yX1_isShared yX1_isShared, .code yX1_isShared cX1_isShared 4 (some .boolean), .fieldLink RX1 26 "HeadMarks$Layout" "linesOn" "[I", .fieldLink RX1 23 "HeadMarks$Layout" "linesAhead" "[I", .fieldLink RX1 15 "HeadMarks$Layout" "chapterOf" "[I", .methodLink RX1 96 Lib.Math.max.name, .static Lib.Math.max.name, .initialized "java/lang/Math", .code Lib.Math.max.name Lib.Math.max.code 2 (some .int)] ++ wsX30 ++ wsX10)
def wsX3_mark : List Cond := .code yX3_mark cX3_mark 4 (some .int) :: ([.fieldLink RX3 34 "HeadMarks" "now" "LHeadMarks$Layout;", .methodLink RX3 97 yX1_hasPage, .instanceMethod yX1_hasPage, .selects RX1 yX1_hasPage yX1_hasPage, .initialized RX1, .code yX1_hasPage cX1_hasPage 2 (some .boolean), .fieldLink RX1 39 "HeadMarks$Layout" "pages" "I", .methodLink RX3 109 yX1_markOf, .instanceMethod yX1_markOf, .selects RX1 yX1_markOf yX1_markOf, .code yX1_markOf cX1_markOf 4 (some .int), .fieldLink RX1 23 "HeadMarks$Layout" "linesAhead" "[I", .fieldLink RX1 26 "HeadMarks$Layout" "linesOn" "[I", .fieldLink RX1 29 "HeadMarks$Layout" "ownFirst" "[[I", .methodLink RX1 81 yX1_forceBehind, .instanceMethod yX1_forceBehind, .selects RX1 yX1_forceBehind yX1_forceBehind, .code yX1_forceBehind cX1_forceBehind 3 (some .int), .fieldLink RX1 20 "HeadMarks$Layout" "inForce" "[[I"] ++ wsX30 ++ wsX10)
def wsX3_headed : List Cond := .code yX3_headed cX3_headed 5 (some .int) :: ([.fieldLink RX3 34 "HeadMarks" "now" "LHeadMarks$Layout;", .fieldLink RX3 113 "HeadMarks$Layout" "pages" "I", .fieldLink RX3 103 "HeadMarks$Layout" "heads" "[I", .methodLink RX3 83 yX3_classOf, .static yX3_classOf, .initialized RX3, .code yX3_classOf cX3_classOf 1 (some .int)] ++ wsX30 ++ wsX10)
def wsX3_chapter_r1 : List Cond := [Cond.fieldLink RX3 34 "HeadMarks" "now" "LHeadMarks$Layout;", Cond.fieldLink RX3 19 "HeadMarks" "book" "LHeadMarks$Book;", Cond.fieldLink RX3 80 "HeadMarks$Book" "signs" "[I", Cond.fieldLink RX3 87 "HeadMarks$Layout" "pageOf" "[I", Cond.methodLink RX3 116 yX1_countChapters, Cond.instanceMethod yX1_countChapters, Cond.selects RX1 yX1_countChapters yX1_countChapters, Cond.initialized RX1, Cond.code yX1_countChapters cX1_countChapters 1 (some .int), Cond.fieldLink RX1 35 "HeadMarks$Layout" "lines" "I", Cond.fieldLink RX1 15 "HeadMarks$Layout" "chapterOf" "[I", Cond.methodLink RX3 119 yX1_titleLineOf, Cond.instanceMethod yX1_titleLineOf, Cond.selects RX1 yX1_titleLineOf yX1_titleLineOf, Cond.code yX1_titleLineOf cX1_titleLineOf 3 (some .int), Cond.methodLink RX3 122 yX1_lastLineOf, Cond.instanceMethod yX1_lastLineOf, Cond.selects RX1 yX1_lastLineOf yX1_lastLineOf, Cond.code yX1_lastLineOf cX1_lastLineOf 3 (some .int), Cond.methodLink RX3 125 yX0_countSections, Cond.instanceMethod yX0_countSections, Cond.selects RX0 yX0_countSections yX0_countSections, Cond.initialized RX0, Cond.code yX0_countSections cX0_countSections 5 (some .int)]
def wsX3_chapter_r2 : List Cond := [Cond.fieldLink RX0 9 "HeadMarks$Book" "signs" "[I", Cond.static yX3_classOf, Cond.initialized RX3, Cond.code yX3_classOf cX3_classOf 1 (some .int)]
def wsX3_chapter : List Cond := .code yX3_chapter cX3_chapter 5 (some .int) :: ((wsX3_chapter_r1 ++ wsX3_chapter_r2) ++ wsX30 ++ wsX00 ++ wsX10)
def wsX3_countChanged_r1 : List Cond := [Cond.fieldLink RX3 38 "HeadMarks" "trial" "LHeadMarks$Layout;", Cond.fieldLink RX3 19 "HeadMarks" "book" "LHeadMarks$Book;", Cond.fieldLink RX3 66 "HeadMarks$Book" "rules" "[I", Cond.fieldLink RX3 34 "HeadMarks" "now" "LHeadMarks$Layout;", Cond.fieldLink RX3 113 "HeadMarks$Layout" "pages" "I", Cond.methodLink RX3 135 Lib.Math.max.name, Cond.static Lib.Math.max.name, Cond.initialized "java/lang/Math", Cond.code Lib.Math.max.name Lib.Math.max.code 2 (some .int), Cond.methodLink RX3 143 yX1_lay, Cond.instanceMethod yX1_lay, Cond.selects RX1 yX1_lay yX1_lay, Cond.initialized RX1, Cond.code yX1_lay cX1_lay 6 none, Cond.fieldLink RX1 42 "HeadMarks$Book" "lines" "I", Cond.fieldLink RX1 35 "HeadMarks$Layout" "lines" "I", Cond.fieldLink RX1 39 "HeadMarks$Layout" "pages" "I", Cond.fieldLink RX1 45 "HeadMarks$Book" "broken" "[I", Cond.fieldLink RX1 32 "HeadMarks$Layout" "heads" "[I", Cond.methodLink RX1 48 yX1_opensPage, Cond.instanceMethod yX1_opensPage, Cond.selects RX1 yX1_opensPage yX1_opensPage, Cond.code yX1_opensPage cX1_opensPage 6 (some .boolean), Cond.fieldLink RX1 63 "HeadMarks$Book" "signs" "[I"]
def wsX3_countChanged_r2 : List Cond := [Cond.fieldLink RX1 26 "HeadMarks$Layout" "linesOn" "[I", Cond.fieldLink RX1 70 "HeadMarks$Book" "rules" "[I", Cond.static yX3_classOf, Cond.initialized RX3, Cond.code yX3_classOf cX3_classOf 1 (some .int), Cond.methodLink RX1 52 yX1_turnPage, Cond.instanceMethod yX1_turnPage, Cond.selects RX1 yX1_turnPage yX1_turnPage, Cond.code yX1_turnPage cX1_turnPage 4 none, Cond.methodLink RX1 73 yX1_addPage, Cond.instanceMethod yX1_addPage, Cond.selects RX1 yX1_addPage yX1_addPage, Cond.code yX1_addPage cX1_addPage 3 none, Cond.fieldLink RX1 23 "HeadMarks$Layout" "linesAhead" "[I", Cond.fieldLink RX1 29 "HeadMarks$Layout" "ownFirst" "[[I", Cond.methodLink RX1 77 yX1_isLeft, Cond.static yX1_isLeft, Cond.code yX1_isLeft cX1_isLeft 1 (some .boolean), Cond.methodLink RX1 56 yX1_putLine, Cond.instanceMethod yX1_putLine, Cond.selects RX1 yX1_putLine yX1_putLine, Cond.code yX1_putLine cX1_putLine 4 none, Cond.fieldLink RX1 9 "HeadMarks$Layout" "pageOf" "[I", Cond.fieldLink RX1 15 "HeadMarks$Layout" "chapterOf" "[I"]
def wsX3_countChanged_r3 : List Cond := [Cond.fieldLink RX1 20 "HeadMarks$Layout" "inForce" "[[I", Cond.methodLink RX1 81 yX1_forceBehind, Cond.instanceMethod yX1_forceBehind, Cond.selects RX1 yX1_forceBehind yX1_forceBehind, Cond.code yX1_forceBehind cX1_forceBehind 3 (some .int), Cond.methodLink RX1 85 yX1_putMark, Cond.instanceMethod yX1_putMark, Cond.selects RX1 yX1_putMark yX1_putMark, Cond.code yX1_putMark cX1_putMark 4 none, Cond.methodLink RX1 59 yX1_headOf, Cond.instanceMethod yX1_headOf, Cond.selects RX1 yX1_headOf yX1_headOf, Cond.code yX1_headOf cX1_headOf 5 (some .int), Cond.methodLink RX1 89 yX1_markOf, Cond.instanceMethod yX1_markOf, Cond.selects RX1 yX1_markOf yX1_markOf, Cond.code yX1_markOf cX1_markOf 4 (some .int), Cond.methodLink RX3 160 yX1_headOrNone, Cond.instanceMethod yX1_headOrNone, Cond.selects RX1 yX1_headOrNone yX1_headOrNone, Cond.code yX1_headOrNone cX1_headOrNone 2 (some .int), Cond.methodLink RX1 93 yX1_hasPage, Cond.instanceMethod yX1_hasPage, Cond.selects RX1 yX1_hasPage yX1_hasPage]
def wsX3_countChanged_r4 : List Cond := [Cond.code yX1_hasPage cX1_hasPage 2 (some .boolean)]
def wsX3_countChanged : List Cond := .code yX3_countChanged cX3_countChanged 5 (some .int) :: ((wsX3_countChanged_r1 ++ (wsX3_countChanged_r2 ++ (wsX3_countChanged_r3 ++ wsX3_countChanged_r4))) ++ wsX30 ++ wsX00 ++ wsX10)
def wsX3_changed_r1 : List Cond := [Cond.fieldLink RX3 19 "HeadMarks" "book" "LHeadMarks$Book;", Cond.methodLink RX3 70 yX0_canBreakAhead, Cond.instanceMethod yX0_canBreakAhead, Cond.selects RX0 yX0_canBreakAhead yX0_canBreakAhead, Cond.initialized RX0, Cond.code yX0_canBreakAhead cX0_canBreakAhead 2 (some .boolean), Cond.fieldLink RX0 29 "HeadMarks$Book" "lines" "I", Cond.methodLink RX3 129 yX3_countChanged, Cond.instanceMethod yX3_countChanged, Cond.selects RX3 yX3_countChanged yX3_countChanged, Cond.initialized RX3, Cond.code yX3_countChanged cX3_countChanged 5 (some .int), Cond.fieldLink RX3 38 "HeadMarks" "trial" "LHeadMarks$Layout;", Cond.fieldLink RX3 66 "HeadMarks$Book" "rules" "[I", Cond.fieldLink RX3 34 "HeadMarks" "now" "LHeadMarks$Layout;", Cond.fieldLink RX3 113 "HeadMarks$Layout" "pages" "I", Cond.methodLink RX3 135 Lib.Math.max.name, Cond.static Lib.Math.max.name, Cond.initialized "java/lang/Math", Cond.code Lib.Math.max.name Lib.Math.max.code 2 (some .int), Cond.methodLink RX3 143 yX1_lay, Cond.instanceMethod yX1_lay, Cond.selects RX1 yX1_lay yX1_lay, Cond.initialized RX1]
def wsX3_changed_r2 : List Cond := [Cond.code yX1_lay cX1_lay 6 none, Cond.fieldLink RX1 42 "HeadMarks$Book" "lines" "I", Cond.fieldLink RX1 35 "HeadMarks$Layout" "lines" "I", Cond.fieldLink RX1 39 "HeadMarks$Layout" "pages" "I", Cond.fieldLink RX1 45 "HeadMarks$Book" "broken" "[I", Cond.fieldLink RX1 32 "HeadMarks$Layout" "heads" "[I", Cond.methodLink RX1 48 yX1_opensPage, Cond.instanceMethod yX1_opensPage, Cond.selects RX1 yX1_opensPage yX1_opensPage, Cond.code yX1_opensPage cX1_opensPage 6 (some .boolean), Cond.fieldLink RX1 63 "HeadMarks$Book" "signs" "[I", Cond.fieldLink RX1 26 "HeadMarks$Layout" "linesOn" "[I", Cond.fieldLink RX1 70 "HeadMarks$Book" "rules" "[I", Cond.static yX3_classOf, Cond.code yX3_classOf cX3_classOf 1 (some .int), Cond.methodLink RX1 52 yX1_turnPage, Cond.instanceMethod yX1_turnPage, Cond.selects RX1 yX1_turnPage yX1_turnPage, Cond.code yX1_turnPage cX1_turnPage 4 none, Cond.methodLink RX1 73 yX1_addPage, Cond.instanceMethod yX1_addPage, Cond.selects RX1 yX1_addPage yX1_addPage, Cond.code yX1_addPage cX1_addPage 3 none, Cond.fieldLink RX1 23 "HeadMarks$Layout" "linesAhead" "[I"]
def wsX3_changed_r3 : List Cond := [Cond.fieldLink RX1 29 "HeadMarks$Layout" "ownFirst" "[[I", Cond.methodLink RX1 77 yX1_isLeft, Cond.static yX1_isLeft, Cond.code yX1_isLeft cX1_isLeft 1 (some .boolean), Cond.methodLink RX1 56 yX1_putLine, Cond.instanceMethod yX1_putLine, Cond.selects RX1 yX1_putLine yX1_putLine, Cond.code yX1_putLine cX1_putLine 4 none, Cond.fieldLink RX1 9 "HeadMarks$Layout" "pageOf" "[I", Cond.fieldLink RX1 15 "HeadMarks$Layout" "chapterOf" "[I", Cond.fieldLink RX1 20 "HeadMarks$Layout" "inForce" "[[I", Cond.methodLink RX1 81 yX1_forceBehind, Cond.instanceMethod yX1_forceBehind, Cond.selects RX1 yX1_forceBehind yX1_forceBehind, Cond.code yX1_forceBehind cX1_forceBehind 3 (some .int), Cond.methodLink RX1 85 yX1_putMark, Cond.instanceMethod yX1_putMark, Cond.selects RX1 yX1_putMark yX1_putMark, Cond.code yX1_putMark cX1_putMark 4 none, Cond.methodLink RX1 59 yX1_headOf, Cond.instanceMethod yX1_headOf, Cond.selects RX1 yX1_headOf yX1_headOf, Cond.code yX1_headOf cX1_headOf 5 (some .int), Cond.methodLink RX1 89 yX1_markOf]
def wsX3_changed_r4 : List Cond := [Cond.instanceMethod yX1_markOf, Cond.selects RX1 yX1_markOf yX1_markOf, Cond.code yX1_markOf cX1_markOf 4 (some .int), Cond.methodLink RX3 160 yX1_headOrNone, Cond.instanceMethod yX1_headOrNone, Cond.selects RX1 yX1_headOrNone yX1_headOrNone, Cond.code yX1_headOrNone cX1_headOrNone 2 (some .int), Cond.methodLink RX1 93 yX1_hasPage, Cond.instanceMethod yX1_hasPage, Cond.selects RX1 yX1_hasPage yX1_hasPage, Cond.code yX1_hasPage cX1_hasPage 2 (some .boolean)]
def wsX3_changed : List Cond := .code yX3_changed cX3_changed 2 (some .int) :: ((wsX3_changed_r1 ++ (wsX3_changed_r2 ++ (wsX3_changed_r3 ++ wsX3_changed_r4))) ++ wsX30 ++ wsX00 ++ wsX10)
def wsX3_worst_r1 : List Cond := [Cond.fieldLink RX3 19 "HeadMarks" "book" "LHeadMarks$Book;", Cond.fieldLink RX3 59 "HeadMarks$Book" "lines" "I", Cond.methodLink RX3 129 yX3_countChanged, Cond.instanceMethod yX3_countChanged, Cond.selects RX3 yX3_countChanged yX3_countChanged, Cond.initialized RX3, Cond.code yX3_countChanged cX3_countChanged 5 (some .int), Cond.fieldLink RX3 38 "HeadMarks" "trial" "LHeadMarks$Layout;", Cond.fieldLink RX3 66 "HeadMarks$Book" "rules" "[I", Cond.fieldLink RX3 34 "HeadMarks" "now" "LHeadMarks$Layout;", Cond.fieldLink RX3 113 "HeadMarks$Layout" "pages" "I", Cond.methodLink RX3 135 Lib.Math.max.name, Cond.static Lib.Math.max.name, Cond.initialized "java/lang/Math", Cond.code Lib.Math.max.name Lib.Math.max.code 2 (some .int), Cond.methodLink RX3 143 yX1_lay, Cond.instanceMethod yX1_lay, Cond.selects RX1 yX1_lay yX1_lay, Cond.initialized RX1, Cond.code yX1_lay cX1_lay 6 none, Cond.fieldLink RX1 42 "HeadMarks$Book" "lines" "I", Cond.fieldLink RX1 35 "HeadMarks$Layout" "lines" "I", Cond.fieldLink RX1 39 "HeadMarks$Layout" "pages" "I", Cond.fieldLink RX1 45 "HeadMarks$Book" "broken" "[I"]
def wsX3_worst_r2 : List Cond := [Cond.fieldLink RX1 32 "HeadMarks$Layout" "heads" "[I", Cond.methodLink RX1 48 yX1_opensPage, Cond.instanceMethod yX1_opensPage, Cond.selects RX1 yX1_opensPage yX1_opensPage, Cond.code yX1_opensPage cX1_opensPage 6 (some .boolean), Cond.fieldLink RX1 63 "HeadMarks$Book" "signs" "[I", Cond.fieldLink RX1 26 "HeadMarks$Layout" "linesOn" "[I", Cond.fieldLink RX1 70 "HeadMarks$Book" "rules" "[I", Cond.static yX3_classOf, Cond.code yX3_classOf cX3_classOf 1 (some .int), Cond.methodLink RX1 52 yX1_turnPage, Cond.instanceMethod yX1_turnPage, Cond.selects RX1 yX1_turnPage yX1_turnPage, Cond.code yX1_turnPage cX1_turnPage 4 none, Cond.methodLink RX1 73 yX1_addPage, Cond.instanceMethod yX1_addPage, Cond.selects RX1 yX1_addPage yX1_addPage, Cond.code yX1_addPage cX1_addPage 3 none, Cond.fieldLink RX1 23 "HeadMarks$Layout" "linesAhead" "[I", Cond.fieldLink RX1 29 "HeadMarks$Layout" "ownFirst" "[[I", Cond.methodLink RX1 77 yX1_isLeft, Cond.static yX1_isLeft, Cond.code yX1_isLeft cX1_isLeft 1 (some .boolean), Cond.methodLink RX1 56 yX1_putLine]
def wsX3_worst_r3 : List Cond := [Cond.instanceMethod yX1_putLine, Cond.selects RX1 yX1_putLine yX1_putLine, Cond.code yX1_putLine cX1_putLine 4 none, Cond.fieldLink RX1 9 "HeadMarks$Layout" "pageOf" "[I", Cond.fieldLink RX1 15 "HeadMarks$Layout" "chapterOf" "[I", Cond.fieldLink RX1 20 "HeadMarks$Layout" "inForce" "[[I", Cond.methodLink RX1 81 yX1_forceBehind, Cond.instanceMethod yX1_forceBehind, Cond.selects RX1 yX1_forceBehind yX1_forceBehind, Cond.code yX1_forceBehind cX1_forceBehind 3 (some .int), Cond.methodLink RX1 85 yX1_putMark, Cond.instanceMethod yX1_putMark, Cond.selects RX1 yX1_putMark yX1_putMark, Cond.code yX1_putMark cX1_putMark 4 none, Cond.methodLink RX1 59 yX1_headOf, Cond.instanceMethod yX1_headOf, Cond.selects RX1 yX1_headOf yX1_headOf, Cond.code yX1_headOf cX1_headOf 5 (some .int), Cond.methodLink RX1 89 yX1_markOf, Cond.instanceMethod yX1_markOf, Cond.selects RX1 yX1_markOf yX1_markOf, Cond.code yX1_markOf cX1_markOf 4 (some .int), Cond.methodLink RX3 160 yX1_headOrNone, Cond.instanceMethod yX1_headOrNone]
def wsX3_worst_r4 : List Cond := [Cond.selects RX1 yX1_headOrNone yX1_headOrNone, Cond.code yX1_headOrNone cX1_headOrNone 2 (some .int), Cond.methodLink RX1 93 yX1_hasPage, Cond.instanceMethod yX1_hasPage, Cond.selects RX1 yX1_hasPage yX1_hasPage, Cond.code yX1_hasPage cX1_hasPage 2 (some .boolean)]
def wsX3_worst : List Cond := .code yX3_worst cX3_worst 6 (some .int) :: ((wsX3_worst_r1 ++ (wsX3_worst_r2 ++ (wsX3_worst_r3 ++ wsX3_worst_r4))) ++ wsX30 ++ wsX00 ++ wsX10)
def wsX3_fit_r1 : List Cond := [Cond.fieldLink RX3 132 "HeadMarks" "RULE_LEAST" "[I", Cond.fieldLink RX3 19 "HeadMarks" "book" "LHeadMarks$Book;", Cond.fieldLink RX3 66 "HeadMarks$Book" "rules" "[I", Cond.methodLink RX3 135 Lib.Math.max.name, Cond.static Lib.Math.max.name, Cond.initialized "java/lang/Math", Cond.code Lib.Math.max.name Lib.Math.max.code 2 (some .int), Cond.fieldLink RX3 140 "HeadMarks" "RULE_MOST" "[I", Cond.fieldLink RX3 38 "HeadMarks" "trial" "LHeadMarks$Layout;", Cond.fieldLink RX3 113 "HeadMarks$Layout" "pages" "I", Cond.methodLink RX3 143 yX1_lay, Cond.instanceMethod yX1_lay, Cond.selects RX1 yX1_lay yX1_lay, Cond.initialized RX1, Cond.code yX1_lay cX1_lay 6 none, Cond.fieldLink RX1 42 "HeadMarks$Book" "lines" "I", Cond.fieldLink RX1 35 "HeadMarks$Layout" "lines" "I", Cond.fieldLink RX1 39 "HeadMarks$Layout" "pages" "I", Cond.fieldLink RX1 45 "HeadMarks$Book" "broken" "[I", Cond.fieldLink RX1 32 "HeadMarks$Layout" "heads" "[I", Cond.methodLink RX1 48 yX1_opensPage, Cond.instanceMethod yX1_opensPage, Cond.selects RX1 yX1_opensPage yX1_opensPage, Cond.code yX1_opensPage cX1_opensPage 6 (some .boolean)]
def wsX3_fit_r2 : List Cond := [Cond.fieldLink RX1 63 "HeadMarks$Book" "signs" "[I", Cond.fieldLink RX1 26 "HeadMarks$Layout" "linesOn" "[I", Cond.fieldLink RX1 70 "HeadMarks$Book" "rules" "[I", Cond.static yX3_classOf, Cond.initialized RX3, Cond.code yX3_classOf cX3_classOf 1 (some .int), Cond.methodLink RX1 52 yX1_turnPage, Cond.instanceMethod yX1_turnPage, Cond.selects RX1 yX1_turnPage yX1_turnPage, Cond.code yX1_turnPage cX1_turnPage 4 none, Cond.methodLink RX1 73 yX1_addPage, Cond.instanceMethod yX1_addPage, Cond.selects RX1 yX1_addPage yX1_addPage, Cond.code yX1_addPage cX1_addPage 3 none, Cond.fieldLink RX1 23 "HeadMarks$Layout" "linesAhead" "[I", Cond.fieldLink RX1 29 "HeadMarks$Layout" "ownFirst" "[[I", Cond.methodLink RX1 77 yX1_isLeft, Cond.static yX1_isLeft, Cond.code yX1_isLeft cX1_isLeft 1 (some .boolean), Cond.methodLink RX1 56 yX1_putLine, Cond.instanceMethod yX1_putLine, Cond.selects RX1 yX1_putLine yX1_putLine, Cond.code yX1_putLine cX1_putLine 4 none, Cond.fieldLink RX1 9 "HeadMarks$Layout" "pageOf" "[I"]
def wsX3_fit_r3 : List Cond := [Cond.fieldLink RX1 15 "HeadMarks$Layout" "chapterOf" "[I", Cond.fieldLink RX1 20 "HeadMarks$Layout" "inForce" "[[I", Cond.methodLink RX1 81 yX1_forceBehind, Cond.instanceMethod yX1_forceBehind, Cond.selects RX1 yX1_forceBehind yX1_forceBehind, Cond.code yX1_forceBehind cX1_forceBehind 3 (some .int), Cond.methodLink RX1 85 yX1_putMark, Cond.instanceMethod yX1_putMark, Cond.selects RX1 yX1_putMark yX1_putMark, Cond.code yX1_putMark cX1_putMark 4 none, Cond.methodLink RX1 59 yX1_headOf, Cond.instanceMethod yX1_headOf, Cond.selects RX1 yX1_headOf yX1_headOf, Cond.code yX1_headOf cX1_headOf 5 (some .int), Cond.methodLink RX1 89 yX1_markOf, Cond.instanceMethod yX1_markOf, Cond.selects RX1 yX1_markOf yX1_markOf, Cond.code yX1_markOf cX1_markOf 4 (some .int)]
def wsX3_fit : List Cond := .code yX3_fit cX3_fit 4 (some .int) :: ((wsX3_fit_r1 ++ (wsX3_fit_r2 ++ wsX3_fit_r3)) ++ wsX30 ++ wsX00 ++ wsX10)
def wsX3_image : List Cond := .code yX3_image cX3_image 2 (some .int) :: ([.fieldLink RX3 23 "HeadMarks" "images" "[LHeadMarks$Book;", .fieldLink RX3 19 "HeadMarks" "book" "LHeadMarks$Book;", .fieldLink RX3 27 "HeadMarks" "imagesKept" "I", .methodLink RX3 147 yX0_copyFrom, .instanceMethod yX0_copyFrom, .selects RX0 yX0_copyFrom yX0_copyFrom, .initialized RX0, .code yX0_copyFrom cX0_copyFrom 2 none, .fieldLink RX0 9 "HeadMarks$Book" "signs" "[I", .methodLink RX0 39 arraycopyName, .native arraycopyName, .static arraycopyName, .initialized "java/lang/System", .fieldLink RX0 15 "HeadMarks$Book" "broken" "[I", .fieldLink RX0 26 "HeadMarks$Book" "rules" "[I", .fieldLink RX0 29 "HeadMarks$Book" "lines" "I"] ++ wsX30 ++ wsX00)
def wsX3_restore_r1 : List Cond := [Cond.fieldLink RX3 27 "HeadMarks" "imagesKept" "I", Cond.fieldLink RX3 19 "HeadMarks" "book" "LHeadMarks$Book;", Cond.fieldLink RX3 23 "HeadMarks" "images" "[LHeadMarks$Book;", Cond.methodLink RX3 147 yX0_copyFrom, Cond.instanceMethod yX0_copyFrom, Cond.selects RX0 yX0_copyFrom yX0_copyFrom, Cond.initialized RX0, Cond.code yX0_copyFrom cX0_copyFrom 2 none, Cond.fieldLink RX0 9 "HeadMarks$Book" "signs" "[I", Cond.methodLink RX0 39 arraycopyName, Cond.native arraycopyName, Cond.static arraycopyName, Cond.initialized "java/lang/System", Cond.fieldLink RX0 15 "HeadMarks$Book" "broken" "[I", Cond.fieldLink RX0 26 "HeadMarks$Book" "rules" "[I", Cond.fieldLink RX0 29 "HeadMarks$Book" "lines" "I", Cond.methodLink RX3 56 yX3_layNow, Cond.instanceMethod yX3_layNow, Cond.selects RX3 yX3_layNow yX3_layNow, Cond.initialized RX3, Cond.code yX3_layNow cX3_layNow 1 none, Cond.fieldLink RX3 34 "HeadMarks" "now" "LHeadMarks$Layout;", Cond.fieldLink RX3 66 "HeadMarks$Book" "rules" "[I", Cond.methodLink RX3 143 yX1_lay]
def wsX3_restore_r2 : List Cond := [Cond.instanceMethod yX1_lay, Cond.selects RX1 yX1_lay yX1_lay, Cond.initialized RX1, Cond.code yX1_lay cX1_lay 6 none, Cond.fieldLink RX1 42 "HeadMarks$Book" "lines" "I", Cond.fieldLink RX1 35 "HeadMarks$Layout" "lines" "I", Cond.fieldLink RX1 39 "HeadMarks$Layout" "pages" "I", Cond.fieldLink RX1 45 "HeadMarks$Book" "broken" "[I", Cond.fieldLink RX1 32 "HeadMarks$Layout" "heads" "[I", Cond.methodLink RX1 48 yX1_opensPage, Cond.instanceMethod yX1_opensPage, Cond.selects RX1 yX1_opensPage yX1_opensPage, Cond.code yX1_opensPage cX1_opensPage 6 (some .boolean), Cond.fieldLink RX1 63 "HeadMarks$Book" "signs" "[I", Cond.fieldLink RX1 26 "HeadMarks$Layout" "linesOn" "[I", Cond.fieldLink RX1 70 "HeadMarks$Book" "rules" "[I", Cond.static yX3_classOf, Cond.code yX3_classOf cX3_classOf 1 (some .int), Cond.methodLink RX1 52 yX1_turnPage, Cond.instanceMethod yX1_turnPage, Cond.selects RX1 yX1_turnPage yX1_turnPage, Cond.code yX1_turnPage cX1_turnPage 4 none, Cond.methodLink RX1 73 yX1_addPage, Cond.instanceMethod yX1_addPage]
def wsX3_restore_r3 : List Cond := [Cond.selects RX1 yX1_addPage yX1_addPage, Cond.code yX1_addPage cX1_addPage 3 none, Cond.fieldLink RX1 23 "HeadMarks$Layout" "linesAhead" "[I", Cond.fieldLink RX1 29 "HeadMarks$Layout" "ownFirst" "[[I", Cond.methodLink RX1 77 yX1_isLeft, Cond.static yX1_isLeft, Cond.code yX1_isLeft cX1_isLeft 1 (some .boolean), Cond.methodLink RX1 56 yX1_putLine, Cond.instanceMethod yX1_putLine, Cond.selects RX1 yX1_putLine yX1_putLine, Cond.code yX1_putLine cX1_putLine 4 none, Cond.fieldLink RX1 9 "HeadMarks$Layout" "pageOf" "[I", Cond.fieldLink RX1 15 "HeadMarks$Layout" "chapterOf" "[I", Cond.fieldLink RX1 20 "HeadMarks$Layout" "inForce" "[[I", Cond.methodLink RX1 81 yX1_forceBehind, Cond.instanceMethod yX1_forceBehind, Cond.selects RX1 yX1_forceBehind yX1_forceBehind, Cond.code yX1_forceBehind cX1_forceBehind 3 (some .int), Cond.methodLink RX1 85 yX1_putMark, Cond.instanceMethod yX1_putMark, Cond.selects RX1 yX1_putMark yX1_putMark, Cond.code yX1_putMark cX1_putMark 4 none, Cond.methodLink RX1 59 yX1_headOf, Cond.instanceMethod yX1_headOf]
def wsX3_restore_r4 : List Cond := [Cond.selects RX1 yX1_headOf yX1_headOf, Cond.code yX1_headOf cX1_headOf 5 (some .int), Cond.methodLink RX1 89 yX1_markOf, Cond.instanceMethod yX1_markOf, Cond.selects RX1 yX1_markOf yX1_markOf, Cond.code yX1_markOf cX1_markOf 4 (some .int)]
def wsX3_restore : List Cond := .code yX3_restore cX3_restore 2 (some .int) :: ((wsX3_restore_r1 ++ (wsX3_restore_r2 ++ (wsX3_restore_r3 ++ wsX3_restore_r4))) ++ wsX30 ++ wsX00 ++ wsX10)
def wsX3_count_r1 : List Cond := [Cond.fieldLink RX3 19 "HeadMarks" "book" "LHeadMarks$Book;", Cond.fieldLink RX3 66 "HeadMarks$Book" "rules" "[I", Cond.fieldLink RX3 59 "HeadMarks$Book" "lines" "I", Cond.fieldLink RX3 34 "HeadMarks" "now" "LHeadMarks$Layout;", Cond.fieldLink RX3 113 "HeadMarks$Layout" "pages" "I", Cond.fieldLink RX3 12 "HeadMarks" "pad" "LHeadMarks$Pad;", Cond.fieldLink RX3 41 "HeadMarks$Pad" "size" "I", Cond.fieldLink RX3 27 "HeadMarks" "imagesKept" "I", Cond.methodLink RX3 151 yX1_countBlank, Cond.instanceMethod yX1_countBlank, Cond.selects RX1 yX1_countBlank yX1_countBlank, Cond.initialized RX1, Cond.code yX1_countBlank cX1_countBlank 3 (some .int), Cond.fieldLink RX1 39 "HeadMarks$Layout" "pages" "I", Cond.fieldLink RX1 26 "HeadMarks$Layout" "linesOn" "[I", Cond.methodLink RX3 77 yX0_countBreaks, Cond.instanceMethod yX0_countBreaks, Cond.selects RX0 yX0_countBreaks yX0_countBreaks, Cond.initialized RX0, Cond.code yX0_countBreaks cX0_countBreaks 3 (some .int), Cond.fieldLink RX0 29 "HeadMarks$Book" "lines" "I", Cond.fieldLink RX0 15 "HeadMarks$Book" "broken" "[I", Cond.methodLink RX3 116 yX1_countChapters, Cond.instanceMethod yX1_countChapters]
def wsX3_count_r2 : List Cond := [Cond.selects RX1 yX1_countChapters yX1_countChapters, Cond.code yX1_countChapters cX1_countChapters 1 (some .int), Cond.fieldLink RX1 35 "HeadMarks$Layout" "lines" "I", Cond.fieldLink RX1 15 "HeadMarks$Layout" "chapterOf" "[I", Cond.methodLink RX3 154 yX1_countShared, Cond.instanceMethod yX1_countShared, Cond.selects RX1 yX1_countShared yX1_countShared, Cond.code yX1_countShared cX1_countShared 3 (some .int), Cond.methodLink RX1 101 yX1_isShared, Cond.instanceMethod yX1_isShared, Cond.selects RX1 yX1_isShared yX1_isShared, Cond.code yX1_isShared cX1_isShared 4 (some .boolean), Cond.fieldLink RX1 23 "HeadMarks$Layout" "linesAhead" "[I", Cond.methodLink RX1 96 Lib.Math.max.name, Cond.static Lib.Math.max.name, Cond.initialized "java/lang/Math", Cond.code Lib.Math.max.name Lib.Math.max.code 2 (some .int), Cond.methodLink RX3 157 yX1_countHeads, Cond.instanceMethod yX1_countHeads, Cond.selects RX1 yX1_countHeads yX1_countHeads, Cond.code yX1_countHeads cX1_countHeads 3 (some .int), Cond.fieldLink RX1 32 "HeadMarks$Layout" "heads" "[I"]
def wsX3_count : List Cond := .code yX3_count cX3_count 2 (some .int) :: ((wsX3_count_r1 ++ wsX3_count_r2) ++ wsX30 ++ wsX00 ++ wsX10 ++ wsX20)
def wsX4_init : List Cond := .code yX4_init cX4_init 1 none :: ([.methodLink RX4 1 objectInit, .instanceMethod objectInit, .code objectInit ⟨#[0xb1]⟩ 1 none, .arrayClass .int, .fieldLink RX4 7 "HeadMarksModel" "state" "[I", .fieldLink RX4 13 "HeadMarksModel" "images" "[I", .arrayClass .boolean, .fieldLink RX4 16 "HeadMarksModel" "isKept" "[Z", .fieldLink RX4 20 "HeadMarksModel" "pad" "[I", .fieldLink RX4 23 "HeadMarksModel" "pageOf" "[I", .fieldLink RX4 26 "HeadMarksModel" "placeOf" "[I", .fieldLink RX4 29 "HeadMarksModel" "force" "[I", .fieldLink RX4 32 "HeadMarksModel" "firstOn" "[I", .fieldLink RX4 35 "HeadMarksModel" "linesOn" "[I", .fieldLink RX4 38 "HeadMarksModel" "headNow" "[I"] ++ wsX40)
def wsX4_in : List Cond := .code yX4_in cX4_in 3 (some .boolean) :: ([])
def wsX4_isChapter : List Cond := .code yX4_isChapter cX4_isChapter 1 (some .boolean) :: ([.methodLink RX4 41 yX4_in, .static yX4_in, .initialized RX4, .code yX4_in cX4_in 3 (some .boolean)])
def wsX4_isSection : List Cond := .code yX4_isSection cX4_isSection 1 (some .boolean) :: ([.methodLink RX4 41 yX4_in, .static yX4_in, .initialized RX4, .code yX4_in cX4_in 3 (some .boolean)])
def wsX4_many : List Cond := .code yX4_many cX4_many 1 (some .int) :: ([.fieldLink RX4 7 "HeadMarksModel" "state" "[I"] ++ wsX40)
def wsX4_isLine : List Cond := .code yX4_isLine cX4_isLine 2 (some .boolean) :: ([.methodLink RX4 45 yX4_many, .instanceMethod yX4_many, .selects RX4 yX4_many yX4_many, .initialized RX4, .code yX4_many cX4_many 1 (some .int), .fieldLink RX4 7 "HeadMarksModel" "state" "[I", .methodLink RX4 41 yX4_in, .static yX4_in, .code yX4_in cX4_in 3 (some .boolean)] ++ wsX40)
def wsX4_say : List Cond := .code yX4_say cX4_say 2 (some .int) :: ([.fieldLink RX4 49 "HeadMarksModel" "said" "I", .fieldLink RX4 20 "HeadMarksModel" "pad" "[I", .methodLink RX4 41 yX4_in, .static yX4_in, .initialized RX4, .code yX4_in cX4_in 3 (some .boolean)] ++ wsX40)
def wsX4_wipe : List Cond := .code yX4_wipe cX4_wipe 2 (some .int) :: ([.fieldLink RX4 49 "HeadMarksModel" "said" "I"] ++ wsX40)
def wsX4_canStand : List Cond := .code yX4_canStand cX4_canStand 2 (some .boolean) :: ([.fieldLink RX4 20 "HeadMarksModel" "pad" "[I", .methodLink RX4 53 yX4_isChapter, .static yX4_isChapter, .initialized RX4, .code yX4_isChapter cX4_isChapter 1 (some .boolean), .methodLink RX4 41 yX4_in, .static yX4_in, .code yX4_in cX4_in 3 (some .boolean), .methodLink RX4 57 yX4_isSection, .static yX4_isSection, .code yX4_isSection cX4_isSection 1 (some .boolean)] ++ wsX40)
def wsX4_fault : List Cond := .code yX4_fault cX4_fault 2 (some .int) :: ([.fieldLink RX4 49 "HeadMarksModel" "said" "I", .fieldLink RX4 20 "HeadMarksModel" "pad" "[I", .methodLink RX4 60 yX4_canStand, .instanceMethod yX4_canStand, .selects RX4 yX4_canStand yX4_canStand, .initialized RX4, .code yX4_canStand cX4_canStand 2 (some .boolean), .methodLink RX4 53 yX4_isChapter, .static yX4_isChapter, .code yX4_isChapter cX4_isChapter 1 (some .boolean), .methodLink RX4 41 yX4_in, .static yX4_in, .code yX4_in cX4_in 3 (some .boolean), .methodLink RX4 57 yX4_isSection, .static yX4_isSection, .code yX4_isSection cX4_isSection 1 (some .boolean)] ++ wsX40)
def wsX4_read : List Cond := .code yX4_read cX4_read 3 (some .int) :: ([.fieldLink RX4 49 "HeadMarksModel" "said" "I", .fieldLink RX4 20 "HeadMarksModel" "pad" "[I", .fieldLink RX4 7 "HeadMarksModel" "state" "[I", .methodLink RX4 63 yX4_fault, .instanceMethod yX4_fault, .selects RX4 yX4_fault yX4_fault, .initialized RX4, .code yX4_fault cX4_fault 2 (some .int), .methodLink RX4 60 yX4_canStand, .instanceMethod yX4_canStand, .selects RX4 yX4_canStand yX4_canStand, .code yX4_canStand cX4_canStand 2 (some .boolean), .methodLink RX4 53 yX4_isChapter, .static yX4_isChapter, .code yX4_isChapter cX4_isChapter 1 (some .boolean), .methodLink RX4 41 yX4_in, .static yX4_in, .code yX4_in cX4_in 3 (some .boolean), .methodLink RX4 57 yX4_isSection, .static yX4_isSection, .code yX4_isSection cX4_isSection 1 (some .boolean)] ++ wsX40)
def wsX4_least : List Cond := .code yX4_least cX4_least 1 (some .int) :: ([])
def wsX4_most : List Cond := .code yX4_most cX4_most 1 (some .int) :: ([])
def wsX4_rule : List Cond := .code yX4_rule cX4_rule 4 (some .int) :: ([.fieldLink RX4 7 "HeadMarksModel" "state" "[I", .methodLink RX4 41 yX4_in, .static yX4_in, .initialized RX4, .code yX4_in cX4_in 3 (some .boolean), .methodLink RX4 66 yX4_least, .static yX4_least, .code yX4_least cX4_least 1 (some .int), .methodLink RX4 70 yX4_most, .static yX4_most, .code yX4_most cX4_most 1 (some .int)] ++ wsX40)
def wsX4_breaks : List Cond := .code yX4_breaks cX4_breaks 3 (some .int) :: ([.fieldLink RX4 7 "HeadMarksModel" "state" "[I", .methodLink RX4 45 yX4_many, .instanceMethod yX4_many, .selects RX4 yX4_many yX4_many, .initialized RX4, .code yX4_many cX4_many 1 (some .int)] ++ wsX40)
def wsX4_cut : List Cond := .code yX4_cut cX4_cut 3 (some .int) :: ([.fieldLink RX4 7 "HeadMarksModel" "state" "[I", .methodLink RX4 45 yX4_many, .instanceMethod yX4_many, .selects RX4 yX4_many yX4_many, .initialized RX4, .code yX4_many cX4_many 1 (some .int), .methodLink RX4 41 yX4_in, .static yX4_in, .code yX4_in cX4_in 3 (some .boolean), .methodLink RX4 73 yX4_breaks, .instanceMethod yX4_breaks, .selects RX4 yX4_breaks yX4_breaks, .code yX4_breaks cX4_breaks 3 (some .int)] ++ wsX40)
def wsX4_isNew : List Cond := .code yX4_isNew cX4_isNew 4 (some .boolean) :: ([.fieldLink RX4 7 "HeadMarksModel" "state" "[I", .methodLink RX4 53 yX4_isChapter, .static yX4_isChapter, .initialized RX4, .code yX4_isChapter cX4_isChapter 1 (some .boolean), .methodLink RX4 41 yX4_in, .static yX4_in, .code yX4_in cX4_in 3 (some .boolean)] ++ wsX40)
def wsX4_beginPage : List Cond := .code yX4_beginPage cX4_beginPage 1 none :: ([.fieldLink RX4 76 "HeadMarksModel" "pages" "I", .fieldLink RX4 32 "HeadMarksModel" "firstOn" "[I", .fieldLink RX4 35 "HeadMarksModel" "linesOn" "[I"] ++ wsX40)
def wsX4_layForce : List Cond := .code yX4_layForce cX4_layForce 4 none :: ([.fieldLink RX4 7 "HeadMarksModel" "state" "[I", .fieldLink RX4 29 "HeadMarksModel" "force" "[I", .methodLink RX4 53 yX4_isChapter, .static yX4_isChapter, .initialized RX4, .code yX4_isChapter cX4_isChapter 1 (some .boolean), .methodLink RX4 41 yX4_in, .static yX4_in, .code yX4_in cX4_in 3 (some .boolean)] ++ wsX40)
def wsX4_layPages_r1 : List Cond := [Cond.fieldLink RX4 76 "HeadMarksModel" "pages" "I", Cond.fieldLink RX4 35 "HeadMarksModel" "linesOn" "[I", Cond.fieldLink RX4 7 "HeadMarksModel" "state" "[I", Cond.fieldLink RX4 23 "HeadMarksModel" "pageOf" "[I", Cond.fieldLink RX4 26 "HeadMarksModel" "placeOf" "[I", Cond.fieldLink RX4 32 "HeadMarksModel" "firstOn" "[I", Cond.methodLink RX4 45 yX4_many, Cond.instanceMethod yX4_many, Cond.selects RX4 yX4_many yX4_many, Cond.initialized RX4, Cond.code yX4_many cX4_many 1 (some .int), Cond.methodLink RX4 79 yX4_beginPage, Cond.instanceMethod yX4_beginPage, Cond.selects RX4 yX4_beginPage yX4_beginPage, Cond.code yX4_beginPage cX4_beginPage 1 none, Cond.methodLink RX4 82 yX4_isNew, Cond.instanceMethod yX4_isNew, Cond.selects RX4 yX4_isNew yX4_isNew, Cond.code yX4_isNew cX4_isNew 4 (some .boolean), Cond.methodLink RX4 53 yX4_isChapter, Cond.static yX4_isChapter, Cond.code yX4_isChapter cX4_isChapter 1 (some .boolean), Cond.methodLink RX4 41 yX4_in, Cond.static yX4_in]
def wsX4_layPages_r2 : List Cond := [Cond.code yX4_in cX4_in 3 (some .boolean), Cond.methodLink RX4 86 yX4_layForce, Cond.instanceMethod yX4_layForce, Cond.selects RX4 yX4_layForce yX4_layForce, Cond.code yX4_layForce cX4_layForce 4 none, Cond.fieldLink RX4 29 "HeadMarksModel" "force" "[I"]
def wsX4_layPages : List Cond := .code yX4_layPages cX4_layPages 2 none :: ((wsX4_layPages_r1 ++ wsX4_layPages_r2) ++ wsX40)
def wsX4_isPage : List Cond := .code yX4_isPage cX4_isPage 2 (some .boolean) :: ([.fieldLink RX4 76 "HeadMarksModel" "pages" "I", .methodLink RX4 41 yX4_in, .static yX4_in, .initialized RX4, .code yX4_in cX4_in 3 (some .boolean)] ++ wsX40)
def wsX4_breakMark : List Cond := .code yX4_breakMark cX4_breakMark 3 (some .int) :: ([.fieldLink RX4 29 "HeadMarksModel" "force" "[I"] ++ wsX40)
def wsX4_lineAhead : List Cond := .code yX4_lineAhead cX4_lineAhead 4 (some .int) :: ([.fieldLink RX4 23 "HeadMarksModel" "pageOf" "[I", .methodLink RX4 45 yX4_many, .instanceMethod yX4_many, .selects RX4 yX4_many yX4_many, .initialized RX4, .code yX4_many cX4_many 1 (some .int), .fieldLink RX4 7 "HeadMarksModel" "state" "[I"] ++ wsX40)
def wsX4_firstMark : List Cond := .code yX4_firstMark cX4_firstMark 5 (some .int) :: ([.fieldLink RX4 35 "HeadMarksModel" "linesOn" "[I", .fieldLink RX4 7 "HeadMarksModel" "state" "[I", .fieldLink RX4 32 "HeadMarksModel" "firstOn" "[I", .methodLink RX4 53 yX4_isChapter, .static yX4_isChapter, .initialized RX4, .code yX4_isChapter cX4_isChapter 1 (some .boolean), .methodLink RX4 41 yX4_in, .static yX4_in, .code yX4_in cX4_in 3 (some .boolean), .methodLink RX4 57 yX4_isSection, .static yX4_isSection, .code yX4_isSection cX4_isSection 1 (some .boolean)] ++ wsX40)
def wsX4_markOf_r1 : List Cond := [Cond.fieldLink RX4 35 "HeadMarksModel" "linesOn" "[I", Cond.methodLink RX4 90 yX4_lineAhead, Cond.instanceMethod yX4_lineAhead, Cond.selects RX4 yX4_lineAhead yX4_lineAhead, Cond.initialized RX4, Cond.code yX4_lineAhead cX4_lineAhead 4 (some .int), Cond.fieldLink RX4 23 "HeadMarksModel" "pageOf" "[I", Cond.methodLink RX4 45 yX4_many, Cond.instanceMethod yX4_many, Cond.selects RX4 yX4_many yX4_many, Cond.code yX4_many cX4_many 1 (some .int), Cond.fieldLink RX4 7 "HeadMarksModel" "state" "[I", Cond.methodLink RX4 93 yX4_breakMark, Cond.instanceMethod yX4_breakMark, Cond.selects RX4 yX4_breakMark yX4_breakMark, Cond.code yX4_breakMark cX4_breakMark 3 (some .int), Cond.fieldLink RX4 29 "HeadMarksModel" "force" "[I", Cond.methodLink RX4 97 yX4_firstMark, Cond.instanceMethod yX4_firstMark, Cond.selects RX4 yX4_firstMark yX4_firstMark, Cond.code yX4_firstMark cX4_firstMark 5 (some .int), Cond.fieldLink RX4 32 "HeadMarksModel" "firstOn" "[I", Cond.methodLink RX4 53 yX4_isChapter, Cond.static yX4_isChapter]
def wsX4_markOf_r2 : List Cond := [Cond.code yX4_isChapter cX4_isChapter 1 (some .boolean), Cond.methodLink RX4 41 yX4_in, Cond.static yX4_in, Cond.code yX4_in cX4_in 3 (some .boolean), Cond.methodLink RX4 57 yX4_isSection, Cond.static yX4_isSection, Cond.code yX4_isSection cX4_isSection 1 (some .boolean)]
def wsX4_markOf : List Cond := .code yX4_markOf cX4_markOf 6 (some .int) :: ((wsX4_markOf_r1 ++ wsX4_markOf_r2) ++ wsX40)
def wsX4_headOf_r1 : List Cond := [Cond.fieldLink RX4 35 "HeadMarksModel" "linesOn" "[I", Cond.fieldLink RX4 7 "HeadMarksModel" "state" "[I", Cond.fieldLink RX4 32 "HeadMarksModel" "firstOn" "[I", Cond.methodLink RX4 53 yX4_isChapter, Cond.static yX4_isChapter, Cond.initialized RX4, Cond.code yX4_isChapter cX4_isChapter 1 (some .boolean), Cond.methodLink RX4 41 yX4_in, Cond.static yX4_in, Cond.code yX4_in cX4_in 3 (some .boolean), Cond.methodLink RX4 100 yX4_markOf, Cond.instanceMethod yX4_markOf, Cond.selects RX4 yX4_markOf yX4_markOf, Cond.code yX4_markOf cX4_markOf 6 (some .int), Cond.methodLink RX4 90 yX4_lineAhead, Cond.instanceMethod yX4_lineAhead, Cond.selects RX4 yX4_lineAhead yX4_lineAhead, Cond.code yX4_lineAhead cX4_lineAhead 4 (some .int), Cond.fieldLink RX4 23 "HeadMarksModel" "pageOf" "[I", Cond.methodLink RX4 45 yX4_many, Cond.instanceMethod yX4_many, Cond.selects RX4 yX4_many yX4_many, Cond.code yX4_many cX4_many 1 (some .int), Cond.methodLink RX4 93 yX4_breakMark]
def wsX4_headOf_r2 : List Cond := [Cond.instanceMethod yX4_breakMark, Cond.selects RX4 yX4_breakMark yX4_breakMark, Cond.code yX4_breakMark cX4_breakMark 3 (some .int), Cond.fieldLink RX4 29 "HeadMarksModel" "force" "[I", Cond.methodLink RX4 97 yX4_firstMark, Cond.instanceMethod yX4_firstMark, Cond.selects RX4 yX4_firstMark yX4_firstMark, Cond.code yX4_firstMark cX4_firstMark 5 (some .int), Cond.methodLink RX4 57 yX4_isSection, Cond.static yX4_isSection, Cond.code yX4_isSection cX4_isSection 1 (some .boolean)]
def wsX4_headOf : List Cond := .code yX4_headOf cX4_headOf 3 (some .int) :: ((wsX4_headOf_r1 ++ wsX4_headOf_r2) ++ wsX40)
def wsX4_line_r1 : List Cond := [Cond.fieldLink RX4 7 "HeadMarksModel" "state" "[I", Cond.fieldLink RX4 23 "HeadMarksModel" "pageOf" "[I", Cond.fieldLink RX4 26 "HeadMarksModel" "placeOf" "[I", Cond.fieldLink RX4 29 "HeadMarksModel" "force" "[I", Cond.methodLink RX4 104 yX4_isLine, Cond.instanceMethod yX4_isLine, Cond.selects RX4 yX4_isLine yX4_isLine, Cond.initialized RX4, Cond.code yX4_isLine cX4_isLine 2 (some .boolean), Cond.methodLink RX4 45 yX4_many, Cond.instanceMethod yX4_many, Cond.selects RX4 yX4_many yX4_many, Cond.code yX4_many cX4_many 1 (some .int), Cond.methodLink RX4 41 yX4_in, Cond.static yX4_in, Cond.code yX4_in cX4_in 3 (some .boolean), Cond.methodLink RX4 107 yX4_layPages, Cond.instanceMethod yX4_layPages, Cond.selects RX4 yX4_layPages yX4_layPages, Cond.code yX4_layPages cX4_layPages 2 none, Cond.fieldLink RX4 76 "HeadMarksModel" "pages" "I", Cond.fieldLink RX4 35 "HeadMarksModel" "linesOn" "[I", Cond.fieldLink RX4 32 "HeadMarksModel" "firstOn" "[I", Cond.methodLink RX4 79 yX4_beginPage]
def wsX4_line_r2 : List Cond := [Cond.instanceMethod yX4_beginPage, Cond.selects RX4 yX4_beginPage yX4_beginPage, Cond.code yX4_beginPage cX4_beginPage 1 none, Cond.methodLink RX4 82 yX4_isNew, Cond.instanceMethod yX4_isNew, Cond.selects RX4 yX4_isNew yX4_isNew, Cond.code yX4_isNew cX4_isNew 4 (some .boolean), Cond.methodLink RX4 53 yX4_isChapter, Cond.static yX4_isChapter, Cond.code yX4_isChapter cX4_isChapter 1 (some .boolean), Cond.methodLink RX4 86 yX4_layForce, Cond.instanceMethod yX4_layForce, Cond.selects RX4 yX4_layForce yX4_layForce, Cond.code yX4_layForce cX4_layForce 4 none]
def wsX4_line : List Cond := .code yX4_line cX4_line 3 (some .int) :: ((wsX4_line_r1 ++ wsX4_line_r2) ++ wsX40)
def wsX4_chapterOf : List Cond := .code yX4_chapterOf cX4_chapterOf 4 (some .int) :: ([.fieldLink RX4 7 "HeadMarksModel" "state" "[I", .methodLink RX4 53 yX4_isChapter, .static yX4_isChapter, .initialized RX4, .code yX4_isChapter cX4_isChapter 1 (some .boolean), .methodLink RX4 41 yX4_in, .static yX4_in, .code yX4_in cX4_in 3 (some .boolean)] ++ wsX40)
def wsX4_isShared : List Cond := .code yX4_isShared cX4_isShared 6 (some .boolean) :: ([.fieldLink RX4 35 "HeadMarksModel" "linesOn" "[I", .fieldLink RX4 32 "HeadMarksModel" "firstOn" "[I", .methodLink RX4 110 yX4_chapterOf, .instanceMethod yX4_chapterOf, .selects RX4 yX4_chapterOf yX4_chapterOf, .initialized RX4, .code yX4_chapterOf cX4_chapterOf 4 (some .int), .fieldLink RX4 7 "HeadMarksModel" "state" "[I", .methodLink RX4 53 yX4_isChapter, .static yX4_isChapter, .code yX4_isChapter cX4_isChapter 1 (some .boolean), .methodLink RX4 41 yX4_in, .static yX4_in, .code yX4_in cX4_in 3 (some .boolean)] ++ wsX40)
def wsX4_page_r1 : List Cond := [Cond.fieldLink RX4 35 "HeadMarksModel" "linesOn" "[I", Cond.fieldLink RX4 32 "HeadMarksModel" "firstOn" "[I", Cond.methodLink RX4 107 yX4_layPages, Cond.instanceMethod yX4_layPages, Cond.selects RX4 yX4_layPages yX4_layPages, Cond.initialized RX4, Cond.code yX4_layPages cX4_layPages 2 none, Cond.fieldLink RX4 76 "HeadMarksModel" "pages" "I", Cond.fieldLink RX4 7 "HeadMarksModel" "state" "[I", Cond.fieldLink RX4 23 "HeadMarksModel" "pageOf" "[I", Cond.fieldLink RX4 26 "HeadMarksModel" "placeOf" "[I", Cond.methodLink RX4 45 yX4_many, Cond.instanceMethod yX4_many, Cond.selects RX4 yX4_many yX4_many, Cond.code yX4_many cX4_many 1 (some .int), Cond.methodLink RX4 79 yX4_beginPage, Cond.instanceMethod yX4_beginPage, Cond.selects RX4 yX4_beginPage yX4_beginPage, Cond.code yX4_beginPage cX4_beginPage 1 none, Cond.methodLink RX4 82 yX4_isNew, Cond.instanceMethod yX4_isNew, Cond.selects RX4 yX4_isNew yX4_isNew, Cond.code yX4_isNew cX4_isNew 4 (some .boolean), Cond.methodLink RX4 53 yX4_isChapter]
def wsX4_page_r2 : List Cond := [Cond.static yX4_isChapter, Cond.code yX4_isChapter cX4_isChapter 1 (some .boolean), Cond.methodLink RX4 41 yX4_in, Cond.static yX4_in, Cond.code yX4_in cX4_in 3 (some .boolean), Cond.methodLink RX4 86 yX4_layForce, Cond.instanceMethod yX4_layForce, Cond.selects RX4 yX4_layForce yX4_layForce, Cond.code yX4_layForce cX4_layForce 4 none, Cond.fieldLink RX4 29 "HeadMarksModel" "force" "[I", Cond.methodLink RX4 113 yX4_isPage, Cond.instanceMethod yX4_isPage, Cond.selects RX4 yX4_isPage yX4_isPage, Cond.code yX4_isPage cX4_isPage 2 (some .boolean), Cond.methodLink RX4 116 yX4_headOf, Cond.instanceMethod yX4_headOf, Cond.selects RX4 yX4_headOf yX4_headOf, Cond.code yX4_headOf cX4_headOf 3 (some .int), Cond.methodLink RX4 100 yX4_markOf, Cond.instanceMethod yX4_markOf, Cond.selects RX4 yX4_markOf yX4_markOf, Cond.code yX4_markOf cX4_markOf 6 (some .int), Cond.methodLink RX4 90 yX4_lineAhead, Cond.instanceMethod yX4_lineAhead]
def wsX4_page_r3 : List Cond := [Cond.selects RX4 yX4_lineAhead yX4_lineAhead, Cond.code yX4_lineAhead cX4_lineAhead 4 (some .int), Cond.methodLink RX4 93 yX4_breakMark, Cond.instanceMethod yX4_breakMark, Cond.selects RX4 yX4_breakMark yX4_breakMark, Cond.code yX4_breakMark cX4_breakMark 3 (some .int), Cond.methodLink RX4 97 yX4_firstMark, Cond.instanceMethod yX4_firstMark, Cond.selects RX4 yX4_firstMark yX4_firstMark, Cond.code yX4_firstMark cX4_firstMark 5 (some .int), Cond.methodLink RX4 57 yX4_isSection, Cond.static yX4_isSection, Cond.code yX4_isSection cX4_isSection 1 (some .boolean), Cond.methodLink RX4 119 yX4_isShared, Cond.instanceMethod yX4_isShared, Cond.selects RX4 yX4_isShared yX4_isShared, Cond.code yX4_isShared cX4_isShared 6 (some .boolean), Cond.methodLink RX4 110 yX4_chapterOf, Cond.instanceMethod yX4_chapterOf, Cond.selects RX4 yX4_chapterOf yX4_chapterOf, Cond.code yX4_chapterOf cX4_chapterOf 4 (some .int)]
def wsX4_page : List Cond := .code yX4_page cX4_page 3 (some .int) :: ((wsX4_page_r1 ++ (wsX4_page_r2 ++ wsX4_page_r3)) ++ wsX40)
def wsX4_mark_r1 : List Cond := [Cond.methodLink RX4 107 yX4_layPages, Cond.instanceMethod yX4_layPages, Cond.selects RX4 yX4_layPages yX4_layPages, Cond.initialized RX4, Cond.code yX4_layPages cX4_layPages 2 none, Cond.fieldLink RX4 76 "HeadMarksModel" "pages" "I", Cond.fieldLink RX4 35 "HeadMarksModel" "linesOn" "[I", Cond.fieldLink RX4 7 "HeadMarksModel" "state" "[I", Cond.fieldLink RX4 23 "HeadMarksModel" "pageOf" "[I", Cond.fieldLink RX4 26 "HeadMarksModel" "placeOf" "[I", Cond.fieldLink RX4 32 "HeadMarksModel" "firstOn" "[I", Cond.methodLink RX4 45 yX4_many, Cond.instanceMethod yX4_many, Cond.selects RX4 yX4_many yX4_many, Cond.code yX4_many cX4_many 1 (some .int), Cond.methodLink RX4 79 yX4_beginPage, Cond.instanceMethod yX4_beginPage, Cond.selects RX4 yX4_beginPage yX4_beginPage, Cond.code yX4_beginPage cX4_beginPage 1 none, Cond.methodLink RX4 82 yX4_isNew, Cond.instanceMethod yX4_isNew, Cond.selects RX4 yX4_isNew yX4_isNew, Cond.code yX4_isNew cX4_isNew 4 (some .boolean), Cond.methodLink RX4 53 yX4_isChapter]
def wsX4_mark_r2 : List Cond := [Cond.static yX4_isChapter, Cond.code yX4_isChapter cX4_isChapter 1 (some .boolean), Cond.methodLink RX4 41 yX4_in, Cond.static yX4_in, Cond.code yX4_in cX4_in 3 (some .boolean), Cond.methodLink RX4 86 yX4_layForce, Cond.instanceMethod yX4_layForce, Cond.selects RX4 yX4_layForce yX4_layForce, Cond.code yX4_layForce cX4_layForce 4 none, Cond.fieldLink RX4 29 "HeadMarksModel" "force" "[I", Cond.methodLink RX4 113 yX4_isPage, Cond.instanceMethod yX4_isPage, Cond.selects RX4 yX4_isPage yX4_isPage, Cond.code yX4_isPage cX4_isPage 2 (some .boolean), Cond.methodLink RX4 100 yX4_markOf, Cond.instanceMethod yX4_markOf, Cond.selects RX4 yX4_markOf yX4_markOf, Cond.code yX4_markOf cX4_markOf 6 (some .int), Cond.methodLink RX4 90 yX4_lineAhead, Cond.instanceMethod yX4_lineAhead, Cond.selects RX4 yX4_lineAhead yX4_lineAhead, Cond.code yX4_lineAhead cX4_lineAhead 4 (some .int), Cond.methodLink RX4 93 yX4_breakMark, Cond.instanceMethod yX4_breakMark]
def wsX4_mark_r3 : List Cond := [Cond.selects RX4 yX4_breakMark yX4_breakMark, Cond.code yX4_breakMark cX4_breakMark 3 (some .int), Cond.methodLink RX4 97 yX4_firstMark, Cond.instanceMethod yX4_firstMark, Cond.selects RX4 yX4_firstMark yX4_firstMark, Cond.code yX4_firstMark cX4_firstMark 5 (some .int), Cond.methodLink RX4 57 yX4_isSection, Cond.static yX4_isSection, Cond.code yX4_isSection cX4_isSection 1 (some .boolean)]
def wsX4_mark : List Cond := .code yX4_mark cX4_mark 4 (some .int) :: ((wsX4_mark_r1 ++ (wsX4_mark_r2 ++ wsX4_mark_r3)) ++ wsX40)
def wsX4_headed_r1 : List Cond := [Cond.fieldLink RX4 76 "HeadMarksModel" "pages" "I", Cond.methodLink RX4 53 yX4_isChapter, Cond.static yX4_isChapter, Cond.initialized RX4, Cond.code yX4_isChapter cX4_isChapter 1 (some .boolean), Cond.methodLink RX4 41 yX4_in, Cond.static yX4_in, Cond.code yX4_in cX4_in 3 (some .boolean), Cond.methodLink RX4 57 yX4_isSection, Cond.static yX4_isSection, Cond.code yX4_isSection cX4_isSection 1 (some .boolean), Cond.methodLink RX4 107 yX4_layPages, Cond.instanceMethod yX4_layPages, Cond.selects RX4 yX4_layPages yX4_layPages, Cond.code yX4_layPages cX4_layPages 2 none, Cond.fieldLink RX4 35 "HeadMarksModel" "linesOn" "[I", Cond.fieldLink RX4 7 "HeadMarksModel" "state" "[I", Cond.fieldLink RX4 23 "HeadMarksModel" "pageOf" "[I", Cond.fieldLink RX4 26 "HeadMarksModel" "placeOf" "[I", Cond.fieldLink RX4 32 "HeadMarksModel" "firstOn" "[I", Cond.methodLink RX4 45 yX4_many, Cond.instanceMethod yX4_many, Cond.selects RX4 yX4_many yX4_many, Cond.code yX4_many cX4_many 1 (some .int)]
def wsX4_headed_r2 : List Cond := [Cond.methodLink RX4 79 yX4_beginPage, Cond.instanceMethod yX4_beginPage, Cond.selects RX4 yX4_beginPage yX4_beginPage, Cond.code yX4_beginPage cX4_beginPage 1 none, Cond.methodLink RX4 82 yX4_isNew, Cond.instanceMethod yX4_isNew, Cond.selects RX4 yX4_isNew yX4_isNew, Cond.code yX4_isNew cX4_isNew 4 (some .boolean), Cond.methodLink RX4 86 yX4_layForce, Cond.instanceMethod yX4_layForce, Cond.selects RX4 yX4_layForce yX4_layForce, Cond.code yX4_layForce cX4_layForce 4 none, Cond.fieldLink RX4 29 "HeadMarksModel" "force" "[I", Cond.methodLink RX4 116 yX4_headOf, Cond.instanceMethod yX4_headOf, Cond.selects RX4 yX4_headOf yX4_headOf, Cond.code yX4_headOf cX4_headOf 3 (some .int), Cond.methodLink RX4 100 yX4_markOf, Cond.instanceMethod yX4_markOf, Cond.selects RX4 yX4_markOf yX4_markOf, Cond.code yX4_markOf cX4_markOf 6 (some .int), Cond.methodLink RX4 90 yX4_lineAhead, Cond.instanceMethod yX4_lineAhead, Cond.selects RX4 yX4_lineAhead yX4_lineAhead]
def wsX4_headed_r3 : List Cond := [Cond.code yX4_lineAhead cX4_lineAhead 4 (some .int), Cond.methodLink RX4 93 yX4_breakMark, Cond.instanceMethod yX4_breakMark, Cond.selects RX4 yX4_breakMark yX4_breakMark, Cond.code yX4_breakMark cX4_breakMark 3 (some .int), Cond.methodLink RX4 97 yX4_firstMark, Cond.instanceMethod yX4_firstMark, Cond.selects RX4 yX4_firstMark yX4_firstMark, Cond.code yX4_firstMark cX4_firstMark 5 (some .int)]
def wsX4_headed : List Cond := .code yX4_headed cX4_headed 5 (some .int) :: ((wsX4_headed_r1 ++ (wsX4_headed_r2 ++ wsX4_headed_r3)) ++ wsX40)
def wsX4_chapters : List Cond := .code yX4_chapters cX4_chapters 1 (some .int) :: ([.methodLink RX4 45 yX4_many, .instanceMethod yX4_many, .selects RX4 yX4_many yX4_many, .initialized RX4, .code yX4_many cX4_many 1 (some .int), .fieldLink RX4 7 "HeadMarksModel" "state" "[I", .methodLink RX4 110 yX4_chapterOf, .instanceMethod yX4_chapterOf, .selects RX4 yX4_chapterOf yX4_chapterOf, .code yX4_chapterOf cX4_chapterOf 4 (some .int), .methodLink RX4 53 yX4_isChapter, .static yX4_isChapter, .code yX4_isChapter cX4_isChapter 1 (some .boolean), .methodLink RX4 41 yX4_in, .static yX4_in, .code yX4_in cX4_in 3 (some .boolean)] ++ wsX40)
def wsX4_titleLine : List Cond := .code yX4_titleLine cX4_titleLine 4 (some .int) :: ([.methodLink RX4 45 yX4_many, .instanceMethod yX4_many, .selects RX4 yX4_many yX4_many, .initialized RX4, .code yX4_many cX4_many 1 (some .int), .fieldLink RX4 7 "HeadMarksModel" "state" "[I", .methodLink RX4 110 yX4_chapterOf, .instanceMethod yX4_chapterOf, .selects RX4 yX4_chapterOf yX4_chapterOf, .code yX4_chapterOf cX4_chapterOf 4 (some .int), .methodLink RX4 53 yX4_isChapter, .static yX4_isChapter, .code yX4_isChapter cX4_isChapter 1 (some .boolean), .methodLink RX4 41 yX4_in, .static yX4_in, .code yX4_in cX4_in 3 (some .boolean)] ++ wsX40)
def wsX4_linesOf : List Cond := .code yX4_linesOf cX4_linesOf 5 (some .int) :: ([.fieldLink RX4 7 "HeadMarksModel" "state" "[I", .methodLink RX4 45 yX4_many, .instanceMethod yX4_many, .selects RX4 yX4_many yX4_many, .initialized RX4, .code yX4_many cX4_many 1 (some .int), .methodLink RX4 110 yX4_chapterOf, .instanceMethod yX4_chapterOf, .selects RX4 yX4_chapterOf yX4_chapterOf, .code yX4_chapterOf cX4_chapterOf 4 (some .int), .methodLink RX4 53 yX4_isChapter, .static yX4_isChapter, .code yX4_isChapter cX4_isChapter 1 (some .boolean), .methodLink RX4 41 yX4_in, .static yX4_in, .code yX4_in cX4_in 3 (some .boolean), .methodLink RX4 57 yX4_isSection, .static yX4_isSection, .code yX4_isSection cX4_isSection 1 (some .boolean)] ++ wsX40)
def wsX4_chapter_r1 : List Cond := [Cond.fieldLink RX4 7 "HeadMarksModel" "state" "[I", Cond.fieldLink RX4 23 "HeadMarksModel" "pageOf" "[I", Cond.methodLink RX4 41 yX4_in, Cond.static yX4_in, Cond.initialized RX4, Cond.code yX4_in cX4_in 3 (some .boolean), Cond.methodLink RX4 122 yX4_chapters, Cond.instanceMethod yX4_chapters, Cond.selects RX4 yX4_chapters yX4_chapters, Cond.code yX4_chapters cX4_chapters 1 (some .int), Cond.methodLink RX4 45 yX4_many, Cond.instanceMethod yX4_many, Cond.selects RX4 yX4_many yX4_many, Cond.code yX4_many cX4_many 1 (some .int), Cond.methodLink RX4 110 yX4_chapterOf, Cond.instanceMethod yX4_chapterOf, Cond.selects RX4 yX4_chapterOf yX4_chapterOf, Cond.code yX4_chapterOf cX4_chapterOf 4 (some .int), Cond.methodLink RX4 53 yX4_isChapter, Cond.static yX4_isChapter, Cond.code yX4_isChapter cX4_isChapter 1 (some .boolean), Cond.methodLink RX4 107 yX4_layPages, Cond.instanceMethod yX4_layPages, Cond.selects RX4 yX4_layPages yX4_layPages]
def wsX4_chapter_r2 : List Cond := [Cond.code yX4_layPages cX4_layPages 2 none, Cond.fieldLink RX4 76 "HeadMarksModel" "pages" "I", Cond.fieldLink RX4 35 "HeadMarksModel" "linesOn" "[I", Cond.fieldLink RX4 26 "HeadMarksModel" "placeOf" "[I", Cond.fieldLink RX4 32 "HeadMarksModel" "firstOn" "[I", Cond.methodLink RX4 79 yX4_beginPage, Cond.instanceMethod yX4_beginPage, Cond.selects RX4 yX4_beginPage yX4_beginPage, Cond.code yX4_beginPage cX4_beginPage 1 none, Cond.methodLink RX4 82 yX4_isNew, Cond.instanceMethod yX4_isNew, Cond.selects RX4 yX4_isNew yX4_isNew, Cond.code yX4_isNew cX4_isNew 4 (some .boolean), Cond.methodLink RX4 86 yX4_layForce, Cond.instanceMethod yX4_layForce, Cond.selects RX4 yX4_layForce yX4_layForce, Cond.code yX4_layForce cX4_layForce 4 none, Cond.fieldLink RX4 29 "HeadMarksModel" "force" "[I", Cond.methodLink RX4 125 yX4_titleLine, Cond.instanceMethod yX4_titleLine, Cond.selects RX4 yX4_titleLine yX4_titleLine, Cond.code yX4_titleLine cX4_titleLine 4 (some .int), Cond.methodLink RX4 128 yX4_linesOf, Cond.instanceMethod yX4_linesOf]
def wsX4_chapter_r3 : List Cond := [Cond.selects RX4 yX4_linesOf yX4_linesOf, Cond.code yX4_linesOf cX4_linesOf 5 (some .int), Cond.methodLink RX4 57 yX4_isSection, Cond.static yX4_isSection, Cond.code yX4_isSection cX4_isSection 1 (some .boolean)]
def wsX4_chapter : List Cond := .code yX4_chapter cX4_chapter 4 (some .int) :: ((wsX4_chapter_r1 ++ (wsX4_chapter_r2 ++ wsX4_chapter_r3)) ++ wsX40)
def wsX4_layHeads_r1 : List Cond := [Cond.fieldLink RX4 38 "HeadMarksModel" "headNow" "[I", Cond.fieldLink RX4 76 "HeadMarksModel" "pages" "I", Cond.methodLink RX4 107 yX4_layPages, Cond.instanceMethod yX4_layPages, Cond.selects RX4 yX4_layPages yX4_layPages, Cond.initialized RX4, Cond.code yX4_layPages cX4_layPages 2 none, Cond.fieldLink RX4 35 "HeadMarksModel" "linesOn" "[I", Cond.fieldLink RX4 7 "HeadMarksModel" "state" "[I", Cond.fieldLink RX4 23 "HeadMarksModel" "pageOf" "[I", Cond.fieldLink RX4 26 "HeadMarksModel" "placeOf" "[I", Cond.fieldLink RX4 32 "HeadMarksModel" "firstOn" "[I", Cond.methodLink RX4 45 yX4_many, Cond.instanceMethod yX4_many, Cond.selects RX4 yX4_many yX4_many, Cond.code yX4_many cX4_many 1 (some .int), Cond.methodLink RX4 79 yX4_beginPage, Cond.instanceMethod yX4_beginPage, Cond.selects RX4 yX4_beginPage yX4_beginPage, Cond.code yX4_beginPage cX4_beginPage 1 none, Cond.methodLink RX4 82 yX4_isNew, Cond.instanceMethod yX4_isNew, Cond.selects RX4 yX4_isNew yX4_isNew, Cond.code yX4_isNew cX4_isNew 4 (some .boolean)]
def wsX4_layHeads_r2 : List Cond := [Cond.methodLink RX4 53 yX4_isChapter, Cond.static yX4_isChapter, Cond.code yX4_isChapter cX4_isChapter 1 (some .boolean), Cond.methodLink RX4 41 yX4_in, Cond.static yX4_in, Cond.code yX4_in cX4_in 3 (some .boolean), Cond.methodLink RX4 86 yX4_layForce, Cond.instanceMethod yX4_layForce, Cond.selects RX4 yX4_layForce yX4_layForce, Cond.code yX4_layForce cX4_layForce 4 none, Cond.fieldLink RX4 29 "HeadMarksModel" "force" "[I", Cond.methodLink RX4 116 yX4_headOf, Cond.instanceMethod yX4_headOf, Cond.selects RX4 yX4_headOf yX4_headOf, Cond.code yX4_headOf cX4_headOf 3 (some .int), Cond.methodLink RX4 100 yX4_markOf, Cond.instanceMethod yX4_markOf, Cond.selects RX4 yX4_markOf yX4_markOf, Cond.code yX4_markOf cX4_markOf 6 (some .int), Cond.methodLink RX4 90 yX4_lineAhead, Cond.instanceMethod yX4_lineAhead, Cond.selects RX4 yX4_lineAhead yX4_lineAhead, Cond.code yX4_lineAhead cX4_lineAhead 4 (some .int), Cond.methodLink RX4 93 yX4_breakMark]
def wsX4_layHeads_r3 : List Cond := [Cond.instanceMethod yX4_breakMark, Cond.selects RX4 yX4_breakMark yX4_breakMark, Cond.code yX4_breakMark cX4_breakMark 3 (some .int), Cond.methodLink RX4 97 yX4_firstMark, Cond.instanceMethod yX4_firstMark, Cond.selects RX4 yX4_firstMark yX4_firstMark, Cond.code yX4_firstMark cX4_firstMark 5 (some .int), Cond.methodLink RX4 57 yX4_isSection, Cond.static yX4_isSection, Cond.code yX4_isSection cX4_isSection 1 (some .boolean)]
def wsX4_layHeads : List Cond := .code yX4_layHeads cX4_layHeads 2 none :: ((wsX4_layHeads_r1 ++ (wsX4_layHeads_r2 ++ wsX4_layHeads_r3)) ++ wsX40)
def wsX4_changedBy_r1 : List Cond := [Cond.fieldLink RX4 7 "HeadMarksModel" "state" "[I", Cond.fieldLink RX4 38 "HeadMarksModel" "headNow" "[I", Cond.fieldLink RX4 76 "HeadMarksModel" "pages" "I", Cond.methodLink RX4 107 yX4_layPages, Cond.instanceMethod yX4_layPages, Cond.selects RX4 yX4_layPages yX4_layPages, Cond.initialized RX4, Cond.code yX4_layPages cX4_layPages 2 none, Cond.fieldLink RX4 35 "HeadMarksModel" "linesOn" "[I", Cond.fieldLink RX4 23 "HeadMarksModel" "pageOf" "[I", Cond.fieldLink RX4 26 "HeadMarksModel" "placeOf" "[I", Cond.fieldLink RX4 32 "HeadMarksModel" "firstOn" "[I", Cond.methodLink RX4 45 yX4_many, Cond.instanceMethod yX4_many, Cond.selects RX4 yX4_many yX4_many, Cond.code yX4_many cX4_many 1 (some .int), Cond.methodLink RX4 79 yX4_beginPage, Cond.instanceMethod yX4_beginPage, Cond.selects RX4 yX4_beginPage yX4_beginPage, Cond.code yX4_beginPage cX4_beginPage 1 none, Cond.methodLink RX4 82 yX4_isNew, Cond.instanceMethod yX4_isNew, Cond.selects RX4 yX4_isNew yX4_isNew, Cond.code yX4_isNew cX4_isNew 4 (some .boolean)]
def wsX4_changedBy_r2 : List Cond := [Cond.methodLink RX4 53 yX4_isChapter, Cond.static yX4_isChapter, Cond.code yX4_isChapter cX4_isChapter 1 (some .boolean), Cond.methodLink RX4 41 yX4_in, Cond.static yX4_in, Cond.code yX4_in cX4_in 3 (some .boolean), Cond.methodLink RX4 86 yX4_layForce, Cond.instanceMethod yX4_layForce, Cond.selects RX4 yX4_layForce yX4_layForce, Cond.code yX4_layForce cX4_layForce 4 none, Cond.fieldLink RX4 29 "HeadMarksModel" "force" "[I", Cond.methodLink RX4 116 yX4_headOf, Cond.instanceMethod yX4_headOf, Cond.selects RX4 yX4_headOf yX4_headOf, Cond.code yX4_headOf cX4_headOf 3 (some .int), Cond.methodLink RX4 100 yX4_markOf, Cond.instanceMethod yX4_markOf, Cond.selects RX4 yX4_markOf yX4_markOf, Cond.code yX4_markOf cX4_markOf 6 (some .int), Cond.methodLink RX4 90 yX4_lineAhead, Cond.instanceMethod yX4_lineAhead, Cond.selects RX4 yX4_lineAhead yX4_lineAhead, Cond.code yX4_lineAhead cX4_lineAhead 4 (some .int), Cond.methodLink RX4 93 yX4_breakMark]
def wsX4_changedBy_r3 : List Cond := [Cond.instanceMethod yX4_breakMark, Cond.selects RX4 yX4_breakMark yX4_breakMark, Cond.code yX4_breakMark cX4_breakMark 3 (some .int), Cond.methodLink RX4 97 yX4_firstMark, Cond.instanceMethod yX4_firstMark, Cond.selects RX4 yX4_firstMark yX4_firstMark, Cond.code yX4_firstMark cX4_firstMark 5 (some .int), Cond.methodLink RX4 57 yX4_isSection, Cond.static yX4_isSection, Cond.code yX4_isSection cX4_isSection 1 (some .boolean)]
def wsX4_changedBy : List Cond := .code yX4_changedBy cX4_changedBy 4 (some .int) :: ((wsX4_changedBy_r1 ++ (wsX4_changedBy_r2 ++ wsX4_changedBy_r3)) ++ wsX40)
def wsX4_changed_r1 : List Cond := [Cond.methodLink RX4 45 yX4_many, Cond.instanceMethod yX4_many, Cond.selects RX4 yX4_many yX4_many, Cond.initialized RX4, Cond.code yX4_many cX4_many 1 (some .int), Cond.fieldLink RX4 7 "HeadMarksModel" "state" "[I", Cond.methodLink RX4 41 yX4_in, Cond.static yX4_in, Cond.code yX4_in cX4_in 3 (some .boolean), Cond.methodLink RX4 132 yX4_layHeads, Cond.instanceMethod yX4_layHeads, Cond.selects RX4 yX4_layHeads yX4_layHeads, Cond.code yX4_layHeads cX4_layHeads 2 none, Cond.fieldLink RX4 38 "HeadMarksModel" "headNow" "[I", Cond.fieldLink RX4 76 "HeadMarksModel" "pages" "I", Cond.methodLink RX4 107 yX4_layPages, Cond.instanceMethod yX4_layPages, Cond.selects RX4 yX4_layPages yX4_layPages, Cond.code yX4_layPages cX4_layPages 2 none, Cond.fieldLink RX4 35 "HeadMarksModel" "linesOn" "[I", Cond.fieldLink RX4 23 "HeadMarksModel" "pageOf" "[I", Cond.fieldLink RX4 26 "HeadMarksModel" "placeOf" "[I", Cond.fieldLink RX4 32 "HeadMarksModel" "firstOn" "[I", Cond.methodLink RX4 79 yX4_beginPage]
def wsX4_changed_r2 : List Cond := [Cond.instanceMethod yX4_beginPage, Cond.selects RX4 yX4_beginPage yX4_beginPage, Cond.code yX4_beginPage cX4_beginPage 1 none, Cond.methodLink RX4 82 yX4_isNew, Cond.instanceMethod yX4_isNew, Cond.selects RX4 yX4_isNew yX4_isNew, Cond.code yX4_isNew cX4_isNew 4 (some .boolean), Cond.methodLink RX4 53 yX4_isChapter, Cond.static yX4_isChapter, Cond.code yX4_isChapter cX4_isChapter 1 (some .boolean), Cond.methodLink RX4 86 yX4_layForce, Cond.instanceMethod yX4_layForce, Cond.selects RX4 yX4_layForce yX4_layForce, Cond.code yX4_layForce cX4_layForce 4 none, Cond.fieldLink RX4 29 "HeadMarksModel" "force" "[I", Cond.methodLink RX4 116 yX4_headOf, Cond.instanceMethod yX4_headOf, Cond.selects RX4 yX4_headOf yX4_headOf, Cond.code yX4_headOf cX4_headOf 3 (some .int), Cond.methodLink RX4 100 yX4_markOf, Cond.instanceMethod yX4_markOf, Cond.selects RX4 yX4_markOf yX4_markOf, Cond.code yX4_markOf cX4_markOf 6 (some .int), Cond.methodLink RX4 90 yX4_lineAhead]
def wsX4_changed_r3 : List Cond := [Cond.instanceMethod yX4_lineAhead, Cond.selects RX4 yX4_lineAhead yX4_lineAhead, Cond.code yX4_lineAhead cX4_lineAhead 4 (some .int), Cond.methodLink RX4 93 yX4_breakMark, Cond.instanceMethod yX4_breakMark, Cond.selects RX4 yX4_breakMark yX4_breakMark, Cond.code yX4_breakMark cX4_breakMark 3 (some .int), Cond.methodLink RX4 97 yX4_firstMark, Cond.instanceMethod yX4_firstMark, Cond.selects RX4 yX4_firstMark yX4_firstMark, Cond.code yX4_firstMark cX4_firstMark 5 (some .int), Cond.methodLink RX4 57 yX4_isSection, Cond.static yX4_isSection, Cond.code yX4_isSection cX4_isSection 1 (some .boolean), Cond.methodLink RX4 135 yX4_changedBy, Cond.instanceMethod yX4_changedBy, Cond.selects RX4 yX4_changedBy yX4_changedBy, Cond.code yX4_changedBy cX4_changedBy 4 (some .int)]
def wsX4_changed : List Cond := .code yX4_changed cX4_changed 2 (some .int) :: ((wsX4_changed_r1 ++ (wsX4_changed_r2 ++ wsX4_changed_r3)) ++ wsX40)
def wsX4_worst_r1 : List Cond := [Cond.methodLink RX4 41 yX4_in, Cond.static yX4_in, Cond.initialized RX4, Cond.code yX4_in cX4_in 3 (some .boolean), Cond.methodLink RX4 132 yX4_layHeads, Cond.instanceMethod yX4_layHeads, Cond.selects RX4 yX4_layHeads yX4_layHeads, Cond.code yX4_layHeads cX4_layHeads 2 none, Cond.fieldLink RX4 38 "HeadMarksModel" "headNow" "[I", Cond.fieldLink RX4 76 "HeadMarksModel" "pages" "I", Cond.methodLink RX4 107 yX4_layPages, Cond.instanceMethod yX4_layPages, Cond.selects RX4 yX4_layPages yX4_layPages, Cond.code yX4_layPages cX4_layPages 2 none, Cond.fieldLink RX4 35 "HeadMarksModel" "linesOn" "[I", Cond.fieldLink RX4 7 "HeadMarksModel" "state" "[I", Cond.fieldLink RX4 23 "HeadMarksModel" "pageOf" "[I", Cond.fieldLink RX4 26 "HeadMarksModel" "placeOf" "[I", Cond.fieldLink RX4 32 "HeadMarksModel" "firstOn" "[I", Cond.methodLink RX4 45 yX4_many, Cond.instanceMethod yX4_many, Cond.selects RX4 yX4_many yX4_many, Cond.code yX4_many cX4_many 1 (some .int), Cond.methodLink RX4 79 yX4_beginPage]
def wsX4_worst_r2 : List Cond := [Cond.instanceMethod yX4_beginPage, Cond.selects RX4 yX4_beginPage yX4_beginPage, Cond.code yX4_beginPage cX4_beginPage 1 none, Cond.methodLink RX4 82 yX4_isNew, Cond.instanceMethod yX4_isNew, Cond.selects RX4 yX4_isNew yX4_isNew, Cond.code yX4_isNew cX4_isNew 4 (some .boolean), Cond.methodLink RX4 53 yX4_isChapter, Cond.static yX4_isChapter, Cond.code yX4_isChapter cX4_isChapter 1 (some .boolean), Cond.methodLink RX4 86 yX4_layForce, Cond.instanceMethod yX4_layForce, Cond.selects RX4 yX4_layForce yX4_layForce, Cond.code yX4_layForce cX4_layForce 4 none, Cond.fieldLink RX4 29 "HeadMarksModel" "force" "[I", Cond.methodLink RX4 116 yX4_headOf, Cond.instanceMethod yX4_headOf, Cond.selects RX4 yX4_headOf yX4_headOf, Cond.code yX4_headOf cX4_headOf 3 (some .int), Cond.methodLink RX4 100 yX4_markOf, Cond.instanceMethod yX4_markOf, Cond.selects RX4 yX4_markOf yX4_markOf, Cond.code yX4_markOf cX4_markOf 6 (some .int), Cond.methodLink RX4 90 yX4_lineAhead]
def wsX4_worst_r3 : List Cond := [Cond.instanceMethod yX4_lineAhead, Cond.selects RX4 yX4_lineAhead yX4_lineAhead, Cond.code yX4_lineAhead cX4_lineAhead 4 (some .int), Cond.methodLink RX4 93 yX4_breakMark, Cond.instanceMethod yX4_breakMark, Cond.selects RX4 yX4_breakMark yX4_breakMark, Cond.code yX4_breakMark cX4_breakMark 3 (some .int), Cond.methodLink RX4 97 yX4_firstMark, Cond.instanceMethod yX4_firstMark, Cond.selects RX4 yX4_firstMark yX4_firstMark, Cond.code yX4_firstMark cX4_firstMark 5 (some .int), Cond.methodLink RX4 57 yX4_isSection, Cond.static yX4_isSection, Cond.code yX4_isSection cX4_isSection 1 (some .boolean), Cond.methodLink RX4 135 yX4_changedBy, Cond.instanceMethod yX4_changedBy, Cond.selects RX4 yX4_changedBy yX4_changedBy, Cond.code yX4_changedBy cX4_changedBy 4 (some .int)]
def wsX4_worst : List Cond := .code yX4_worst cX4_worst 6 (some .int) :: ((wsX4_worst_r1 ++ (wsX4_worst_r2 ++ wsX4_worst_r3)) ++ wsX40)
def wsX4_fit_r1 : List Cond := [Cond.fieldLink RX4 7 "HeadMarksModel" "state" "[I", Cond.fieldLink RX4 76 "HeadMarksModel" "pages" "I", Cond.methodLink RX4 41 yX4_in, Cond.static yX4_in, Cond.initialized RX4, Cond.code yX4_in cX4_in 3 (some .boolean), Cond.methodLink RX4 107 yX4_layPages, Cond.instanceMethod yX4_layPages, Cond.selects RX4 yX4_layPages yX4_layPages, Cond.code yX4_layPages cX4_layPages 2 none, Cond.fieldLink RX4 35 "HeadMarksModel" "linesOn" "[I", Cond.fieldLink RX4 23 "HeadMarksModel" "pageOf" "[I", Cond.fieldLink RX4 26 "HeadMarksModel" "placeOf" "[I", Cond.fieldLink RX4 32 "HeadMarksModel" "firstOn" "[I", Cond.methodLink RX4 45 yX4_many, Cond.instanceMethod yX4_many, Cond.selects RX4 yX4_many yX4_many, Cond.code yX4_many cX4_many 1 (some .int), Cond.methodLink RX4 79 yX4_beginPage, Cond.instanceMethod yX4_beginPage, Cond.selects RX4 yX4_beginPage yX4_beginPage, Cond.code yX4_beginPage cX4_beginPage 1 none, Cond.methodLink RX4 82 yX4_isNew, Cond.instanceMethod yX4_isNew]
def wsX4_fit_r2 : List Cond := [Cond.selects RX4 yX4_isNew yX4_isNew, Cond.code yX4_isNew cX4_isNew 4 (some .boolean), Cond.methodLink RX4 53 yX4_isChapter, Cond.static yX4_isChapter, Cond.code yX4_isChapter cX4_isChapter 1 (some .boolean), Cond.methodLink RX4 86 yX4_layForce, Cond.instanceMethod yX4_layForce, Cond.selects RX4 yX4_layForce yX4_layForce, Cond.code yX4_layForce cX4_layForce 4 none, Cond.fieldLink RX4 29 "HeadMarksModel" "force" "[I"]
def wsX4_fit : List Cond := .code yX4_fit cX4_fit 5 (some .int) :: ((wsX4_fit_r1 ++ wsX4_fit_r2) ++ wsX40)
def wsX4_image : List Cond := .code yX4_image cX4_image 3 (some .int) :: ([.fieldLink RX4 13 "HeadMarksModel" "images" "[I", .fieldLink RX4 7 "HeadMarksModel" "state" "[I", .fieldLink RX4 16 "HeadMarksModel" "isKept" "[Z", .methodLink RX4 41 yX4_in, .static yX4_in, .initialized RX4, .code yX4_in cX4_in 3 (some .boolean)] ++ wsX40)
def wsX4_restore : List Cond := .code yX4_restore cX4_restore 3 (some .int) :: ([.fieldLink RX4 16 "HeadMarksModel" "isKept" "[Z", .fieldLink RX4 7 "HeadMarksModel" "state" "[I", .fieldLink RX4 13 "HeadMarksModel" "images" "[I", .methodLink RX4 41 yX4_in, .static yX4_in, .initialized RX4, .code yX4_in cX4_in 3 (some .boolean)] ++ wsX40)
def wsX4_pagesThat_r1 : List Cond := [Cond.fieldLink RX4 76 "HeadMarksModel" "pages" "I", Cond.fieldLink RX4 35 "HeadMarksModel" "linesOn" "[I", Cond.methodLink RX4 119 yX4_isShared, Cond.instanceMethod yX4_isShared, Cond.selects RX4 yX4_isShared yX4_isShared, Cond.initialized RX4, Cond.code yX4_isShared cX4_isShared 6 (some .boolean), Cond.fieldLink RX4 32 "HeadMarksModel" "firstOn" "[I", Cond.methodLink RX4 110 yX4_chapterOf, Cond.instanceMethod yX4_chapterOf, Cond.selects RX4 yX4_chapterOf yX4_chapterOf, Cond.code yX4_chapterOf cX4_chapterOf 4 (some .int), Cond.fieldLink RX4 7 "HeadMarksModel" "state" "[I", Cond.methodLink RX4 53 yX4_isChapter, Cond.static yX4_isChapter, Cond.code yX4_isChapter cX4_isChapter 1 (some .boolean), Cond.methodLink RX4 41 yX4_in, Cond.static yX4_in, Cond.code yX4_in cX4_in 3 (some .boolean), Cond.methodLink RX4 116 yX4_headOf, Cond.instanceMethod yX4_headOf, Cond.selects RX4 yX4_headOf yX4_headOf, Cond.code yX4_headOf cX4_headOf 3 (some .int), Cond.methodLink RX4 100 yX4_markOf]
def wsX4_pagesThat_r2 : List Cond := [Cond.instanceMethod yX4_markOf, Cond.selects RX4 yX4_markOf yX4_markOf, Cond.code yX4_markOf cX4_markOf 6 (some .int), Cond.methodLink RX4 90 yX4_lineAhead, Cond.instanceMethod yX4_lineAhead, Cond.selects RX4 yX4_lineAhead yX4_lineAhead, Cond.code yX4_lineAhead cX4_lineAhead 4 (some .int), Cond.fieldLink RX4 23 "HeadMarksModel" "pageOf" "[I", Cond.methodLink RX4 45 yX4_many, Cond.instanceMethod yX4_many, Cond.selects RX4 yX4_many yX4_many, Cond.code yX4_many cX4_many 1 (some .int), Cond.methodLink RX4 93 yX4_breakMark, Cond.instanceMethod yX4_breakMark, Cond.selects RX4 yX4_breakMark yX4_breakMark, Cond.code yX4_breakMark cX4_breakMark 3 (some .int), Cond.fieldLink RX4 29 "HeadMarksModel" "force" "[I", Cond.methodLink RX4 97 yX4_firstMark, Cond.instanceMethod yX4_firstMark, Cond.selects RX4 yX4_firstMark yX4_firstMark, Cond.code yX4_firstMark cX4_firstMark 5 (some .int), Cond.methodLink RX4 57 yX4_isSection, Cond.static yX4_isSection, Cond.code yX4_isSection cX4_isSection 1 (some .boolean)]
def wsX4_pagesThat : List Cond := .code yX4_pagesThat cX4_pagesThat 5 (some .int) :: ((wsX4_pagesThat_r1 ++ wsX4_pagesThat_r2) ++ wsX40)
def wsX4_count_r1 : List Cond := [Cond.fieldLink RX4 7 "HeadMarksModel" "state" "[I", Cond.fieldLink RX4 76 "HeadMarksModel" "pages" "I", Cond.fieldLink RX4 49 "HeadMarksModel" "said" "I", Cond.fieldLink RX4 16 "HeadMarksModel" "isKept" "[Z", Cond.methodLink RX4 41 yX4_in, Cond.static yX4_in, Cond.initialized RX4, Cond.code yX4_in cX4_in 3 (some .boolean), Cond.methodLink RX4 107 yX4_layPages, Cond.instanceMethod yX4_layPages, Cond.selects RX4 yX4_layPages yX4_layPages, Cond.code yX4_layPages cX4_layPages 2 none, Cond.fieldLink RX4 35 "HeadMarksModel" "linesOn" "[I", Cond.fieldLink RX4 23 "HeadMarksModel" "pageOf" "[I", Cond.fieldLink RX4 26 "HeadMarksModel" "placeOf" "[I", Cond.fieldLink RX4 32 "HeadMarksModel" "firstOn" "[I", Cond.methodLink RX4 45 yX4_many, Cond.instanceMethod yX4_many, Cond.selects RX4 yX4_many yX4_many, Cond.code yX4_many cX4_many 1 (some .int), Cond.methodLink RX4 79 yX4_beginPage, Cond.instanceMethod yX4_beginPage, Cond.selects RX4 yX4_beginPage yX4_beginPage, Cond.code yX4_beginPage cX4_beginPage 1 none]
def wsX4_count_r2 : List Cond := [Cond.methodLink RX4 82 yX4_isNew, Cond.instanceMethod yX4_isNew, Cond.selects RX4 yX4_isNew yX4_isNew, Cond.code yX4_isNew cX4_isNew 4 (some .boolean), Cond.methodLink RX4 53 yX4_isChapter, Cond.static yX4_isChapter, Cond.code yX4_isChapter cX4_isChapter 1 (some .boolean), Cond.methodLink RX4 86 yX4_layForce, Cond.instanceMethod yX4_layForce, Cond.selects RX4 yX4_layForce yX4_layForce, Cond.code yX4_layForce cX4_layForce 4 none, Cond.fieldLink RX4 29 "HeadMarksModel" "force" "[I", Cond.methodLink RX4 138 yX4_pagesThat, Cond.instanceMethod yX4_pagesThat, Cond.selects RX4 yX4_pagesThat yX4_pagesThat, Cond.code yX4_pagesThat cX4_pagesThat 5 (some .int), Cond.methodLink RX4 119 yX4_isShared, Cond.instanceMethod yX4_isShared, Cond.selects RX4 yX4_isShared yX4_isShared, Cond.code yX4_isShared cX4_isShared 6 (some .boolean), Cond.methodLink RX4 110 yX4_chapterOf, Cond.instanceMethod yX4_chapterOf, Cond.selects RX4 yX4_chapterOf yX4_chapterOf, Cond.code yX4_chapterOf cX4_chapterOf 4 (some .int)]
def wsX4_count_r3 : List Cond := [Cond.methodLink RX4 116 yX4_headOf, Cond.instanceMethod yX4_headOf, Cond.selects RX4 yX4_headOf yX4_headOf, Cond.code yX4_headOf cX4_headOf 3 (some .int), Cond.methodLink RX4 100 yX4_markOf, Cond.instanceMethod yX4_markOf, Cond.selects RX4 yX4_markOf yX4_markOf, Cond.code yX4_markOf cX4_markOf 6 (some .int), Cond.methodLink RX4 90 yX4_lineAhead, Cond.instanceMethod yX4_lineAhead, Cond.selects RX4 yX4_lineAhead yX4_lineAhead, Cond.code yX4_lineAhead cX4_lineAhead 4 (some .int), Cond.methodLink RX4 93 yX4_breakMark, Cond.instanceMethod yX4_breakMark, Cond.selects RX4 yX4_breakMark yX4_breakMark, Cond.code yX4_breakMark cX4_breakMark 3 (some .int), Cond.methodLink RX4 97 yX4_firstMark, Cond.instanceMethod yX4_firstMark, Cond.selects RX4 yX4_firstMark yX4_firstMark, Cond.code yX4_firstMark cX4_firstMark 5 (some .int), Cond.methodLink RX4 57 yX4_isSection, Cond.static yX4_isSection, Cond.code yX4_isSection cX4_isSection 1 (some .boolean), Cond.methodLink RX4 73 yX4_breaks]
def wsX4_count_r4 : List Cond := [Cond.instanceMethod yX4_breaks, Cond.selects RX4 yX4_breaks yX4_breaks, Cond.code yX4_breaks cX4_breaks 3 (some .int), Cond.methodLink RX4 122 yX4_chapters, Cond.instanceMethod yX4_chapters, Cond.selects RX4 yX4_chapters yX4_chapters, Cond.code yX4_chapters cX4_chapters 1 (some .int)]
def wsX4_count : List Cond := .code yX4_count cX4_count 2 (some .int) :: ((wsX4_count_r1 ++ (wsX4_count_r2 ++ (wsX4_count_r3 ++ wsX4_count_r4))) ++ wsX40)
def wsJ9_max_7cf53 : List Cond := .code yJ9_max_7cf53 cJ9_max_7cf53 2 (some .int) :: ([])
def wsL_law_r1 : List Cond := [Cond.classLink RL 7 RX3, Cond.instantiable RX3 6, Cond.initialized RX3, Cond.classLink RL 10 RX4, Cond.instantiable RX4 12, Cond.initialized RX4, Cond.methodLink RL 9 yX3_init, Cond.instanceMethod yX3_init, Cond.code yX3_init cX3_init 2 none, Cond.methodLink RX3 3 objectInit, Cond.instanceMethod objectInit, Cond.code objectInit ⟨#[0xb1]⟩ 1 none, Cond.classLink RX3 9 RX2, Cond.instantiable RX2 2, Cond.initialized RX2, Cond.fieldLink RX3 12 "HeadMarks" "pad" "LHeadMarks$Pad;", Cond.classLink RX3 16 RX0, Cond.instantiable RX0 4, Cond.initialized RX0, Cond.fieldLink RX3 19 "HeadMarks" "book" "LHeadMarks$Book;", Cond.fieldLink RX3 23 "HeadMarks" "images" "[LHeadMarks$Book;", Cond.fieldLink RX3 27 "HeadMarks" "imagesKept" "I", Cond.classLink RX3 31 RX1, Cond.instantiable RX1 9]
def wsL_law_r2 : List Cond := [Cond.initialized RX1, Cond.fieldLink RX3 34 "HeadMarks" "now" "LHeadMarks$Layout;", Cond.fieldLink RX3 38 "HeadMarks" "trial" "LHeadMarks$Layout;", Cond.instanceMethod yX2_init, Cond.code yX2_init cX2_init 1 none, Cond.methodLink RX2 3 objectInit, Cond.arrayClass .int, Cond.fieldLink RX2 9 "HeadMarks$Pad" "signs" "[I", Cond.fieldLink RX2 15 "HeadMarks$Pad" "size" "I", Cond.instanceMethod yX0_init, Cond.code yX0_init cX0_init 1 none, Cond.methodLink RX0 3 objectInit, Cond.fieldLink RX0 9 "HeadMarks$Book" "signs" "[I", Cond.fieldLink RX0 15 "HeadMarks$Book" "broken" "[I", Cond.methodLink RX0 21 ⟨"[I", "clone", "()Ljava/lang/Object;"⟩, Cond.sameMethod "[I" "java/lang/Object" "clone" "()Ljava/lang/Object;", Cond.native ⟨"java/lang/Object", "clone", "()Ljava/lang/Object;"⟩, Cond.instanceMethod ⟨"java/lang/Object", "clone", "()Ljava/lang/Object;"⟩, Cond.selects "[I" ⟨"[I", "clone", "()Ljava/lang/Object;"⟩ ⟨"java/lang/Object", "clone", "()Ljava/lang/Object;"⟩, Cond.classLink RX0 22 "[I", Cond.fieldLink RX0 26 "HeadMarks$Book" "rules" "[I", Cond.fieldLink RX0 29 "HeadMarks$Book" "lines" "I", Cond.instanceMethod yX1_init, Cond.code yX1_init cX1_init 1 none]
def wsL_law_r3 : List Cond := [Cond.methodLink RX1 3 objectInit, Cond.fieldLink RX1 9 "HeadMarks$Layout" "pageOf" "[I", Cond.fieldLink RX1 15 "HeadMarks$Layout" "chapterOf" "[I", Cond.classLink RX1 18 "[[I", Cond.fieldLink RX1 20 "HeadMarks$Layout" "inForce" "[[I", Cond.fieldLink RX1 23 "HeadMarks$Layout" "linesAhead" "[I", Cond.fieldLink RX1 26 "HeadMarks$Layout" "linesOn" "[I", Cond.fieldLink RX1 29 "HeadMarks$Layout" "ownFirst" "[[I", Cond.fieldLink RX1 32 "HeadMarks$Layout" "heads" "[I", Cond.fieldLink RX1 35 "HeadMarks$Layout" "lines" "I", Cond.fieldLink RX1 39 "HeadMarks$Layout" "pages" "I", Cond.methodLink RL 12 yX4_init, Cond.instanceMethod yX4_init, Cond.code yX4_init cX4_init 1 none, Cond.methodLink RX4 1 objectInit, Cond.fieldLink RX4 7 "HeadMarksModel" "state" "[I", Cond.fieldLink RX4 13 "HeadMarksModel" "images" "[I", Cond.arrayClass .boolean, Cond.fieldLink RX4 16 "HeadMarksModel" "isKept" "[Z", Cond.fieldLink RX4 20 "HeadMarksModel" "pad" "[I", Cond.fieldLink RX4 23 "HeadMarksModel" "pageOf" "[I", Cond.fieldLink RX4 26 "HeadMarksModel" "placeOf" "[I", Cond.fieldLink RX4 29 "HeadMarksModel" "force" "[I", Cond.fieldLink RX4 32 "HeadMarksModel" "firstOn" "[I"]
def wsL_law_r4 : List Cond := [Cond.fieldLink RX4 35 "HeadMarksModel" "linesOn" "[I", Cond.fieldLink RX4 38 "HeadMarksModel" "headNow" "[I", Cond.methodLink RL 13 yX3_say, Cond.instanceMethod yX3_say, Cond.selects RX3 yX3_say yX3_say, Cond.code yX3_say cX3_say 2 (some .int), Cond.fieldLink RX3 41 "HeadMarks$Pad" "size" "I", Cond.methodLink RX3 44 yX2_append, Cond.instanceMethod yX2_append, Cond.selects RX2 yX2_append yX2_append, Cond.code yX2_append cX2_append 2 none, Cond.methodLink RL 17 yX4_say, Cond.instanceMethod yX4_say, Cond.selects RX4 yX4_say yX4_say, Cond.code yX4_say cX4_say 2 (some .int), Cond.fieldLink RX4 49 "HeadMarksModel" "said" "I", Cond.methodLink RX4 41 yX4_in, Cond.static yX4_in, Cond.code yX4_in cX4_in 3 (some .boolean), Cond.methodLink RL 18 yX3_wipe, Cond.instanceMethod yX3_wipe, Cond.selects RX3 yX3_wipe yX3_wipe, Cond.code yX3_wipe cX3_wipe 2 (some .int), Cond.methodLink RL 22 yX4_wipe]
def wsL_law_r5 : List Cond := [Cond.instanceMethod yX4_wipe, Cond.selects RX4 yX4_wipe yX4_wipe, Cond.code yX4_wipe cX4_wipe 2 (some .int), Cond.methodLink RL 23 yX3_fault, Cond.instanceMethod yX3_fault, Cond.selects RX3 yX3_fault yX3_fault, Cond.code yX3_fault cX3_fault 1 (some .int), Cond.methodLink RX3 48 yX2_faultPlace, Cond.instanceMethod yX2_faultPlace, Cond.selects RX2 yX2_faultPlace yX2_faultPlace, Cond.code yX2_faultPlace cX2_faultPlace 5 (some .int), Cond.static yX3_classOf, Cond.code yX3_classOf cX3_classOf 1 (some .int), Cond.methodLink RL 26 yX4_fault, Cond.instanceMethod yX4_fault, Cond.selects RX4 yX4_fault yX4_fault, Cond.code yX4_fault cX4_fault 2 (some .int), Cond.methodLink RX4 60 yX4_canStand, Cond.instanceMethod yX4_canStand, Cond.selects RX4 yX4_canStand yX4_canStand, Cond.code yX4_canStand cX4_canStand 2 (some .boolean), Cond.methodLink RX4 53 yX4_isChapter, Cond.static yX4_isChapter, Cond.code yX4_isChapter cX4_isChapter 1 (some .boolean)]
def wsL_law_r6 : List Cond := [Cond.methodLink RX4 57 yX4_isSection, Cond.static yX4_isSection, Cond.code yX4_isSection cX4_isSection 1 (some .boolean), Cond.methodLink RL 27 yX3_read, Cond.instanceMethod yX3_read, Cond.selects RX3 yX3_read yX3_read, Cond.code yX3_read cX3_read 1 (some .int), Cond.fieldLink RX3 59 "HeadMarks$Book" "lines" "I", Cond.methodLink RX3 52 yX0_takeText, Cond.instanceMethod yX0_takeText, Cond.selects RX0 yX0_takeText yX0_takeText, Cond.code yX0_takeText cX0_takeText 4 none, Cond.fieldLink RX0 33 "HeadMarks$Pad" "size" "I", Cond.fieldLink RX0 38 "HeadMarks$Pad" "signs" "[I", Cond.methodLink RX3 56 yX3_layNow, Cond.instanceMethod yX3_layNow, Cond.selects RX3 yX3_layNow yX3_layNow, Cond.code yX3_layNow cX3_layNow 1 none, Cond.fieldLink RX3 66 "HeadMarks$Book" "rules" "[I", Cond.methodLink RX3 143 yX1_lay, Cond.instanceMethod yX1_lay, Cond.selects RX1 yX1_lay yX1_lay, Cond.code yX1_lay cX1_lay 6 none, Cond.fieldLink RX1 42 "HeadMarks$Book" "lines" "I"]
def wsL_law_r7 : List Cond := [Cond.fieldLink RX1 45 "HeadMarks$Book" "broken" "[I", Cond.methodLink RX1 48 yX1_opensPage, Cond.instanceMethod yX1_opensPage, Cond.selects RX1 yX1_opensPage yX1_opensPage, Cond.code yX1_opensPage cX1_opensPage 6 (some .boolean), Cond.fieldLink RX1 63 "HeadMarks$Book" "signs" "[I", Cond.fieldLink RX1 70 "HeadMarks$Book" "rules" "[I", Cond.methodLink RX1 52 yX1_turnPage, Cond.instanceMethod yX1_turnPage, Cond.selects RX1 yX1_turnPage yX1_turnPage, Cond.code yX1_turnPage cX1_turnPage 4 none, Cond.methodLink RX1 73 yX1_addPage, Cond.instanceMethod yX1_addPage, Cond.selects RX1 yX1_addPage yX1_addPage, Cond.code yX1_addPage cX1_addPage 3 none, Cond.methodLink RX1 77 yX1_isLeft, Cond.static yX1_isLeft, Cond.code yX1_isLeft cX1_isLeft 1 (some .boolean), Cond.methodLink RX1 56 yX1_putLine, Cond.instanceMethod yX1_putLine, Cond.selects RX1 yX1_putLine yX1_putLine, Cond.code yX1_putLine cX1_putLine 4 none, Cond.methodLink RX1 81 yX1_forceBehind, Cond.instanceMethod yX1_forceBehind]
def wsL_law_r8 : List Cond := [Cond.selects RX1 yX1_forceBehind yX1_forceBehind, Cond.code yX1_forceBehind cX1_forceBehind 3 (some .int), Cond.methodLink RX1 85 yX1_putMark, Cond.instanceMethod yX1_putMark, Cond.selects RX1 yX1_putMark yX1_putMark, Cond.code yX1_putMark cX1_putMark 4 none, Cond.methodLink RX1 59 yX1_headOf, Cond.instanceMethod yX1_headOf, Cond.selects RX1 yX1_headOf yX1_headOf, Cond.code yX1_headOf cX1_headOf 5 (some .int), Cond.methodLink RX1 89 yX1_markOf, Cond.instanceMethod yX1_markOf, Cond.selects RX1 yX1_markOf yX1_markOf, Cond.code yX1_markOf cX1_markOf 4 (some .int), Cond.methodLink RL 30 yX4_read, Cond.instanceMethod yX4_read, Cond.selects RX4 yX4_read yX4_read, Cond.code yX4_read cX4_read 3 (some .int), Cond.methodLink RX4 63 yX4_fault, Cond.methodLink RL 31 yX3_rule, Cond.instanceMethod yX3_rule, Cond.selects RX3 yX3_rule yX3_rule, Cond.code yX3_rule cX3_rule 4 (some .int), Cond.methodLink RX3 62 yX0_mayRule]
def wsL_law_r9 : List Cond := [Cond.instanceMethod yX0_mayRule, Cond.selects RX0 yX0_mayRule yX0_mayRule, Cond.code yX0_mayRule cX0_mayRule 5 (some .boolean), Cond.methodLink RL 35 yX4_rule, Cond.instanceMethod yX4_rule, Cond.selects RX4 yX4_rule yX4_rule, Cond.code yX4_rule cX4_rule 4 (some .int), Cond.methodLink RX4 66 yX4_least, Cond.static yX4_least, Cond.code yX4_least cX4_least 1 (some .int), Cond.methodLink RX4 70 yX4_most, Cond.static yX4_most, Cond.code yX4_most cX4_most 1 (some .int), Cond.methodLink RL 36 yX3_cut, Cond.instanceMethod yX3_cut, Cond.selects RX3 yX3_cut yX3_cut, Cond.code yX3_cut cX3_cut 3 (some .int), Cond.fieldLink RX3 74 "HeadMarks$Book" "broken" "[I", Cond.methodLink RX3 70 yX0_canBreakAhead, Cond.instanceMethod yX0_canBreakAhead, Cond.selects RX0 yX0_canBreakAhead yX0_canBreakAhead, Cond.code yX0_canBreakAhead cX0_canBreakAhead 2 (some .boolean), Cond.methodLink RX3 77 yX0_countBreaks, Cond.instanceMethod yX0_countBreaks]
def wsL_law_r10 : List Cond := [Cond.selects RX0 yX0_countBreaks yX0_countBreaks, Cond.code yX0_countBreaks cX0_countBreaks 3 (some .int), Cond.methodLink RL 39 yX4_cut, Cond.instanceMethod yX4_cut, Cond.selects RX4 yX4_cut yX4_cut, Cond.code yX4_cut cX4_cut 3 (some .int), Cond.methodLink RX4 45 yX4_many, Cond.instanceMethod yX4_many, Cond.selects RX4 yX4_many yX4_many, Cond.code yX4_many cX4_many 1 (some .int), Cond.methodLink RX4 73 yX4_breaks, Cond.instanceMethod yX4_breaks, Cond.selects RX4 yX4_breaks yX4_breaks, Cond.code yX4_breaks cX4_breaks 3 (some .int), Cond.methodLink RL 40 yX3_line, Cond.instanceMethod yX3_line, Cond.selects RX3 yX3_line yX3_line, Cond.code yX3_line cX3_line 3 (some .int), Cond.fieldLink RX3 80 "HeadMarks$Book" "signs" "[I", Cond.fieldLink RX3 87 "HeadMarks$Layout" "pageOf" "[I", Cond.fieldLink RX3 90 "HeadMarks$Layout" "linesAhead" "[I", Cond.fieldLink RX3 93 "HeadMarks$Layout" "inForce" "[[I", Cond.methodLink RX3 83 yX3_classOf, Cond.methodLink RL 43 yX4_line]
def wsL_law_r11 : List Cond := [Cond.instanceMethod yX4_line, Cond.selects RX4 yX4_line yX4_line, Cond.code yX4_line cX4_line 3 (some .int), Cond.methodLink RX4 104 yX4_isLine, Cond.instanceMethod yX4_isLine, Cond.selects RX4 yX4_isLine yX4_isLine, Cond.code yX4_isLine cX4_isLine 2 (some .boolean), Cond.methodLink RX4 107 yX4_layPages, Cond.instanceMethod yX4_layPages, Cond.selects RX4 yX4_layPages yX4_layPages, Cond.code yX4_layPages cX4_layPages 2 none, Cond.fieldLink RX4 76 "HeadMarksModel" "pages" "I", Cond.methodLink RX4 79 yX4_beginPage, Cond.instanceMethod yX4_beginPage, Cond.selects RX4 yX4_beginPage yX4_beginPage, Cond.code yX4_beginPage cX4_beginPage 1 none, Cond.methodLink RX4 82 yX4_isNew, Cond.instanceMethod yX4_isNew, Cond.selects RX4 yX4_isNew yX4_isNew, Cond.code yX4_isNew cX4_isNew 4 (some .boolean), Cond.methodLink RX4 86 yX4_layForce, Cond.instanceMethod yX4_layForce, Cond.selects RX4 yX4_layForce yX4_layForce, Cond.code yX4_layForce cX4_layForce 4 none]
def wsL_law_r12 : List Cond := [Cond.methodLink RL 44 yX3_page, Cond.instanceMethod yX3_page, Cond.selects RX3 yX3_page yX3_page, Cond.code yX3_page cX3_page 3 (some .int), Cond.fieldLink RX3 100 "HeadMarks$Layout" "linesOn" "[I", Cond.fieldLink RX3 103 "HeadMarks$Layout" "heads" "[I", Cond.methodLink RX3 97 yX1_hasPage, Cond.instanceMethod yX1_hasPage, Cond.selects RX1 yX1_hasPage yX1_hasPage, Cond.code yX1_hasPage cX1_hasPage 2 (some .boolean), Cond.methodLink RX3 106 yX1_isShared, Cond.instanceMethod yX1_isShared, Cond.selects RX1 yX1_isShared yX1_isShared, Cond.code yX1_isShared cX1_isShared 4 (some .boolean), Cond.methodLink RX1 96 Lib.Math.max.name, Cond.static Lib.Math.max.name, Cond.initialized "java/lang/Math", Cond.code Lib.Math.max.name Lib.Math.max.code 2 (some .int), Cond.methodLink RL 47 yX4_page, Cond.instanceMethod yX4_page, Cond.selects RX4 yX4_page yX4_page, Cond.code yX4_page cX4_page 3 (some .int), Cond.methodLink RX4 113 yX4_isPage, Cond.instanceMethod yX4_isPage]
def wsL_law_r13 : List Cond := [Cond.selects RX4 yX4_isPage yX4_isPage, Cond.code yX4_isPage cX4_isPage 2 (some .boolean), Cond.methodLink RX4 116 yX4_headOf, Cond.instanceMethod yX4_headOf, Cond.selects RX4 yX4_headOf yX4_headOf, Cond.code yX4_headOf cX4_headOf 3 (some .int), Cond.methodLink RX4 100 yX4_markOf, Cond.instanceMethod yX4_markOf, Cond.selects RX4 yX4_markOf yX4_markOf, Cond.code yX4_markOf cX4_markOf 6 (some .int), Cond.methodLink RX4 90 yX4_lineAhead, Cond.instanceMethod yX4_lineAhead, Cond.selects RX4 yX4_lineAhead yX4_lineAhead, Cond.code yX4_lineAhead cX4_lineAhead 4 (some .int), Cond.methodLink RX4 93 yX4_breakMark, Cond.instanceMethod yX4_breakMark, Cond.selects RX4 yX4_breakMark yX4_breakMark, Cond.code yX4_breakMark cX4_breakMark 3 (some .int), Cond.methodLink RX4 97 yX4_firstMark, Cond.instanceMethod yX4_firstMark, Cond.selects RX4 yX4_firstMark yX4_firstMark, Cond.code yX4_firstMark cX4_firstMark 5 (some .int), Cond.methodLink RX4 119 yX4_isShared, Cond.instanceMethod yX4_isShared]
def wsL_law_r14 : List Cond := [Cond.selects RX4 yX4_isShared yX4_isShared, Cond.code yX4_isShared cX4_isShared 6 (some .boolean), Cond.methodLink RX4 110 yX4_chapterOf, Cond.instanceMethod yX4_chapterOf, Cond.selects RX4 yX4_chapterOf yX4_chapterOf, Cond.code yX4_chapterOf cX4_chapterOf 4 (some .int), Cond.methodLink RL 48 yX3_mark, Cond.instanceMethod yX3_mark, Cond.selects RX3 yX3_mark yX3_mark, Cond.code yX3_mark cX3_mark 4 (some .int), Cond.methodLink RX3 109 yX1_markOf, Cond.methodLink RL 52 yX4_mark, Cond.instanceMethod yX4_mark, Cond.selects RX4 yX4_mark yX4_mark, Cond.code yX4_mark cX4_mark 4 (some .int), Cond.methodLink RL 53 yX3_headed, Cond.instanceMethod yX3_headed, Cond.selects RX3 yX3_headed yX3_headed, Cond.code yX3_headed cX3_headed 5 (some .int), Cond.fieldLink RX3 113 "HeadMarks$Layout" "pages" "I", Cond.methodLink RL 56 yX4_headed, Cond.instanceMethod yX4_headed, Cond.selects RX4 yX4_headed yX4_headed, Cond.code yX4_headed cX4_headed 5 (some .int)]
def wsL_law_r15 : List Cond := [Cond.methodLink RL 57 yX3_chapter, Cond.instanceMethod yX3_chapter, Cond.selects RX3 yX3_chapter yX3_chapter, Cond.code yX3_chapter cX3_chapter 5 (some .int), Cond.methodLink RX3 116 yX1_countChapters, Cond.instanceMethod yX1_countChapters, Cond.selects RX1 yX1_countChapters yX1_countChapters, Cond.code yX1_countChapters cX1_countChapters 1 (some .int), Cond.methodLink RX3 119 yX1_titleLineOf, Cond.instanceMethod yX1_titleLineOf, Cond.selects RX1 yX1_titleLineOf yX1_titleLineOf, Cond.code yX1_titleLineOf cX1_titleLineOf 3 (some .int), Cond.methodLink RX3 122 yX1_lastLineOf, Cond.instanceMethod yX1_lastLineOf, Cond.selects RX1 yX1_lastLineOf yX1_lastLineOf, Cond.code yX1_lastLineOf cX1_lastLineOf 3 (some .int), Cond.methodLink RX3 125 yX0_countSections, Cond.instanceMethod yX0_countSections, Cond.selects RX0 yX0_countSections yX0_countSections, Cond.code yX0_countSections cX0_countSections 5 (some .int), Cond.methodLink RL 60 yX4_chapter, Cond.instanceMethod yX4_chapter, Cond.selects RX4 yX4_chapter yX4_chapter, Cond.code yX4_chapter cX4_chapter 4 (some .int)]
def wsL_law_r16 : List Cond := [Cond.methodLink RX4 122 yX4_chapters, Cond.instanceMethod yX4_chapters, Cond.selects RX4 yX4_chapters yX4_chapters, Cond.code yX4_chapters cX4_chapters 1 (some .int), Cond.methodLink RX4 125 yX4_titleLine, Cond.instanceMethod yX4_titleLine, Cond.selects RX4 yX4_titleLine yX4_titleLine, Cond.code yX4_titleLine cX4_titleLine 4 (some .int), Cond.methodLink RX4 128 yX4_linesOf, Cond.instanceMethod yX4_linesOf, Cond.selects RX4 yX4_linesOf yX4_linesOf, Cond.code yX4_linesOf cX4_linesOf 5 (some .int), Cond.methodLink RL 61 yX3_changed, Cond.instanceMethod yX3_changed, Cond.selects RX3 yX3_changed yX3_changed, Cond.code yX3_changed cX3_changed 2 (some .int), Cond.methodLink RX3 129 yX3_countChanged, Cond.instanceMethod yX3_countChanged, Cond.selects RX3 yX3_countChanged yX3_countChanged, Cond.code yX3_countChanged cX3_countChanged 5 (some .int), Cond.methodLink RX3 135 Lib.Math.max.name, Cond.methodLink RX3 160 yX1_headOrNone, Cond.instanceMethod yX1_headOrNone, Cond.selects RX1 yX1_headOrNone yX1_headOrNone]
def wsL_law_r17 : List Cond := [Cond.code yX1_headOrNone cX1_headOrNone 2 (some .int), Cond.methodLink RX1 93 yX1_hasPage, Cond.methodLink RL 64 yX4_changed, Cond.instanceMethod yX4_changed, Cond.selects RX4 yX4_changed yX4_changed, Cond.code yX4_changed cX4_changed 2 (some .int), Cond.methodLink RX4 132 yX4_layHeads, Cond.instanceMethod yX4_layHeads, Cond.selects RX4 yX4_layHeads yX4_layHeads, Cond.code yX4_layHeads cX4_layHeads 2 none, Cond.methodLink RX4 135 yX4_changedBy, Cond.instanceMethod yX4_changedBy, Cond.selects RX4 yX4_changedBy yX4_changedBy, Cond.code yX4_changedBy cX4_changedBy 4 (some .int), Cond.methodLink RL 65 yX3_worst, Cond.instanceMethod yX3_worst, Cond.selects RX3 yX3_worst yX3_worst, Cond.code yX3_worst cX3_worst 6 (some .int), Cond.methodLink RL 68 yX4_worst, Cond.instanceMethod yX4_worst, Cond.selects RX4 yX4_worst yX4_worst, Cond.code yX4_worst cX4_worst 6 (some .int), Cond.methodLink RL 69 yX3_fit, Cond.instanceMethod yX3_fit]
def wsL_law_r18 : List Cond := [Cond.selects RX3 yX3_fit yX3_fit, Cond.code yX3_fit cX3_fit 4 (some .int), Cond.fieldLink RX3 132 "HeadMarks" "RULE_LEAST" "[I", Cond.fieldLink RX3 140 "HeadMarks" "RULE_MOST" "[I", Cond.methodLink RL 72 yX4_fit, Cond.instanceMethod yX4_fit, Cond.selects RX4 yX4_fit yX4_fit, Cond.code yX4_fit cX4_fit 5 (some .int), Cond.methodLink RL 73 yX3_image, Cond.instanceMethod yX3_image, Cond.selects RX3 yX3_image yX3_image, Cond.code yX3_image cX3_image 2 (some .int), Cond.methodLink RX3 147 yX0_copyFrom, Cond.instanceMethod yX0_copyFrom, Cond.selects RX0 yX0_copyFrom yX0_copyFrom, Cond.code yX0_copyFrom cX0_copyFrom 2 none, Cond.methodLink RX0 39 arraycopyName, Cond.native arraycopyName, Cond.static arraycopyName, Cond.initialized "java/lang/System", Cond.methodLink RL 76 yX4_image, Cond.instanceMethod yX4_image, Cond.selects RX4 yX4_image yX4_image, Cond.code yX4_image cX4_image 3 (some .int)]
def wsL_law_r19 : List Cond := [Cond.methodLink RL 77 yX3_restore, Cond.instanceMethod yX3_restore, Cond.selects RX3 yX3_restore yX3_restore, Cond.code yX3_restore cX3_restore 2 (some .int), Cond.methodLink RL 80 yX4_restore, Cond.instanceMethod yX4_restore, Cond.selects RX4 yX4_restore yX4_restore, Cond.code yX4_restore cX4_restore 3 (some .int), Cond.methodLink RL 81 yX3_count, Cond.instanceMethod yX3_count, Cond.selects RX3 yX3_count yX3_count, Cond.code yX3_count cX3_count 2 (some .int), Cond.methodLink RX3 151 yX1_countBlank, Cond.instanceMethod yX1_countBlank, Cond.selects RX1 yX1_countBlank yX1_countBlank, Cond.code yX1_countBlank cX1_countBlank 3 (some .int), Cond.methodLink RX3 154 yX1_countShared, Cond.instanceMethod yX1_countShared, Cond.selects RX1 yX1_countShared yX1_countShared, Cond.code yX1_countShared cX1_countShared 3 (some .int), Cond.methodLink RX1 101 yX1_isShared, Cond.methodLink RX3 157 yX1_countHeads, Cond.instanceMethod yX1_countHeads, Cond.selects RX1 yX1_countHeads yX1_countHeads]
def wsL_law_r20 : List Cond := [Cond.code yX1_countHeads cX1_countHeads 3 (some .int), Cond.methodLink RL 84 yX4_count, Cond.instanceMethod yX4_count, Cond.selects RX4 yX4_count yX4_count, Cond.code yX4_count cX4_count 2 (some .int), Cond.methodLink RX4 138 yX4_pagesThat, Cond.instanceMethod yX4_pagesThat, Cond.selects RX4 yX4_pagesThat yX4_pagesThat, Cond.code yX4_pagesThat cX4_pagesThat 5 (some .int)]
def wsL_law : List Cond := (wsL_law_r1 ++ (wsL_law_r2 ++ (wsL_law_r3 ++ (wsL_law_r4 ++ (wsL_law_r5 ++ (wsL_law_r6 ++ (wsL_law_r7 ++ (wsL_law_r8 ++ (wsL_law_r9 ++ (wsL_law_r10 ++ (wsL_law_r11 ++ (wsL_law_r12 ++ (wsL_law_r13 ++ (wsL_law_r14 ++ (wsL_law_r15 ++ (wsL_law_r16 ++ (wsL_law_r17 ++ (wsL_law_r18 ++ (wsL_law_r19 ++ wsL_law_r20))))))))))))))))))) ++ wsX30 ++ wsX40 ++ wsX20 ++ wsX00 ++ wsX10 ++ ([] : List Cond)
end
section
set_option maxRecDepth 20000 in
theorem wsL_in_1 : GoodIn lw_tbl wsL_law_r1 := goodIn_p wsL_law_r1 [43, 46] (by decide +kernel) (by decide +kernel)
set_option maxRecDepth 20000 in
theorem wsL_in_2 : GoodIn lw_tbl wsL_law_r2 := goodIn_p wsL_law_r2 [51, 68, 105] (by decide +kernel) (by decide +kernel)
set_option maxRecDepth 20000 in
theorem wsL_in_3 : GoodIn lw_tbl wsL_law_r3 := goodIn_p wsL_law_r3 [371] (by decide +kernel) (by decide +kernel)
set_option maxRecDepth 20000 in
theorem wsL_in_4 : GoodIn lw_tbl wsL_law_r4 := goodIn_p wsL_law_r4 [165, 169, 414, 417, 173] (by decide +kernel) (by decide +kernel)
set_option maxRecDepth 20000 in
theorem wsL_in_5 : GoodIn lw_tbl wsL_law_r5 := goodIn_p wsL_law_r5 [421, 177, 181, 184, 425, 429, 432] (by decide +kernel) (by decide +kernel)
set_option maxRecDepth 20000 in
theorem wsL_in_6 : GoodIn lw_tbl wsL_law_r6 := goodIn_p wsL_law_r6 [435, 188, 192, 196, 200] (by decide +kernel) (by decide +kernel)
set_option maxRecDepth 20000 in
theorem wsL_in_7 : GoodIn lw_tbl wsL_law_r7 := goodIn_p wsL_law_r7 [204, 209, 213, 216, 220] (by decide +kernel) (by decide +kernel)
set_option maxRecDepth 20000 in
theorem wsL_in_8 : GoodIn lw_tbl wsL_law_r8 := goodIn_p wsL_law_r8 [224, 228, 232, 236, 439, 240] (by decide +kernel) (by decide +kernel)
set_option maxRecDepth 20000 in
theorem wsL_in_9 : GoodIn lw_tbl wsL_law_r9 := goodIn_p wsL_law_r9 [244, 444, 447, 450, 252, 256] (by decide +kernel) (by decide +kernel)
set_option maxRecDepth 20000 in
theorem wsL_in_10 : GoodIn lw_tbl wsL_law_r10 := goodIn_p wsL_law_r10 [260, 454, 458, 462, 264] (by decide +kernel) (by decide +kernel)
set_option maxRecDepth 20000 in
theorem wsL_in_11 : GoodIn lw_tbl wsL_law_r11 := goodIn_p wsL_law_r11 [466, 470, 474, 478, 482, 486] (by decide +kernel) (by decide +kernel)
set_option maxRecDepth 20000 in
theorem wsL_in_12 : GoodIn lw_tbl wsL_law_r12 := goodIn_p wsL_law_r12 [269, 273, 277, 280, 490] (by decide +kernel) (by decide +kernel)
set_option maxRecDepth 20000 in
theorem wsL_in_13 : GoodIn lw_tbl wsL_law_r13 := goodIn_p wsL_law_r13 [494, 498, 502, 506, 510, 514] (by decide +kernel) (by decide +kernel)
set_option maxRecDepth 20000 in
theorem wsL_in_14 : GoodIn lw_tbl wsL_law_r14 := goodIn_p wsL_law_r14 [518, 522, 284, 526, 289, 530] (by decide +kernel) (by decide +kernel)
set_option maxRecDepth 20000 in
theorem wsL_in_15 : GoodIn lw_tbl wsL_law_r15 := goodIn_p wsL_law_r15 [293, 297, 301, 305, 309, 534] (by decide +kernel) (by decide +kernel)
set_option maxRecDepth 20000 in
theorem wsL_in_16 : GoodIn lw_tbl wsL_law_r16 := goodIn_p wsL_law_r16 [538, 542, 546, 314, 318] (by decide +kernel) (by decide +kernel)
set_option maxRecDepth 20000 in
theorem wsL_in_17 : GoodIn lw_tbl wsL_law_r17 := goodIn_p wsL_law_r17 [323, 550, 554, 558, 328, 562] (by decide +kernel) (by decide +kernel)
set_option maxRecDepth 20000 in
theorem wsL_in_18 : GoodIn lw_tbl wsL_law_r18 := goodIn_p wsL_law_r18 [332, 566, 338, 342, 570] (by decide +kernel) (by decide +kernel)
set_option maxRecDepth 20000 in
theorem wsL_in_19 : GoodIn lw_tbl wsL_law_r19 := goodIn_p wsL_law_r19 [349, 574, 353, 357, 361] (by decide +kernel) (by decide +kernel)
set_option maxRecDepth 20000 in
theorem wsL_in_20 : GoodIn lw_tbl wsL_law_r20 := goodIn_p wsL_law_r20 [366, 578, 582] (by decide +kernel) (by decide +kernel)
theorem wsL_in_wsX30 : GoodIn lw_tbl wsX30 := goodIn_p wsX30 [] (by decide +kernel) (by decide +kernel)
theorem wsL_in_wsX40 : GoodIn lw_tbl wsX40 := goodIn_p wsX40 [] (by decide +kernel) (by decide +kernel)
theorem wsL_in_wsX20 : GoodIn lw_tbl wsX20 := goodIn_p wsX20 [] (by decide +kernel) (by decide +kernel)
theorem wsL_in_wsX00 : GoodIn lw_tbl wsX00 := goodIn_p wsX00 [] (by decide +kernel) (by decide +kernel)
theorem wsL_in_wsX10 : GoodIn lw_tbl wsX10 := goodIn_p wsX10 [] (by decide +kernel) (by decide +kernel)
theorem wsL_law_good : GoodIn lw_tbl wsL_law := goodIn_app (goodIn_app (goodIn_app (goodIn_app (goodIn_app (goodIn_app (goodIn_app wsL_in_1 (goodIn_app wsL_in_2 (goodIn_app wsL_in_3 (goodIn_app wsL_in_4 (goodIn_app wsL_in_5 (goodIn_app wsL_in_6 (goodIn_app wsL_in_7 (goodIn_app wsL_in_8 (goodIn_app wsL_in_9 (goodIn_app wsL_in_10 (goodIn_app wsL_in_11 (goodIn_app wsL_in_12 (goodIn_app wsL_in_13 (goodIn_app wsL_in_14 (goodIn_app wsL_in_15 (goodIn_app wsL_in_16 (goodIn_app wsL_in_17 (goodIn_app wsL_in_18 (goodIn_app wsL_in_19 (wsL_in_20)))))))))))))))))))) wsL_in_wsX30) wsL_in_wsX40) wsL_in_wsX20) wsL_in_wsX00) wsL_in_wsX10) (fun _ h => absurd h List.not_mem_nil)
theorem wsL_law_in : ∀ w ∈ wsL_law, w ∈ lw_tbl := fun w h => (wsL_law_good w h).1
theorem inlX0 : ∀ w ∈ wsX00, w ∈ wsL_law := fun _ h => List.mem_append_left _ (List.mem_append_left _ (List.mem_append_right _ h))
theorem inX0 : ∀ w ∈ wsX00, w ∈ lw_tbl := fun w h => wsL_law_in w (inlX0 w h)
theorem inlX1 : ∀ w ∈ wsX10, w ∈ wsL_law := fun _ h => List.mem_append_left _ (List.mem_append_right _ h)
theorem inX1 : ∀ w ∈ wsX10, w ∈ lw_tbl := fun w h => wsL_law_in w (inlX1 w h)
theorem inlX2 : ∀ w ∈ wsX20, w ∈ wsL_law := fun _ h => List.mem_append_left _ (List.mem_append_left _ (List.mem_append_left _ (List.mem_append_right _ h)))
theorem inX2 : ∀ w ∈ wsX20, w ∈ lw_tbl := fun w h => wsL_law_in w (inlX2 w h)
theorem inlX3 : ∀ w ∈ wsX30, w ∈ wsL_law := fun _ h => List.mem_append_left _ (List.mem_append_left _ (List.mem_append_left _ (List.mem_append_left _ (List.mem_append_left _ (List.mem_append_right _ h)))))
theorem inX3 : ∀ w ∈ wsX30, w ∈ lw_tbl := fun w h => wsL_law_in w (inlX3 w h)
theorem inlX4 : ∀ w ∈ wsX40, w ∈ wsL_law := fun _ h => List.mem_append_left _ (List.mem_append_left _ (List.mem_append_left _ (List.mem_append_left _ (List.mem_append_right _ h))))
theorem inX4 : ∀ w ∈ wsX40, w ∈ lw_tbl := fun w h => wsL_law_in w (inlX4 w h)
theorem inJx8e188 : ∀ w ∈ wsJx8e1880, w ∈ lw_tbl := by decide +kernel
theorem inJ9 : ∀ w ∈ wsJ90, w ∈ lw_tbl := by decide +kernel
theorem inJ10 : ∀ w ∈ wsJ100, w ∈ lw_tbl := by decide +kernel
theorem dX0_init_0 : decode cX0_init 0 = .ok (.aload_n 0, 1) := by decide +kernel
end
section
theorem dX0_init_1 : decode cX0_init 1 = .ok (.invokespecial 3, 3) := by decide +kernel
theorem dX0_init_4 : decode cX0_init 4 = .ok (.aload_n 0, 1) := by decide +kernel
theorem dX0_init_5 : decode cX0_init 5 = .ok (.bipush 60, 2) := by decide +kernel
theorem dX0_init_7 : decode cX0_init 7 = .ok (.newarray .int, 2) := by decide +kernel
theorem dX0_init_9 : decode cX0_init 9 = .ok (.putfield 9, 3) := by decide +kernel
theorem dX0_init_12 : decode cX0_init 12 = .ok (.aload_n 0, 1) := by decide +kernel
theorem dX0_init_13 : decode cX0_init 13 = .ok (.bipush 60, 2) := by decide +kernel
theorem dX0_init_15 : decode cX0_init 15 = .ok (.newarray .int, 2) := by decide +kernel
theorem dX0_init_17 : decode cX0_init 17 = .ok (.putfield 15, 3) := by decide +kernel
theorem dX0_init_20 : decode cX0_init 20 = .ok (.aload_n 0, 1) := by decide +kernel
theorem dX0_init_21 : decode cX0_init 21 = .ok (.getstatic 18, 3) := by decide +kernel
theorem dX0_init_24 : decode cX0_init 24 = .ok (.invokevirtual 21, 3) := by decide +kernel
theorem dX0_init_27 : decode cX0_init 27 = .ok (.checkcast 22, 3) := by decide +kernel
theorem dX0_init_30 : decode cX0_init 30 = .ok (.putfield 26, 3) := by decide +kernel
theorem dX0_init_33 : decode cX0_init 33 = .ok (.aload_n 0, 1) := by decide +kernel
theorem dX0_init_34 : decode cX0_init 34 = .ok (.iconst 0, 1) := by decide +kernel
theorem dX0_init_35 : decode cX0_init 35 = .ok (.putfield 29, 3) := by decide +kernel
theorem dX0_init_38 : decode cX0_init 38 = .ok (.return_, 1) := by decide +kernel
theorem dX0_takeText_0 : decode cX0_takeText 0 = .ok (.aload_n 0, 1) := by decide +kernel
theorem dX0_takeText_1 : decode cX0_takeText 1 = .ok (.iconst 0, 1) := by decide +kernel
theorem dX0_takeText_2 : decode cX0_takeText 2 = .ok (.putfield 29, 3) := by decide +kernel
theorem dX0_takeText_5 : decode cX0_takeText 5 = .ok (.iconst 0, 1) := by decide +kernel
theorem dX0_takeText_6 : decode cX0_takeText 6 = .ok (.istore_n 2, 1) := by decide +kernel
theorem dX0_takeText_7 : decode cX0_takeText 7 = .ok (.iconst 0, 1) := by decide +kernel
theorem dX0_takeText_8 : decode cX0_takeText 8 = .ok (.istore_n 3, 1) := by decide +kernel
theorem dX0_takeText_9 : decode cX0_takeText 9 = .ok (.iload_n 3, 1) := by decide +kernel
theorem dX0_takeText_10 : decode cX0_takeText 10 = .ok (.aload_n 1, 1) := by decide +kernel
theorem dX0_takeText_11 : decode cX0_takeText 11 = .ok (.getfield 33, 3) := by decide +kernel
theorem dX0_takeText_14 : decode cX0_takeText 14 = .ok (.if_icmp .ge 62, 3) := by decide +kernel
theorem dX0_takeText_17 : decode cX0_takeText 17 = .ok (.aload_n 1, 1) := by decide +kernel
theorem dX0_takeText_18 : decode cX0_takeText 18 = .ok (.getfield 38, 3) := by decide +kernel
theorem dX0_takeText_21 : decode cX0_takeText 21 = .ok (.iload_n 3, 1) := by decide +kernel
theorem dX0_takeText_22 : decode cX0_takeText 22 = .ok (.iaload, 1) := by decide +kernel
theorem dX0_takeText_23 : decode cX0_takeText 23 = .ok (.bipush 47, 2) := by decide +kernel
theorem dX0_takeText_25 : decode cX0_takeText 25 = .ok (.if_icmp .ne 8, 3) := by decide +kernel
theorem dX0_takeText_28 : decode cX0_takeText 28 = .ok (.iconst 1, 1) := by decide +kernel
theorem dX0_takeText_29 : decode cX0_takeText 29 = .ok (.istore_n 2, 1) := by decide +kernel
theorem dX0_takeText_30 : decode cX0_takeText 30 = .ok (.goto 40, 3) := by decide +kernel
theorem dX0_takeText_33 : decode cX0_takeText 33 = .ok (.aload_n 0, 1) := by decide +kernel
theorem dX0_takeText_34 : decode cX0_takeText 34 = .ok (.getfield 9, 3) := by decide +kernel
theorem dX0_takeText_37 : decode cX0_takeText 37 = .ok (.aload_n 0, 1) := by decide +kernel
theorem dX0_takeText_38 : decode cX0_takeText 38 = .ok (.getfield 29, 3) := by decide +kernel
theorem dX0_takeText_41 : decode cX0_takeText 41 = .ok (.aload_n 1, 1) := by decide +kernel
theorem dX0_takeText_42 : decode cX0_takeText 42 = .ok (.getfield 38, 3) := by decide +kernel
theorem dX0_takeText_45 : decode cX0_takeText 45 = .ok (.iload_n 3, 1) := by decide +kernel
theorem dX0_takeText_46 : decode cX0_takeText 46 = .ok (.iaload, 1) := by decide +kernel
theorem dX0_takeText_47 : decode cX0_takeText 47 = .ok (.iastore, 1) := by decide +kernel
theorem dX0_takeText_48 : decode cX0_takeText 48 = .ok (.aload_n 0, 1) := by decide +kernel
theorem dX0_takeText_49 : decode cX0_takeText 49 = .ok (.getfield 15, 3) := by decide +kernel
theorem dX0_takeText_52 : decode cX0_takeText 52 = .ok (.aload_n 0, 1) := by decide +kernel
theorem dX0_takeText_53 : decode cX0_takeText 53 = .ok (.getfield 29, 3) := by decide +kernel
theorem dX0_takeText_56 : decode cX0_takeText 56 = .ok (.iload_n 2, 1) := by decide +kernel
theorem dX0_takeText_57 : decode cX0_takeText 57 = .ok (.iastore, 1) := by decide +kernel
theorem dX0_takeText_58 : decode cX0_takeText 58 = .ok (.aload_n 0, 1) := by decide +kernel
theorem dX0_takeText_59 : decode cX0_takeText 59 = .ok (.dup, 1) := by decide +kernel
theorem dX0_takeText_60 : decode cX0_takeText 60 = .ok (.getfield 29, 3) := by decide +kernel
theorem dX0_takeText_63 : decode cX0_takeText 63 = .ok (.iconst 1, 1) := by decide +kernel
theorem dX0_takeText_64 : decode cX0_takeText 64 = .ok (.iadd, 1) := by decide +kernel
theorem dX0_takeText_65 : decode cX0_takeText 65 = .ok (.putfield 29, 3) := by decide +kernel
theorem dX0_takeText_68 : decode cX0_takeText 68 = .ok (.iconst 0, 1) := by decide +kernel
theorem dX0_takeText_69 : decode cX0_takeText 69 = .ok (.istore_n 2, 1) := by decide +kernel
theorem dX0_takeText_70 : decode cX0_takeText 70 = .ok (.iinc 3 1, 3) := by decide +kernel
theorem dX0_takeText_73 : decode cX0_takeText 73 = .ok (.goto (-64), 3) := by decide +kernel
theorem dX0_takeText_76 : decode cX0_takeText 76 = .ok (.return_, 1) := by decide +kernel
theorem dX0_copyFrom_0 : decode cX0_copyFrom 0 = .ok (.aload_n 1, 1) := by decide +kernel
theorem dX0_copyFrom_1 : decode cX0_copyFrom 1 = .ok (.getfield 9, 3) := by decide +kernel
theorem dX0_copyFrom_4 : decode cX0_copyFrom 4 = .ok (.iconst 0, 1) := by decide +kernel
theorem dX0_copyFrom_5 : decode cX0_copyFrom 5 = .ok (.aload_n 0, 1) := by decide +kernel
theorem dX0_copyFrom_6 : decode cX0_copyFrom 6 = .ok (.getfield 9, 3) := by decide +kernel
theorem dX0_copyFrom_9 : decode cX0_copyFrom 9 = .ok (.iconst 0, 1) := by decide +kernel
theorem dX0_copyFrom_10 : decode cX0_copyFrom 10 = .ok (.bipush 60, 2) := by decide +kernel
theorem dX0_copyFrom_12 : decode cX0_copyFrom 12 = .ok (.invokestatic 39, 3) := by decide +kernel
theorem dX0_copyFrom_15 : decode cX0_copyFrom 15 = .ok (.aload_n 1, 1) := by decide +kernel
theorem dX0_copyFrom_16 : decode cX0_copyFrom 16 = .ok (.getfield 15, 3) := by decide +kernel
theorem dX0_copyFrom_19 : decode cX0_copyFrom 19 = .ok (.iconst 0, 1) := by decide +kernel
theorem dX0_copyFrom_20 : decode cX0_copyFrom 20 = .ok (.aload_n 0, 1) := by decide +kernel
theorem dX0_copyFrom_21 : decode cX0_copyFrom 21 = .ok (.getfield 15, 3) := by decide +kernel
theorem dX0_copyFrom_24 : decode cX0_copyFrom 24 = .ok (.iconst 0, 1) := by decide +kernel
theorem dX0_copyFrom_25 : decode cX0_copyFrom 25 = .ok (.bipush 60, 2) := by decide +kernel
theorem dX0_copyFrom_27 : decode cX0_copyFrom 27 = .ok (.invokestatic 39, 3) := by decide +kernel
theorem dX0_copyFrom_30 : decode cX0_copyFrom 30 = .ok (.aload_n 1, 1) := by decide +kernel
theorem dX0_copyFrom_31 : decode cX0_copyFrom 31 = .ok (.getfield 26, 3) := by decide +kernel
theorem dX0_copyFrom_34 : decode cX0_copyFrom 34 = .ok (.iconst 0, 1) := by decide +kernel
theorem dX0_copyFrom_35 : decode cX0_copyFrom 35 = .ok (.aload_n 0, 1) := by decide +kernel
theorem dX0_copyFrom_36 : decode cX0_copyFrom 36 = .ok (.getfield 26, 3) := by decide +kernel
theorem dX0_copyFrom_39 : decode cX0_copyFrom 39 = .ok (.iconst 0, 1) := by decide +kernel
theorem dX0_copyFrom_40 : decode cX0_copyFrom 40 = .ok (.bipush 9, 2) := by decide +kernel
theorem dX0_copyFrom_42 : decode cX0_copyFrom 42 = .ok (.invokestatic 39, 3) := by decide +kernel
theorem dX0_copyFrom_45 : decode cX0_copyFrom 45 = .ok (.aload_n 0, 1) := by decide +kernel
theorem dX0_copyFrom_46 : decode cX0_copyFrom 46 = .ok (.aload_n 1, 1) := by decide +kernel
theorem dX0_copyFrom_47 : decode cX0_copyFrom 47 = .ok (.getfield 29, 3) := by decide +kernel
theorem dX0_copyFrom_50 : decode cX0_copyFrom 50 = .ok (.putfield 29, 3) := by decide +kernel
theorem dX0_copyFrom_53 : decode cX0_copyFrom 53 = .ok (.return_, 1) := by decide +kernel
theorem dX0_mayRule_0 : decode cX0_mayRule 0 = .ok (.iload_n 2, 1) := by decide +kernel
theorem dX0_mayRule_1 : decode cX0_mayRule 1 = .ok (.getstatic 45, 3) := by decide +kernel
theorem dX0_mayRule_4 : decode cX0_mayRule 4 = .ok (.iload_n 1, 1) := by decide +kernel
theorem dX0_mayRule_5 : decode cX0_mayRule 5 = .ok (.iaload, 1) := by decide +kernel
theorem dX0_mayRule_6 : decode cX0_mayRule 6 = .ok (.if_icmp .lt 12, 3) := by decide +kernel
theorem dX0_mayRule_9 : decode cX0_mayRule 9 = .ok (.iload_n 2, 1) := by decide +kernel
theorem dX0_mayRule_10 : decode cX0_mayRule 10 = .ok (.getstatic 48, 3) := by decide +kernel
theorem dX0_mayRule_13 : decode cX0_mayRule 13 = .ok (.iload_n 1, 1) := by decide +kernel
theorem dX0_mayRule_14 : decode cX0_mayRule 14 = .ok (.iaload, 1) := by decide +kernel
theorem dX0_mayRule_15 : decode cX0_mayRule 15 = .ok (.if_icmp .le 5, 3) := by decide +kernel
theorem dX0_mayRule_18 : decode cX0_mayRule 18 = .ok (.iconst 0, 1) := by decide +kernel
theorem dX0_mayRule_19 : decode cX0_mayRule 19 = .ok (.ireturn, 1) := by decide +kernel
theorem dX0_mayRule_20 : decode cX0_mayRule 20 = .ok (.iload_n 1, 1) := by decide +kernel
theorem dX0_mayRule_21 : decode cX0_mayRule 21 = .ok (.ifCond .ne 7, 3) := by decide +kernel
theorem dX0_mayRule_24 : decode cX0_mayRule 24 = .ok (.iload_n 2, 1) := by decide +kernel
theorem dX0_mayRule_25 : decode cX0_mayRule 25 = .ok (.goto 9, 3) := by decide +kernel
theorem dX0_mayRule_28 : decode cX0_mayRule 28 = .ok (.aload_n 0, 1) := by decide +kernel
theorem dX0_mayRule_29 : decode cX0_mayRule 29 = .ok (.getfield 26, 3) := by decide +kernel
theorem dX0_mayRule_32 : decode cX0_mayRule 32 = .ok (.iconst 0, 1) := by decide +kernel
theorem dX0_mayRule_33 : decode cX0_mayRule 33 = .ok (.iaload, 1) := by decide +kernel
theorem dX0_mayRule_34 : decode cX0_mayRule 34 = .ok (.istore_n 3, 1) := by decide +kernel
theorem dX0_mayRule_35 : decode cX0_mayRule 35 = .ok (.iload_n 1, 1) := by decide +kernel
theorem dX0_mayRule_36 : decode cX0_mayRule 36 = .ok (.iconst 2, 1) := by decide +kernel
theorem dX0_mayRule_37 : decode cX0_mayRule 37 = .ok (.if_icmp .ne 7, 3) := by decide +kernel
theorem dX0_mayRule_40 : decode cX0_mayRule 40 = .ok (.iload_n 2, 1) := by decide +kernel
theorem dX0_mayRule_41 : decode cX0_mayRule 41 = .ok (.goto 9, 3) := by decide +kernel
theorem dX0_mayRule_44 : decode cX0_mayRule 44 = .ok (.aload_n 0, 1) := by decide +kernel
theorem dX0_mayRule_45 : decode cX0_mayRule 45 = .ok (.getfield 26, 3) := by decide +kernel
theorem dX0_mayRule_48 : decode cX0_mayRule 48 = .ok (.iconst 2, 1) := by decide +kernel
theorem dX0_mayRule_49 : decode cX0_mayRule 49 = .ok (.iaload, 1) := by decide +kernel
theorem dX0_mayRule_50 : decode cX0_mayRule 50 = .ok (.istore 4, 2) := by decide +kernel
theorem dX0_mayRule_52 : decode cX0_mayRule 52 = .ok (.iload 4, 2) := by decide +kernel
theorem dX0_mayRule_54 : decode cX0_mayRule 54 = .ok (.iload_n 3, 1) := by decide +kernel
theorem dX0_mayRule_55 : decode cX0_mayRule 55 = .ok (.if_icmp .ge 7, 3) := by decide +kernel
theorem dX0_mayRule_58 : decode cX0_mayRule 58 = .ok (.iconst 1, 1) := by decide +kernel
theorem dX0_mayRule_59 : decode cX0_mayRule 59 = .ok (.goto 4, 3) := by decide +kernel
theorem dX0_mayRule_62 : decode cX0_mayRule 62 = .ok (.iconst 0, 1) := by decide +kernel
theorem dX0_mayRule_63 : decode cX0_mayRule 63 = .ok (.ireturn, 1) := by decide +kernel
theorem dX0_canBreakAhead_0 : decode cX0_canBreakAhead 0 = .ok (.iload_n 1, 1) := by decide +kernel
theorem dX0_canBreakAhead_1 : decode cX0_canBreakAhead 1 = .ok (.iconst 1, 1) := by decide +kernel
theorem dX0_canBreakAhead_2 : decode cX0_canBreakAhead 2 = .ok (.if_icmp .lt 15, 3) := by decide +kernel
theorem dX0_canBreakAhead_5 : decode cX0_canBreakAhead 5 = .ok (.iload_n 1, 1) := by decide +kernel
theorem dX0_canBreakAhead_6 : decode cX0_canBreakAhead 6 = .ok (.aload_n 0, 1) := by decide +kernel
theorem dX0_canBreakAhead_7 : decode cX0_canBreakAhead 7 = .ok (.getfield 29, 3) := by decide +kernel
theorem dX0_canBreakAhead_10 : decode cX0_canBreakAhead 10 = .ok (.if_icmp .ge 7, 3) := by decide +kernel
theorem dX0_canBreakAhead_13 : decode cX0_canBreakAhead 13 = .ok (.iconst 1, 1) := by decide +kernel
theorem dX0_canBreakAhead_14 : decode cX0_canBreakAhead 14 = .ok (.goto 4, 3) := by decide +kernel
theorem dX0_canBreakAhead_17 : decode cX0_canBreakAhead 17 = .ok (.iconst 0, 1) := by decide +kernel
theorem dX0_canBreakAhead_18 : decode cX0_canBreakAhead 18 = .ok (.ireturn, 1) := by decide +kernel
theorem dX0_countBreaks_0 : decode cX0_countBreaks 0 = .ok (.iconst 0, 1) := by decide +kernel
theorem dX0_countBreaks_1 : decode cX0_countBreaks 1 = .ok (.istore_n 1, 1) := by decide +kernel
theorem dX0_countBreaks_2 : decode cX0_countBreaks 2 = .ok (.iconst 0, 1) := by decide +kernel
theorem dX0_countBreaks_3 : decode cX0_countBreaks 3 = .ok (.istore_n 2, 1) := by decide +kernel
theorem dX0_countBreaks_4 : decode cX0_countBreaks 4 = .ok (.iload_n 2, 1) := by decide +kernel
theorem dX0_countBreaks_5 : decode cX0_countBreaks 5 = .ok (.aload_n 0, 1) := by decide +kernel
theorem dX0_countBreaks_6 : decode cX0_countBreaks 6 = .ok (.getfield 29, 3) := by decide +kernel
theorem dX0_countBreaks_9 : decode cX0_countBreaks 9 = .ok (.if_icmp .ge 18, 3) := by decide +kernel
theorem dX0_countBreaks_12 : decode cX0_countBreaks 12 = .ok (.iload_n 1, 1) := by decide +kernel
theorem dX0_countBreaks_13 : decode cX0_countBreaks 13 = .ok (.aload_n 0, 1) := by decide +kernel
theorem dX0_countBreaks_14 : decode cX0_countBreaks 14 = .ok (.getfield 15, 3) := by decide +kernel
theorem dX0_countBreaks_17 : decode cX0_countBreaks 17 = .ok (.iload_n 2, 1) := by decide +kernel
theorem dX0_countBreaks_18 : decode cX0_countBreaks 18 = .ok (.iaload, 1) := by decide +kernel
theorem dX0_countBreaks_19 : decode cX0_countBreaks 19 = .ok (.iadd, 1) := by decide +kernel
theorem dX0_countBreaks_20 : decode cX0_countBreaks 20 = .ok (.istore_n 1, 1) := by decide +kernel
theorem dX0_countBreaks_21 : decode cX0_countBreaks 21 = .ok (.iinc 2 1, 3) := by decide +kernel
theorem dX0_countBreaks_24 : decode cX0_countBreaks 24 = .ok (.goto (-20), 3) := by decide +kernel
theorem dX0_countBreaks_27 : decode cX0_countBreaks 27 = .ok (.iload_n 1, 1) := by decide +kernel
theorem dX0_countBreaks_28 : decode cX0_countBreaks 28 = .ok (.ireturn, 1) := by decide +kernel
set_option maxRecDepth 20000 in
theorem ggX0_countSections_X3_classOf : GoodIn wsX0_countSections wsX3_classOf := goodIn_r _ [4] (by decide +kernel) (by decide +kernel)
set_option maxRecDepth 20000 in
theorem gX0_countSections_X3_classOf_n51 : GoodIn wsX0_countSections (wsX3_classOf) := ggX0_countSections_X3_classOf
theorem dX0_countSections_0 : decode cX0_countSections 0 = .ok (.iconst 0, 1) := by decide +kernel
theorem dX0_countSections_1 : decode cX0_countSections 1 = .ok (.istore_n 3, 1) := by decide +kernel
theorem dX0_countSections_2 : decode cX0_countSections 2 = .ok (.iload_n 1, 1) := by decide +kernel
theorem dX0_countSections_3 : decode cX0_countSections 3 = .ok (.istore 4, 2) := by decide +kernel
theorem dX0_countSections_5 : decode cX0_countSections 5 = .ok (.iload 4, 2) := by decide +kernel
theorem dX0_countSections_7 : decode cX0_countSections 7 = .ok (.iload_n 2, 1) := by decide +kernel
theorem dX0_countSections_8 : decode cX0_countSections 8 = .ok (.if_icmp .gt 26, 3) := by decide +kernel
theorem dX0_countSections_11 : decode cX0_countSections 11 = .ok (.aload_n 0, 1) := by decide +kernel
theorem dX0_countSections_12 : decode cX0_countSections 12 = .ok (.getfield 9, 3) := by decide +kernel
theorem dX0_countSections_15 : decode cX0_countSections 15 = .ok (.iload 4, 2) := by decide +kernel
theorem dX0_countSections_17 : decode cX0_countSections 17 = .ok (.iaload, 1) := by decide +kernel
theorem dX0_countSections_18 : decode cX0_countSections 18 = .ok (.invokestatic 51, 3) := by decide +kernel
theorem dX0_countSections_21 : decode cX0_countSections 21 = .ok (.iconst 1, 1) := by decide +kernel
theorem dX0_countSections_22 : decode cX0_countSections 22 = .ok (.if_icmp .ne 6, 3) := by decide +kernel
theorem dX0_countSections_25 : decode cX0_countSections 25 = .ok (.iinc 3 1, 3) := by decide +kernel
theorem dX0_countSections_28 : decode cX0_countSections 28 = .ok (.iinc 4 1, 3) := by decide +kernel
theorem dX0_countSections_31 : decode cX0_countSections 31 = .ok (.goto (-26), 3) := by decide +kernel
theorem dX0_countSections_34 : decode cX0_countSections 34 = .ok (.iload_n 3, 1) := by decide +kernel
theorem dX0_countSections_35 : decode cX0_countSections 35 = .ok (.ireturn, 1) := by decide +kernel
theorem dX1_init_0 : decode cX1_init 0 = .ok (.aload_n 0, 1) := by decide +kernel
theorem dX1_init_1 : decode cX1_init 1 = .ok (.invokespecial 3, 3) := by decide +kernel
theorem dX1_init_4 : decode cX1_init 4 = .ok (.aload_n 0, 1) := by decide +kernel
theorem dX1_init_5 : decode cX1_init 5 = .ok (.bipush 60, 2) := by decide +kernel
theorem dX1_init_7 : decode cX1_init 7 = .ok (.newarray .int, 2) := by decide +kernel
theorem dX1_init_9 : decode cX1_init 9 = .ok (.putfield 9, 3) := by decide +kernel
theorem dX1_init_12 : decode cX1_init 12 = .ok (.aload_n 0, 1) := by decide +kernel
theorem dX1_init_13 : decode cX1_init 13 = .ok (.bipush 60, 2) := by decide +kernel
theorem dX1_init_15 : decode cX1_init 15 = .ok (.newarray .int, 2) := by decide +kernel
theorem dX1_init_17 : decode cX1_init 17 = .ok (.putfield 15, 3) := by decide +kernel
theorem dX1_init_20 : decode cX1_init 20 = .ok (.aload_n 0, 1) := by decide +kernel
theorem dX1_init_21 : decode cX1_init 21 = .ok (.iconst 2, 1) := by decide +kernel
theorem dX1_init_22 : decode cX1_init 22 = .ok (.bipush 60, 2) := by decide +kernel
theorem dX1_init_24 : decode cX1_init 24 = .ok (.multianewarray 18 2, 4) := by decide +kernel
theorem dX1_init_28 : decode cX1_init 28 = .ok (.putfield 20, 3) := by decide +kernel
theorem dX1_init_31 : decode cX1_init 31 = .ok (.aload_n 0, 1) := by decide +kernel
theorem dX1_init_32 : decode cX1_init 32 = .ok (.bipush 120, 2) := by decide +kernel
theorem dX1_init_34 : decode cX1_init 34 = .ok (.newarray .int, 2) := by decide +kernel
theorem dX1_init_36 : decode cX1_init 36 = .ok (.putfield 23, 3) := by decide +kernel
theorem dX1_init_39 : decode cX1_init 39 = .ok (.aload_n 0, 1) := by decide +kernel
theorem dX1_init_40 : decode cX1_init 40 = .ok (.bipush 120, 2) := by decide +kernel
theorem dX1_init_42 : decode cX1_init 42 = .ok (.newarray .int, 2) := by decide +kernel
theorem dX1_init_44 : decode cX1_init 44 = .ok (.putfield 26, 3) := by decide +kernel
theorem dX1_init_47 : decode cX1_init 47 = .ok (.aload_n 0, 1) := by decide +kernel
theorem dX1_init_48 : decode cX1_init 48 = .ok (.iconst 2, 1) := by decide +kernel
theorem dX1_init_49 : decode cX1_init 49 = .ok (.bipush 120, 2) := by decide +kernel
theorem dX1_init_51 : decode cX1_init 51 = .ok (.multianewarray 18 2, 4) := by decide +kernel
theorem dX1_init_55 : decode cX1_init 55 = .ok (.putfield 29, 3) := by decide +kernel
theorem dX1_init_58 : decode cX1_init 58 = .ok (.aload_n 0, 1) := by decide +kernel
theorem dX1_init_59 : decode cX1_init 59 = .ok (.bipush 120, 2) := by decide +kernel
theorem dX1_init_61 : decode cX1_init 61 = .ok (.newarray .int, 2) := by decide +kernel
theorem dX1_init_63 : decode cX1_init 63 = .ok (.putfield 32, 3) := by decide +kernel
theorem dX1_init_66 : decode cX1_init 66 = .ok (.aload_n 0, 1) := by decide +kernel
theorem dX1_init_67 : decode cX1_init 67 = .ok (.iconst 0, 1) := by decide +kernel
theorem dX1_init_68 : decode cX1_init 68 = .ok (.putfield 35, 3) := by decide +kernel
theorem dX1_init_71 : decode cX1_init 71 = .ok (.aload_n 0, 1) := by decide +kernel
theorem dX1_init_72 : decode cX1_init 72 = .ok (.iconst 0, 1) := by decide +kernel
theorem dX1_init_73 : decode cX1_init 73 = .ok (.putfield 39, 3) := by decide +kernel
theorem dX1_init_76 : decode cX1_init 76 = .ok (.return_, 1) := by decide +kernel
set_option maxRecDepth 20000 in
theorem ggX1_lay_X1_opensPage : GoodIn wsX1_lay wsX1_opensPage := goodIn_r _ [10, 11, 12, 3, 13, 14, 15, 16, 53, 54, 55, 56, 57, 58, 59, 60, 61, 62, 63, 64, 65] (by decide +kernel) (by decide +kernel)
set_option maxRecDepth 20000 in
theorem gX1_lay_X1_opensPage : GoodIn wsX1_lay (wsV RX1 48 RX1 yX1_opensPage wsX1_opensPage) := goodIn_app (goodIn_of _ (by decide +kernel)) ggX1_lay_X1_opensPage
set_option maxRecDepth 20000 in
theorem ggX1_lay_X1_turnPage : GoodIn wsX1_lay wsX1_turnPage := goodIn_r _ [20, 13, 11, 3, 21, 22, 23, 9, 24, 25, 12, 26, 14, 15, 16, 27, 28, 29, 53, 54, 55, 56, 57, 58, 59, 60, 61, 62, 63, 64, 65] (by decide +kernel) (by decide +kernel)
set_option maxRecDepth 20000 in
theorem gX1_lay_X1_turnPage : GoodIn wsX1_lay (wsV RX1 52 RX1 yX1_turnPage wsX1_turnPage) := goodIn_app (goodIn_of _ (by decide +kernel)) ggX1_lay_X1_turnPage
set_option maxRecDepth 20000 in
theorem ggX1_lay_X1_putLine : GoodIn wsX1_lay wsX1_putLine := goodIn_r _ [33, 34, 3, 12, 35, 36, 11, 37, 38, 39, 9, 40, 14, 15, 16, 41, 42, 43, 44, 26, 13, 57, 58, 59, 60, 61, 62, 63, 64, 65, 53, 54, 55, 56] (by decide +kernel) (by decide +kernel)
set_option maxRecDepth 20000 in
theorem gX1_lay_X1_putLine : GoodIn wsX1_lay (wsV RX1 56 RX1 yX1_putLine wsX1_putLine) := goodIn_app (goodIn_of _ (by decide +kernel)) ggX1_lay_X1_putLine
set_option maxRecDepth 20000 in
theorem ggX1_lay_X1_headOf : GoodIn wsX1_lay wsX1_headOf := goodIn_r _ [48, 12, 13, 11, 25, 14, 15, 16, 27, 28, 9, 29, 49, 50, 51, 52, 26, 37, 38, 39, 40, 36, 57, 58, 59, 60, 61, 62, 63, 64, 65, 53, 54, 55, 56] (by decide +kernel) (by decide +kernel)
set_option maxRecDepth 20000 in
theorem gX1_lay_X1_headOf : GoodIn wsX1_lay (wsV RX1 59 RX1 yX1_headOf wsX1_headOf) := goodIn_app (goodIn_of _ (by decide +kernel)) ggX1_lay_X1_headOf
theorem dX1_lay_0 : decode cX1_lay 0 = .ok (.aload_n 0, 1) := by decide +kernel
theorem dX1_lay_1 : decode cX1_lay 1 = .ok (.aload_n 1, 1) := by decide +kernel
theorem dX1_lay_2 : decode cX1_lay 2 = .ok (.getfield 42, 3) := by decide +kernel
theorem dX1_lay_5 : decode cX1_lay 5 = .ok (.putfield 35, 3) := by decide +kernel
theorem dX1_lay_8 : decode cX1_lay 8 = .ok (.aload_n 0, 1) := by decide +kernel
theorem dX1_lay_9 : decode cX1_lay 9 = .ok (.iconst 0, 1) := by decide +kernel
theorem dX1_lay_10 : decode cX1_lay 10 = .ok (.putfield 39, 3) := by decide +kernel
theorem dX1_lay_13 : decode cX1_lay 13 = .ok (.iconst 0, 1) := by decide +kernel
theorem dX1_lay_14 : decode cX1_lay 14 = .ok (.istore 4, 2) := by decide +kernel
theorem dX1_lay_16 : decode cX1_lay 16 = .ok (.iload 4, 2) := by decide +kernel
theorem dX1_lay_18 : decode cX1_lay 18 = .ok (.aload_n 0, 1) := by decide +kernel
theorem dX1_lay_19 : decode cX1_lay 19 = .ok (.getfield 35, 3) := by decide +kernel
theorem dX1_lay_22 : decode cX1_lay 22 = .ok (.if_icmp .ge 81, 3) := by decide +kernel
theorem dX1_lay_25 : decode cX1_lay 25 = .ok (.aload_n 1, 1) := by decide +kernel
theorem dX1_lay_26 : decode cX1_lay 26 = .ok (.getfield 45, 3) := by decide +kernel
theorem dX1_lay_29 : decode cX1_lay 29 = .ok (.iload 4, 2) := by decide +kernel
theorem dX1_lay_31 : decode cX1_lay 31 = .ok (.iaload, 1) := by decide +kernel
theorem dX1_lay_32 : decode cX1_lay 32 = .ok (.iconst 1, 1) := by decide +kernel
theorem dX1_lay_33 : decode cX1_lay 33 = .ok (.if_icmp .ne 7, 3) := by decide +kernel
theorem dX1_lay_36 : decode cX1_lay 36 = .ok (.iconst 1, 1) := by decide +kernel
theorem dX1_lay_37 : decode cX1_lay 37 = .ok (.goto 4, 3) := by decide +kernel
theorem dX1_lay_40 : decode cX1_lay 40 = .ok (.iconst 0, 1) := by decide +kernel
theorem dX1_lay_41 : decode cX1_lay 41 = .ok (.iload 4, 2) := by decide +kernel
theorem dX1_lay_43 : decode cX1_lay 43 = .ok (.iload_n 3, 1) := by decide +kernel
theorem dX1_lay_44 : decode cX1_lay 44 = .ok (.if_icmp .ne 7, 3) := by decide +kernel
theorem dX1_lay_47 : decode cX1_lay 47 = .ok (.iconst 1, 1) := by decide +kernel
theorem dX1_lay_48 : decode cX1_lay 48 = .ok (.goto 4, 3) := by decide +kernel
theorem dX1_lay_51 : decode cX1_lay 51 = .ok (.iconst 0, 1) := by decide +kernel
theorem dX1_lay_52 : decode cX1_lay 52 = .ok (.if_icmp .eq 7, 3) := by decide +kernel
theorem dX1_lay_55 : decode cX1_lay 55 = .ok (.iconst 1, 1) := by decide +kernel
theorem dX1_lay_56 : decode cX1_lay 56 = .ok (.goto 4, 3) := by decide +kernel
theorem dX1_lay_59 : decode cX1_lay 59 = .ok (.iconst 0, 1) := by decide +kernel
theorem dX1_lay_60 : decode cX1_lay 60 = .ok (.istore 5, 2) := by decide +kernel
theorem dX1_lay_62 : decode cX1_lay 62 = .ok (.iload 4, 2) := by decide +kernel
theorem dX1_lay_64 : decode cX1_lay 64 = .ok (.ifCond .eq 19, 3) := by decide +kernel
theorem dX1_lay_67 : decode cX1_lay 67 = .ok (.iload 5, 2) := by decide +kernel
theorem dX1_lay_69 : decode cX1_lay 69 = .ok (.ifCond .ne 14, 3) := by decide +kernel
theorem dX1_lay_72 : decode cX1_lay 72 = .ok (.aload_n 0, 1) := by decide +kernel
theorem dX1_lay_73 : decode cX1_lay 73 = .ok (.aload_n 1, 1) := by decide +kernel
theorem dX1_lay_74 : decode cX1_lay 74 = .ok (.iload 4, 2) := by decide +kernel
theorem dX1_lay_76 : decode cX1_lay 76 = .ok (.iload_n 2, 1) := by decide +kernel
theorem dX1_lay_77 : decode cX1_lay 77 = .ok (.invokevirtual 48, 3) := by decide +kernel
theorem dX1_lay_80 : decode cX1_lay 80 = .ok (.ifCond .eq 10, 3) := by decide +kernel
theorem dX1_lay_83 : decode cX1_lay 83 = .ok (.aload_n 0, 1) := by decide +kernel
theorem dX1_lay_84 : decode cX1_lay 84 = .ok (.aload_n 1, 1) := by decide +kernel
theorem dX1_lay_85 : decode cX1_lay 85 = .ok (.iload 4, 2) := by decide +kernel
theorem dX1_lay_87 : decode cX1_lay 87 = .ok (.invokevirtual 52, 3) := by decide +kernel
theorem dX1_lay_90 : decode cX1_lay 90 = .ok (.aload_n 0, 1) := by decide +kernel
theorem dX1_lay_91 : decode cX1_lay 91 = .ok (.aload_n 1, 1) := by decide +kernel
theorem dX1_lay_92 : decode cX1_lay 92 = .ok (.iload 4, 2) := by decide +kernel
theorem dX1_lay_94 : decode cX1_lay 94 = .ok (.invokevirtual 56, 3) := by decide +kernel
theorem dX1_lay_97 : decode cX1_lay 97 = .ok (.iinc 4 1, 3) := by decide +kernel
theorem dX1_lay_100 : decode cX1_lay 100 = .ok (.goto (-84), 3) := by decide +kernel
theorem dX1_lay_103 : decode cX1_lay 103 = .ok (.iconst 1, 1) := by decide +kernel
theorem dX1_lay_104 : decode cX1_lay 104 = .ok (.istore 4, 2) := by decide +kernel
theorem dX1_lay_106 : decode cX1_lay 106 = .ok (.iload 4, 2) := by decide +kernel
theorem dX1_lay_108 : decode cX1_lay 108 = .ok (.aload_n 0, 1) := by decide +kernel
theorem dX1_lay_109 : decode cX1_lay 109 = .ok (.getfield 39, 3) := by decide +kernel
theorem dX1_lay_112 : decode cX1_lay 112 = .ok (.if_icmp .gt 23, 3) := by decide +kernel
theorem dX1_lay_115 : decode cX1_lay 115 = .ok (.aload_n 0, 1) := by decide +kernel
theorem dX1_lay_116 : decode cX1_lay 116 = .ok (.getfield 32, 3) := by decide +kernel
theorem dX1_lay_119 : decode cX1_lay 119 = .ok (.iload 4, 2) := by decide +kernel
theorem dX1_lay_121 : decode cX1_lay 121 = .ok (.aload_n 0, 1) := by decide +kernel
theorem dX1_lay_122 : decode cX1_lay 122 = .ok (.aload_n 1, 1) := by decide +kernel
theorem dX1_lay_123 : decode cX1_lay 123 = .ok (.iload 4, 2) := by decide +kernel
theorem dX1_lay_125 : decode cX1_lay 125 = .ok (.invokevirtual 59, 3) := by decide +kernel
theorem dX1_lay_128 : decode cX1_lay 128 = .ok (.iastore, 1) := by decide +kernel
theorem dX1_lay_129 : decode cX1_lay 129 = .ok (.iinc 4 1, 3) := by decide +kernel
theorem dX1_lay_132 : decode cX1_lay 132 = .ok (.goto (-26), 3) := by decide +kernel
theorem dX1_lay_135 : decode cX1_lay 135 = .ok (.return_, 1) := by decide +kernel
set_option maxRecDepth 20000 in
theorem ggX1_opensPage_X3_classOf : GoodIn wsX1_opensPage wsX3_classOf := goodIn_r _ [7] (by decide +kernel) (by decide +kernel)
set_option maxRecDepth 20000 in
theorem gX1_opensPage_X3_classOf_n66 : GoodIn wsX1_opensPage (wsX3_classOf) := ggX1_opensPage_X3_classOf
theorem dX1_opensPage_0 : decode cX1_opensPage 0 = .ok (.aload_n 1, 1) := by decide +kernel
theorem dX1_opensPage_1 : decode cX1_opensPage 1 = .ok (.getfield 63, 3) := by decide +kernel
theorem dX1_opensPage_4 : decode cX1_opensPage 4 = .ok (.iload_n 2, 1) := by decide +kernel
theorem dX1_opensPage_5 : decode cX1_opensPage 5 = .ok (.iaload, 1) := by decide +kernel
theorem dX1_opensPage_6 : decode cX1_opensPage 6 = .ok (.invokestatic 66, 3) := by decide +kernel
theorem dX1_opensPage_9 : decode cX1_opensPage 9 = .ok (.istore 4, 2) := by decide +kernel
theorem dX1_opensPage_11 : decode cX1_opensPage 11 = .ok (.iload_n 3, 1) := by decide +kernel
theorem dX1_opensPage_12 : decode cX1_opensPage 12 = .ok (.aload_n 0, 1) := by decide +kernel
theorem dX1_opensPage_13 : decode cX1_opensPage 13 = .ok (.getfield 26, 3) := by decide +kernel
theorem dX1_opensPage_16 : decode cX1_opensPage 16 = .ok (.aload_n 0, 1) := by decide +kernel
theorem dX1_opensPage_17 : decode cX1_opensPage 17 = .ok (.getfield 39, 3) := by decide +kernel
theorem dX1_opensPage_20 : decode cX1_opensPage 20 = .ok (.iaload, 1) := by decide +kernel
theorem dX1_opensPage_21 : decode cX1_opensPage 21 = .ok (.isub, 1) := by decide +kernel
theorem dX1_opensPage_22 : decode cX1_opensPage 22 = .ok (.iconst 1, 1) := by decide +kernel
theorem dX1_opensPage_23 : decode cX1_opensPage 23 = .ok (.isub, 1) := by decide +kernel
theorem dX1_opensPage_24 : decode cX1_opensPage 24 = .ok (.istore 5, 2) := by decide +kernel
theorem dX1_opensPage_26 : decode cX1_opensPage 26 = .ok (.iload 5, 2) := by decide +kernel
theorem dX1_opensPage_28 : decode cX1_opensPage 28 = .ok (.ifCond .lt 35, 3) := by decide +kernel
theorem dX1_opensPage_31 : decode cX1_opensPage 31 = .ok (.iload 4, 2) := by decide +kernel
theorem dX1_opensPage_33 : decode cX1_opensPage 33 = .ok (.ifCond .ne 12, 3) := by decide +kernel
theorem dX1_opensPage_36 : decode cX1_opensPage 36 = .ok (.aload_n 1, 1) := by decide +kernel
theorem dX1_opensPage_37 : decode cX1_opensPage 37 = .ok (.getfield 70, 3) := by decide +kernel
theorem dX1_opensPage_40 : decode cX1_opensPage 40 = .ok (.iconst 1, 1) := by decide +kernel
theorem dX1_opensPage_41 : decode cX1_opensPage 41 = .ok (.iaload, 1) := by decide +kernel
theorem dX1_opensPage_42 : decode cX1_opensPage 42 = .ok (.ifCond .ne 21, 3) := by decide +kernel
theorem dX1_opensPage_45 : decode cX1_opensPage 45 = .ok (.iload 4, 2) := by decide +kernel
theorem dX1_opensPage_47 : decode cX1_opensPage 47 = .ok (.bipush (-6), 2) := by decide +kernel
theorem dX1_opensPage_49 : decode cX1_opensPage 49 = .ok (.if_icmp .eq 18, 3) := by decide +kernel
theorem dX1_opensPage_52 : decode cX1_opensPage 52 = .ok (.iload 5, 2) := by decide +kernel
theorem dX1_opensPage_54 : decode cX1_opensPage 54 = .ok (.aload_n 1, 1) := by decide +kernel
theorem dX1_opensPage_55 : decode cX1_opensPage 55 = .ok (.getfield 70, 3) := by decide +kernel
theorem dX1_opensPage_58 : decode cX1_opensPage 58 = .ok (.iconst 2, 1) := by decide +kernel
theorem dX1_opensPage_59 : decode cX1_opensPage 59 = .ok (.iaload, 1) := by decide +kernel
theorem dX1_opensPage_60 : decode cX1_opensPage 60 = .ok (.if_icmp .ge 7, 3) := by decide +kernel
theorem dX1_opensPage_63 : decode cX1_opensPage 63 = .ok (.iconst 1, 1) := by decide +kernel
theorem dX1_opensPage_64 : decode cX1_opensPage 64 = .ok (.goto 4, 3) := by decide +kernel
theorem dX1_opensPage_67 : decode cX1_opensPage 67 = .ok (.iconst 0, 1) := by decide +kernel
theorem dX1_opensPage_68 : decode cX1_opensPage 68 = .ok (.ireturn, 1) := by decide +kernel
set_option maxRecDepth 20000 in
theorem ggX1_turnPage_X1_addPage : GoodIn wsX1_turnPage wsX1_addPage := goodIn_r _ [8, 3, 9, 10, 11, 22, 23, 24, 25, 26, 27, 28, 29, 30] (by decide +kernel) (by decide +kernel)
set_option maxRecDepth 20000 in
theorem gX1_turnPage_X1_addPage : GoodIn wsX1_turnPage (wsV RX1 73 RX1 yX1_addPage wsX1_addPage) := goodIn_app (goodIn_of _ (by decide +kernel)) ggX1_turnPage_X1_addPage
set_option maxRecDepth 20000 in
theorem ggX1_turnPage_X3_classOf : GoodIn wsX1_turnPage wsX3_classOf := goodIn_r _ [14] (by decide +kernel) (by decide +kernel)
set_option maxRecDepth 20000 in
theorem gX1_turnPage_X3_classOf_n66 : GoodIn wsX1_turnPage (wsX3_classOf) := ggX1_turnPage_X3_classOf
set_option maxRecDepth 20000 in
theorem ggX1_turnPage_X1_isLeft : GoodIn wsX1_turnPage wsX1_isLeft := goodIn_r _ [17] (by decide +kernel) (by decide +kernel)
set_option maxRecDepth 20000 in
theorem gX1_turnPage_X1_isLeft : GoodIn wsX1_turnPage (va_wsS RX1 77 yX1_isLeft wsX1_isLeft) := goodIn_app (goodIn_of _ (by decide +kernel)) ggX1_turnPage_X1_isLeft
theorem dX1_turnPage_0 : decode cX1_turnPage 0 = .ok (.aload_n 0, 1) := by decide +kernel
theorem dX1_turnPage_1 : decode cX1_turnPage 1 = .ok (.iload_n 2, 1) := by decide +kernel
theorem dX1_turnPage_2 : decode cX1_turnPage 2 = .ok (.invokevirtual 73, 3) := by decide +kernel
theorem dX1_turnPage_5 : decode cX1_turnPage 5 = .ok (.aload_n 1, 1) := by decide +kernel
theorem dX1_turnPage_6 : decode cX1_turnPage 6 = .ok (.getfield 70, 3) := by decide +kernel
theorem dX1_turnPage_9 : decode cX1_turnPage 9 = .ok (.iconst 1, 1) := by decide +kernel
theorem dX1_turnPage_10 : decode cX1_turnPage 10 = .ok (.iaload, 1) := by decide +kernel
theorem dX1_turnPage_11 : decode cX1_turnPage 11 = .ok (.iconst 2, 1) := by decide +kernel
theorem dX1_turnPage_12 : decode cX1_turnPage 12 = .ok (.if_icmp .ne 19, 3) := by decide +kernel
theorem dX1_turnPage_15 : decode cX1_turnPage 15 = .ok (.aload_n 1, 1) := by decide +kernel
theorem dX1_turnPage_16 : decode cX1_turnPage 16 = .ok (.getfield 63, 3) := by decide +kernel
theorem dX1_turnPage_19 : decode cX1_turnPage 19 = .ok (.iload_n 2, 1) := by decide +kernel
theorem dX1_turnPage_20 : decode cX1_turnPage 20 = .ok (.iaload, 1) := by decide +kernel
theorem dX1_turnPage_21 : decode cX1_turnPage 21 = .ok (.invokestatic 66, 3) := by decide +kernel
theorem dX1_turnPage_24 : decode cX1_turnPage 24 = .ok (.ifCond .ne 7, 3) := by decide +kernel
theorem dX1_turnPage_27 : decode cX1_turnPage 27 = .ok (.iconst 1, 1) := by decide +kernel
theorem dX1_turnPage_28 : decode cX1_turnPage 28 = .ok (.goto 4, 3) := by decide +kernel
theorem dX1_turnPage_31 : decode cX1_turnPage 31 = .ok (.iconst 0, 1) := by decide +kernel
theorem dX1_turnPage_32 : decode cX1_turnPage 32 = .ok (.istore_n 3, 1) := by decide +kernel
theorem dX1_turnPage_33 : decode cX1_turnPage 33 = .ok (.iload_n 3, 1) := by decide +kernel
theorem dX1_turnPage_34 : decode cX1_turnPage 34 = .ok (.ifCond .eq 18, 3) := by decide +kernel
theorem dX1_turnPage_37 : decode cX1_turnPage 37 = .ok (.aload_n 0, 1) := by decide +kernel
theorem dX1_turnPage_38 : decode cX1_turnPage 38 = .ok (.getfield 39, 3) := by decide +kernel
theorem dX1_turnPage_41 : decode cX1_turnPage 41 = .ok (.invokestatic 77, 3) := by decide +kernel
theorem dX1_turnPage_44 : decode cX1_turnPage 44 = .ok (.ifCond .eq 8, 3) := by decide +kernel
theorem dX1_turnPage_47 : decode cX1_turnPage 47 = .ok (.aload_n 0, 1) := by decide +kernel
theorem dX1_turnPage_48 : decode cX1_turnPage 48 = .ok (.iload_n 2, 1) := by decide +kernel
theorem dX1_turnPage_49 : decode cX1_turnPage 49 = .ok (.invokevirtual 73, 3) := by decide +kernel
theorem dX1_turnPage_52 : decode cX1_turnPage 52 = .ok (.return_, 1) := by decide +kernel
theorem dX1_addPage_0 : decode cX1_addPage 0 = .ok (.aload_n 0, 1) := by decide +kernel
theorem dX1_addPage_1 : decode cX1_addPage 1 = .ok (.dup, 1) := by decide +kernel
theorem dX1_addPage_2 : decode cX1_addPage 2 = .ok (.getfield 39, 3) := by decide +kernel
theorem dX1_addPage_5 : decode cX1_addPage 5 = .ok (.iconst 1, 1) := by decide +kernel
theorem dX1_addPage_6 : decode cX1_addPage 6 = .ok (.iadd, 1) := by decide +kernel
theorem dX1_addPage_7 : decode cX1_addPage 7 = .ok (.putfield 39, 3) := by decide +kernel
theorem dX1_addPage_10 : decode cX1_addPage 10 = .ok (.aload_n 0, 1) := by decide +kernel
theorem dX1_addPage_11 : decode cX1_addPage 11 = .ok (.getfield 23, 3) := by decide +kernel
theorem dX1_addPage_14 : decode cX1_addPage 14 = .ok (.aload_n 0, 1) := by decide +kernel
theorem dX1_addPage_15 : decode cX1_addPage 15 = .ok (.getfield 39, 3) := by decide +kernel
theorem dX1_addPage_18 : decode cX1_addPage 18 = .ok (.iload_n 1, 1) := by decide +kernel
theorem dX1_addPage_19 : decode cX1_addPage 19 = .ok (.iastore, 1) := by decide +kernel
theorem dX1_addPage_20 : decode cX1_addPage 20 = .ok (.aload_n 0, 1) := by decide +kernel
theorem dX1_addPage_21 : decode cX1_addPage 21 = .ok (.getfield 26, 3) := by decide +kernel
theorem dX1_addPage_24 : decode cX1_addPage 24 = .ok (.aload_n 0, 1) := by decide +kernel
theorem dX1_addPage_25 : decode cX1_addPage 25 = .ok (.getfield 39, 3) := by decide +kernel
theorem dX1_addPage_28 : decode cX1_addPage 28 = .ok (.iconst 0, 1) := by decide +kernel
theorem dX1_addPage_29 : decode cX1_addPage 29 = .ok (.iastore, 1) := by decide +kernel
theorem dX1_addPage_30 : decode cX1_addPage 30 = .ok (.iconst 0, 1) := by decide +kernel
theorem dX1_addPage_31 : decode cX1_addPage 31 = .ok (.istore_n 2, 1) := by decide +kernel
theorem dX1_addPage_32 : decode cX1_addPage 32 = .ok (.iload_n 2, 1) := by decide +kernel
theorem dX1_addPage_33 : decode cX1_addPage 33 = .ok (.iconst 2, 1) := by decide +kernel
theorem dX1_addPage_34 : decode cX1_addPage 34 = .ok (.if_icmp .ge 22, 3) := by decide +kernel
theorem dX1_addPage_37 : decode cX1_addPage 37 = .ok (.aload_n 0, 1) := by decide +kernel
theorem dX1_addPage_38 : decode cX1_addPage 38 = .ok (.getfield 29, 3) := by decide +kernel
theorem dX1_addPage_41 : decode cX1_addPage 41 = .ok (.iload_n 2, 1) := by decide +kernel
theorem dX1_addPage_42 : decode cX1_addPage 42 = .ok (.aaload, 1) := by decide +kernel
theorem dX1_addPage_43 : decode cX1_addPage 43 = .ok (.aload_n 0, 1) := by decide +kernel
theorem dX1_addPage_44 : decode cX1_addPage 44 = .ok (.getfield 39, 3) := by decide +kernel
theorem dX1_addPage_47 : decode cX1_addPage 47 = .ok (.bipush (-6), 2) := by decide +kernel
theorem dX1_addPage_49 : decode cX1_addPage 49 = .ok (.iastore, 1) := by decide +kernel
theorem dX1_addPage_50 : decode cX1_addPage 50 = .ok (.iinc 2 1, 3) := by decide +kernel
theorem dX1_addPage_53 : decode cX1_addPage 53 = .ok (.goto (-21), 3) := by decide +kernel
theorem dX1_addPage_56 : decode cX1_addPage 56 = .ok (.return_, 1) := by decide +kernel
set_option maxRecDepth 20000 in
theorem ggX1_putLine_X1_forceBehind : GoodIn wsX1_putLine wsX1_forceBehind := goodIn_r _ [11, 5, 21, 22, 23, 24, 25, 26, 27, 28, 29] (by decide +kernel) (by decide +kernel)
set_option maxRecDepth 20000 in
theorem gX1_putLine_X1_forceBehind : GoodIn wsX1_putLine (wsV RX1 81 RX1 yX1_forceBehind wsX1_forceBehind) := goodIn_app (goodIn_of _ (by decide +kernel)) ggX1_putLine_X1_forceBehind
set_option maxRecDepth 20000 in
theorem ggX1_putLine_X3_classOf : GoodIn wsX1_putLine wsX3_classOf := goodIn_r _ [14] (by decide +kernel) (by decide +kernel)
set_option maxRecDepth 20000 in
theorem gX1_putLine_X3_classOf_n66 : GoodIn wsX1_putLine (wsX3_classOf) := ggX1_putLine_X3_classOf
set_option maxRecDepth 20000 in
theorem ggX1_putLine_X1_putMark : GoodIn wsX1_putLine wsX1_putMark := goodIn_r _ [18, 5, 6, 19, 2, 4, 20, 21, 22, 23, 24, 25, 26, 27, 28, 29, 30, 31, 32, 33] (by decide +kernel) (by decide +kernel)
set_option maxRecDepth 20000 in
theorem gX1_putLine_X1_putMark : GoodIn wsX1_putLine (wsV RX1 85 RX1 yX1_putMark wsX1_putMark) := goodIn_app (goodIn_of _ (by decide +kernel)) ggX1_putLine_X1_putMark
theorem dX1_putLine_0 : decode cX1_putLine 0 = .ok (.aload_n 0, 1) := by decide +kernel
theorem dX1_putLine_1 : decode cX1_putLine 1 = .ok (.getfield 9, 3) := by decide +kernel
theorem dX1_putLine_4 : decode cX1_putLine 4 = .ok (.iload_n 2, 1) := by decide +kernel
theorem dX1_putLine_5 : decode cX1_putLine 5 = .ok (.aload_n 0, 1) := by decide +kernel
theorem dX1_putLine_6 : decode cX1_putLine 6 = .ok (.getfield 39, 3) := by decide +kernel
theorem dX1_putLine_9 : decode cX1_putLine 9 = .ok (.iastore, 1) := by decide +kernel
theorem dX1_putLine_10 : decode cX1_putLine 10 = .ok (.aload_n 0, 1) := by decide +kernel
theorem dX1_putLine_11 : decode cX1_putLine 11 = .ok (.getfield 26, 3) := by decide +kernel
theorem dX1_putLine_14 : decode cX1_putLine 14 = .ok (.aload_n 0, 1) := by decide +kernel
theorem dX1_putLine_15 : decode cX1_putLine 15 = .ok (.getfield 39, 3) := by decide +kernel
theorem dX1_putLine_18 : decode cX1_putLine 18 = .ok (.dup2, 1) := by decide +kernel
theorem dX1_putLine_19 : decode cX1_putLine 19 = .ok (.iaload, 1) := by decide +kernel
theorem dX1_putLine_20 : decode cX1_putLine 20 = .ok (.iconst 1, 1) := by decide +kernel
theorem dX1_putLine_21 : decode cX1_putLine 21 = .ok (.iadd, 1) := by decide +kernel
theorem dX1_putLine_22 : decode cX1_putLine 22 = .ok (.iastore, 1) := by decide +kernel
theorem dX1_putLine_23 : decode cX1_putLine 23 = .ok (.aload_n 0, 1) := by decide +kernel
theorem dX1_putLine_24 : decode cX1_putLine 24 = .ok (.getfield 15, 3) := by decide +kernel
theorem dX1_putLine_27 : decode cX1_putLine 27 = .ok (.iload_n 2, 1) := by decide +kernel
theorem dX1_putLine_28 : decode cX1_putLine 28 = .ok (.iload_n 2, 1) := by decide +kernel
theorem dX1_putLine_29 : decode cX1_putLine 29 = .ok (.ifCond .ne 7, 3) := by decide +kernel
theorem dX1_putLine_32 : decode cX1_putLine 32 = .ok (.iconst (-1), 1) := by decide +kernel
theorem dX1_putLine_33 : decode cX1_putLine 33 = .ok (.goto 11, 3) := by decide +kernel
theorem dX1_putLine_36 : decode cX1_putLine 36 = .ok (.aload_n 0, 1) := by decide +kernel
theorem dX1_putLine_37 : decode cX1_putLine 37 = .ok (.getfield 15, 3) := by decide +kernel
theorem dX1_putLine_40 : decode cX1_putLine 40 = .ok (.iload_n 2, 1) := by decide +kernel
theorem dX1_putLine_41 : decode cX1_putLine 41 = .ok (.iconst 1, 1) := by decide +kernel
theorem dX1_putLine_42 : decode cX1_putLine 42 = .ok (.isub, 1) := by decide +kernel
theorem dX1_putLine_43 : decode cX1_putLine 43 = .ok (.iaload, 1) := by decide +kernel
theorem dX1_putLine_44 : decode cX1_putLine 44 = .ok (.iastore, 1) := by decide +kernel
theorem dX1_putLine_45 : decode cX1_putLine 45 = .ok (.iconst 0, 1) := by decide +kernel
theorem dX1_putLine_46 : decode cX1_putLine 46 = .ok (.istore_n 3, 1) := by decide +kernel
theorem dX1_putLine_47 : decode cX1_putLine 47 = .ok (.iload_n 3, 1) := by decide +kernel
theorem dX1_putLine_48 : decode cX1_putLine 48 = .ok (.iconst 2, 1) := by decide +kernel
theorem dX1_putLine_49 : decode cX1_putLine 49 = .ok (.if_icmp .ge 23, 3) := by decide +kernel
theorem dX1_putLine_52 : decode cX1_putLine 52 = .ok (.aload_n 0, 1) := by decide +kernel
theorem dX1_putLine_53 : decode cX1_putLine 53 = .ok (.getfield 20, 3) := by decide +kernel
theorem dX1_putLine_56 : decode cX1_putLine 56 = .ok (.iload_n 3, 1) := by decide +kernel
theorem dX1_putLine_57 : decode cX1_putLine 57 = .ok (.aaload, 1) := by decide +kernel
theorem dX1_putLine_58 : decode cX1_putLine 58 = .ok (.iload_n 2, 1) := by decide +kernel
theorem dX1_putLine_59 : decode cX1_putLine 59 = .ok (.aload_n 0, 1) := by decide +kernel
theorem dX1_putLine_60 : decode cX1_putLine 60 = .ok (.iload_n 3, 1) := by decide +kernel
theorem dX1_putLine_61 : decode cX1_putLine 61 = .ok (.iload_n 2, 1) := by decide +kernel
theorem dX1_putLine_62 : decode cX1_putLine 62 = .ok (.invokevirtual 81, 3) := by decide +kernel
theorem dX1_putLine_65 : decode cX1_putLine 65 = .ok (.iastore, 1) := by decide +kernel
theorem dX1_putLine_66 : decode cX1_putLine 66 = .ok (.iinc 3 1, 3) := by decide +kernel
theorem dX1_putLine_69 : decode cX1_putLine 69 = .ok (.goto (-22), 3) := by decide +kernel
theorem dX1_putLine_72 : decode cX1_putLine 72 = .ok (.aload_n 1, 1) := by decide +kernel
theorem dX1_putLine_73 : decode cX1_putLine 73 = .ok (.getfield 63, 3) := by decide +kernel
theorem dX1_putLine_76 : decode cX1_putLine 76 = .ok (.iload_n 2, 1) := by decide +kernel
theorem dX1_putLine_77 : decode cX1_putLine 77 = .ok (.iaload, 1) := by decide +kernel
theorem dX1_putLine_78 : decode cX1_putLine 78 = .ok (.invokestatic 66, 3) := by decide +kernel
theorem dX1_putLine_81 : decode cX1_putLine 81 = .ok (.istore_n 3, 1) := by decide +kernel
theorem dX1_putLine_82 : decode cX1_putLine 82 = .ok (.iload_n 3, 1) := by decide +kernel
theorem dX1_putLine_83 : decode cX1_putLine 83 = .ok (.bipush (-6), 2) := by decide +kernel
theorem dX1_putLine_85 : decode cX1_putLine 85 = .ok (.if_icmp .eq 10, 3) := by decide +kernel
theorem dX1_putLine_88 : decode cX1_putLine 88 = .ok (.aload_n 0, 1) := by decide +kernel
theorem dX1_putLine_89 : decode cX1_putLine 89 = .ok (.aload_n 1, 1) := by decide +kernel
theorem dX1_putLine_90 : decode cX1_putLine 90 = .ok (.iload_n 2, 1) := by decide +kernel
theorem dX1_putLine_91 : decode cX1_putLine 91 = .ok (.iload_n 3, 1) := by decide +kernel
theorem dX1_putLine_92 : decode cX1_putLine 92 = .ok (.invokevirtual 85, 3) := by decide +kernel
theorem dX1_putLine_95 : decode cX1_putLine 95 = .ok (.return_, 1) := by decide +kernel
theorem dX1_putMark_0 : decode cX1_putMark 0 = .ok (.aload_n 0, 1) := by decide +kernel
theorem dX1_putMark_1 : decode cX1_putMark 1 = .ok (.getfield 20, 3) := by decide +kernel
theorem dX1_putMark_4 : decode cX1_putMark 4 = .ok (.iload_n 3, 1) := by decide +kernel
theorem dX1_putMark_5 : decode cX1_putMark 5 = .ok (.aaload, 1) := by decide +kernel
theorem dX1_putMark_6 : decode cX1_putMark 6 = .ok (.iload_n 2, 1) := by decide +kernel
theorem dX1_putMark_7 : decode cX1_putMark 7 = .ok (.aload_n 1, 1) := by decide +kernel
theorem dX1_putMark_8 : decode cX1_putMark 8 = .ok (.getfield 63, 3) := by decide +kernel
theorem dX1_putMark_11 : decode cX1_putMark 11 = .ok (.iload_n 2, 1) := by decide +kernel
theorem dX1_putMark_12 : decode cX1_putMark 12 = .ok (.iaload, 1) := by decide +kernel
theorem dX1_putMark_13 : decode cX1_putMark 13 = .ok (.iastore, 1) := by decide +kernel
theorem dX1_putMark_14 : decode cX1_putMark 14 = .ok (.aload_n 0, 1) := by decide +kernel
theorem dX1_putMark_15 : decode cX1_putMark 15 = .ok (.getfield 29, 3) := by decide +kernel
theorem dX1_putMark_18 : decode cX1_putMark 18 = .ok (.iload_n 3, 1) := by decide +kernel
theorem dX1_putMark_19 : decode cX1_putMark 19 = .ok (.aaload, 1) := by decide +kernel
theorem dX1_putMark_20 : decode cX1_putMark 20 = .ok (.aload_n 0, 1) := by decide +kernel
theorem dX1_putMark_21 : decode cX1_putMark 21 = .ok (.getfield 39, 3) := by decide +kernel
theorem dX1_putMark_24 : decode cX1_putMark 24 = .ok (.iaload, 1) := by decide +kernel
theorem dX1_putMark_25 : decode cX1_putMark 25 = .ok (.bipush (-6), 2) := by decide +kernel
theorem dX1_putMark_27 : decode cX1_putMark 27 = .ok (.if_icmp .ne 20, 3) := by decide +kernel
theorem dX1_putMark_30 : decode cX1_putMark 30 = .ok (.aload_n 0, 1) := by decide +kernel
theorem dX1_putMark_31 : decode cX1_putMark 31 = .ok (.getfield 29, 3) := by decide +kernel
theorem dX1_putMark_34 : decode cX1_putMark 34 = .ok (.iload_n 3, 1) := by decide +kernel
theorem dX1_putMark_35 : decode cX1_putMark 35 = .ok (.aaload, 1) := by decide +kernel
theorem dX1_putMark_36 : decode cX1_putMark 36 = .ok (.aload_n 0, 1) := by decide +kernel
theorem dX1_putMark_37 : decode cX1_putMark 37 = .ok (.getfield 39, 3) := by decide +kernel
theorem dX1_putMark_40 : decode cX1_putMark 40 = .ok (.aload_n 1, 1) := by decide +kernel
theorem dX1_putMark_41 : decode cX1_putMark 41 = .ok (.getfield 63, 3) := by decide +kernel
theorem dX1_putMark_44 : decode cX1_putMark 44 = .ok (.iload_n 2, 1) := by decide +kernel
theorem dX1_putMark_45 : decode cX1_putMark 45 = .ok (.iaload, 1) := by decide +kernel
theorem dX1_putMark_46 : decode cX1_putMark 46 = .ok (.iastore, 1) := by decide +kernel
theorem dX1_putMark_47 : decode cX1_putMark 47 = .ok (.iload_n 3, 1) := by decide +kernel
theorem dX1_putMark_48 : decode cX1_putMark 48 = .ok (.ifCond .ne 33, 3) := by decide +kernel
theorem dX1_putMark_51 : decode cX1_putMark 51 = .ok (.aload_n 0, 1) := by decide +kernel
theorem dX1_putMark_52 : decode cX1_putMark 52 = .ok (.getfield 15, 3) := by decide +kernel
theorem dX1_putMark_55 : decode cX1_putMark 55 = .ok (.iload_n 2, 1) := by decide +kernel
theorem dX1_putMark_56 : decode cX1_putMark 56 = .ok (.dup2, 1) := by decide +kernel
theorem dX1_putMark_57 : decode cX1_putMark 57 = .ok (.iaload, 1) := by decide +kernel
theorem dX1_putMark_58 : decode cX1_putMark 58 = .ok (.iconst 1, 1) := by decide +kernel
theorem dX1_putMark_59 : decode cX1_putMark 59 = .ok (.iadd, 1) := by decide +kernel
theorem dX1_putMark_60 : decode cX1_putMark 60 = .ok (.iastore, 1) := by decide +kernel
theorem dX1_putMark_61 : decode cX1_putMark 61 = .ok (.aload_n 1, 1) := by decide +kernel
theorem dX1_putMark_62 : decode cX1_putMark 62 = .ok (.getfield 70, 3) := by decide +kernel
theorem dX1_putMark_65 : decode cX1_putMark 65 = .ok (.iconst 3, 1) := by decide +kernel
theorem dX1_putMark_66 : decode cX1_putMark 66 = .ok (.iaload, 1) := by decide +kernel
theorem dX1_putMark_67 : decode cX1_putMark 67 = .ok (.iconst 1, 1) := by decide +kernel
theorem dX1_putMark_68 : decode cX1_putMark 68 = .ok (.if_icmp .ne 13, 3) := by decide +kernel
theorem dX1_putMark_71 : decode cX1_putMark 71 = .ok (.aload_n 0, 1) := by decide +kernel
theorem dX1_putMark_72 : decode cX1_putMark 72 = .ok (.getfield 20, 3) := by decide +kernel
theorem dX1_putMark_75 : decode cX1_putMark 75 = .ok (.iconst 1, 1) := by decide +kernel
theorem dX1_putMark_76 : decode cX1_putMark 76 = .ok (.aaload, 1) := by decide +kernel
theorem dX1_putMark_77 : decode cX1_putMark 77 = .ok (.iload_n 2, 1) := by decide +kernel
theorem dX1_putMark_78 : decode cX1_putMark 78 = .ok (.bipush (-6), 2) := by decide +kernel
theorem dX1_putMark_80 : decode cX1_putMark 80 = .ok (.iastore, 1) := by decide +kernel
theorem dX1_putMark_81 : decode cX1_putMark 81 = .ok (.return_, 1) := by decide +kernel
theorem dX1_forceBehind_0 : decode cX1_forceBehind 0 = .ok (.iload_n 2, 1) := by decide +kernel
theorem dX1_forceBehind_1 : decode cX1_forceBehind 1 = .ok (.ifCond .ne 8, 3) := by decide +kernel
theorem dX1_forceBehind_4 : decode cX1_forceBehind 4 = .ok (.bipush (-6), 2) := by decide +kernel
theorem dX1_forceBehind_6 : decode cX1_forceBehind 6 = .ok (.goto 13, 3) := by decide +kernel
theorem dX1_forceBehind_9 : decode cX1_forceBehind 9 = .ok (.aload_n 0, 1) := by decide +kernel
theorem dX1_forceBehind_10 : decode cX1_forceBehind 10 = .ok (.getfield 20, 3) := by decide +kernel
theorem dX1_forceBehind_13 : decode cX1_forceBehind 13 = .ok (.iload_n 1, 1) := by decide +kernel
theorem dX1_forceBehind_14 : decode cX1_forceBehind 14 = .ok (.aaload, 1) := by decide +kernel
theorem dX1_forceBehind_15 : decode cX1_forceBehind 15 = .ok (.iload_n 2, 1) := by decide +kernel
theorem dX1_forceBehind_16 : decode cX1_forceBehind 16 = .ok (.iconst 1, 1) := by decide +kernel
theorem dX1_forceBehind_17 : decode cX1_forceBehind 17 = .ok (.isub, 1) := by decide +kernel
theorem dX1_forceBehind_18 : decode cX1_forceBehind 18 = .ok (.iaload, 1) := by decide +kernel
theorem dX1_forceBehind_19 : decode cX1_forceBehind 19 = .ok (.ireturn, 1) := by decide +kernel
set_option maxRecDepth 20000 in
theorem ggX1_headOf_X3_classOf : GoodIn wsX1_headOf wsX3_classOf := goodIn_r _ [7] (by decide +kernel) (by decide +kernel)
set_option maxRecDepth 20000 in
theorem gX1_headOf_X3_classOf_n66 : GoodIn wsX1_headOf (wsX3_classOf) := ggX1_headOf_X3_classOf
set_option maxRecDepth 20000 in
theorem ggX1_headOf_X1_isLeft : GoodIn wsX1_headOf wsX1_isLeft := goodIn_r _ [11] (by decide +kernel) (by decide +kernel)
set_option maxRecDepth 20000 in
theorem gX1_headOf_X1_isLeft : GoodIn wsX1_headOf (va_wsS RX1 77 yX1_isLeft wsX1_isLeft) := goodIn_app (goodIn_of _ (by decide +kernel)) ggX1_headOf_X1_isLeft
set_option maxRecDepth 20000 in
theorem ggX1_headOf_X1_markOf : GoodIn wsX1_headOf wsX1_markOf := goodIn_r _ [15, 4, 1, 16, 17, 18, 19, 10, 20, 21, 22, 23, 24, 25, 26, 27, 28, 29, 30] (by decide +kernel) (by decide +kernel)
set_option maxRecDepth 20000 in
theorem gX1_headOf_X1_markOf : GoodIn wsX1_headOf (wsV RX1 89 RX1 yX1_markOf wsX1_markOf) := goodIn_app (goodIn_of _ (by decide +kernel)) ggX1_headOf_X1_markOf
theorem dX1_headOf_0 : decode cX1_headOf 0 = .ok (.aload_n 0, 1) := by decide +kernel
theorem dX1_headOf_1 : decode cX1_headOf 1 = .ok (.getfield 26, 3) := by decide +kernel
theorem dX1_headOf_4 : decode cX1_headOf 4 = .ok (.iload_n 2, 1) := by decide +kernel
theorem dX1_headOf_5 : decode cX1_headOf 5 = .ok (.iaload, 1) := by decide +kernel
theorem dX1_headOf_6 : decode cX1_headOf 6 = .ok (.ifCond .ne 6, 3) := by decide +kernel
theorem dX1_headOf_9 : decode cX1_headOf 9 = .ok (.bipush (-6), 2) := by decide +kernel
theorem dX1_headOf_11 : decode cX1_headOf 11 = .ok (.ireturn, 1) := by decide +kernel
theorem dX1_headOf_12 : decode cX1_headOf 12 = .ok (.aload_n 1, 1) := by decide +kernel
theorem dX1_headOf_13 : decode cX1_headOf 13 = .ok (.getfield 70, 3) := by decide +kernel
theorem dX1_headOf_16 : decode cX1_headOf 16 = .ok (.iconst 4, 1) := by decide +kernel
theorem dX1_headOf_17 : decode cX1_headOf 17 = .ok (.iaload, 1) := by decide +kernel
theorem dX1_headOf_18 : decode cX1_headOf 18 = .ok (.iconst 1, 1) := by decide +kernel
theorem dX1_headOf_19 : decode cX1_headOf 19 = .ok (.if_icmp .ne 23, 3) := by decide +kernel
theorem dX1_headOf_22 : decode cX1_headOf 22 = .ok (.aload_n 1, 1) := by decide +kernel
theorem dX1_headOf_23 : decode cX1_headOf 23 = .ok (.getfield 63, 3) := by decide +kernel
theorem dX1_headOf_26 : decode cX1_headOf 26 = .ok (.aload_n 0, 1) := by decide +kernel
theorem dX1_headOf_27 : decode cX1_headOf 27 = .ok (.getfield 23, 3) := by decide +kernel
theorem dX1_headOf_30 : decode cX1_headOf 30 = .ok (.iload_n 2, 1) := by decide +kernel
theorem dX1_headOf_31 : decode cX1_headOf 31 = .ok (.iaload, 1) := by decide +kernel
theorem dX1_headOf_32 : decode cX1_headOf 32 = .ok (.iaload, 1) := by decide +kernel
theorem dX1_headOf_33 : decode cX1_headOf 33 = .ok (.invokestatic 66, 3) := by decide +kernel
theorem dX1_headOf_36 : decode cX1_headOf 36 = .ok (.ifCond .ne 6, 3) := by decide +kernel
theorem dX1_headOf_39 : decode cX1_headOf 39 = .ok (.bipush (-6), 2) := by decide +kernel
theorem dX1_headOf_41 : decode cX1_headOf 41 = .ok (.ireturn, 1) := by decide +kernel
theorem dX1_headOf_42 : decode cX1_headOf 42 = .ok (.iload_n 2, 1) := by decide +kernel
theorem dX1_headOf_43 : decode cX1_headOf 43 = .ok (.invokestatic 77, 3) := by decide +kernel
theorem dX1_headOf_46 : decode cX1_headOf 46 = .ok (.ifCond .eq 12, 3) := by decide +kernel
theorem dX1_headOf_49 : decode cX1_headOf 49 = .ok (.aload_n 1, 1) := by decide +kernel
theorem dX1_headOf_50 : decode cX1_headOf 50 = .ok (.getfield 70, 3) := by decide +kernel
theorem dX1_headOf_53 : decode cX1_headOf 53 = .ok (.iconst 5, 1) := by decide +kernel
theorem dX1_headOf_54 : decode cX1_headOf 54 = .ok (.iaload, 1) := by decide +kernel
theorem dX1_headOf_55 : decode cX1_headOf 55 = .ok (.goto 10, 3) := by decide +kernel
theorem dX1_headOf_58 : decode cX1_headOf 58 = .ok (.aload_n 1, 1) := by decide +kernel
theorem dX1_headOf_59 : decode cX1_headOf 59 = .ok (.getfield 70, 3) := by decide +kernel
theorem dX1_headOf_62 : decode cX1_headOf 62 = .ok (.bipush 6, 2) := by decide +kernel
theorem dX1_headOf_64 : decode cX1_headOf 64 = .ok (.iaload, 1) := by decide +kernel
theorem dX1_headOf_65 : decode cX1_headOf 65 = .ok (.istore_n 3, 1) := by decide +kernel
theorem dX1_headOf_66 : decode cX1_headOf 66 = .ok (.iload_n 2, 1) := by decide +kernel
theorem dX1_headOf_67 : decode cX1_headOf 67 = .ok (.invokestatic 77, 3) := by decide +kernel
theorem dX1_headOf_70 : decode cX1_headOf 70 = .ok (.ifCond .eq 13, 3) := by decide +kernel
theorem dX1_headOf_73 : decode cX1_headOf 73 = .ok (.aload_n 1, 1) := by decide +kernel
theorem dX1_headOf_74 : decode cX1_headOf 74 = .ok (.getfield 70, 3) := by decide +kernel
theorem dX1_headOf_77 : decode cX1_headOf 77 = .ok (.bipush 7, 2) := by decide +kernel
theorem dX1_headOf_79 : decode cX1_headOf 79 = .ok (.iaload, 1) := by decide +kernel
theorem dX1_headOf_80 : decode cX1_headOf 80 = .ok (.goto 10, 3) := by decide +kernel
theorem dX1_headOf_83 : decode cX1_headOf 83 = .ok (.aload_n 1, 1) := by decide +kernel
theorem dX1_headOf_84 : decode cX1_headOf 84 = .ok (.getfield 70, 3) := by decide +kernel
theorem dX1_headOf_87 : decode cX1_headOf 87 = .ok (.bipush 8, 2) := by decide +kernel
theorem dX1_headOf_89 : decode cX1_headOf 89 = .ok (.iaload, 1) := by decide +kernel
theorem dX1_headOf_90 : decode cX1_headOf 90 = .ok (.istore 4, 2) := by decide +kernel
theorem dX1_headOf_92 : decode cX1_headOf 92 = .ok (.aload_n 0, 1) := by decide +kernel
theorem dX1_headOf_93 : decode cX1_headOf 93 = .ok (.iload_n 2, 1) := by decide +kernel
theorem dX1_headOf_94 : decode cX1_headOf 94 = .ok (.iload_n 3, 1) := by decide +kernel
theorem dX1_headOf_95 : decode cX1_headOf 95 = .ok (.iload 4, 2) := by decide +kernel
theorem dX1_headOf_97 : decode cX1_headOf 97 = .ok (.invokevirtual 89, 3) := by decide +kernel
theorem dX1_headOf_100 : decode cX1_headOf 100 = .ok (.ireturn, 1) := by decide +kernel
set_option maxRecDepth 20000 in
theorem ggX1_markOf_X1_forceBehind : GoodIn wsX1_markOf wsX1_forceBehind := goodIn_r _ [8, 9, 10, 11, 12, 13, 14, 15, 16, 17, 18] (by decide +kernel) (by decide +kernel)
set_option maxRecDepth 20000 in
theorem gX1_markOf_X1_forceBehind : GoodIn wsX1_markOf (wsV RX1 81 RX1 yX1_forceBehind wsX1_forceBehind) := goodIn_app (goodIn_of _ (by decide +kernel)) ggX1_markOf_X1_forceBehind
theorem dX1_markOf_0 : decode cX1_markOf 0 = .ok (.iload_n 3, 1) := by decide +kernel
theorem dX1_markOf_1 : decode cX1_markOf 1 = .ok (.iconst 2, 1) := by decide +kernel
theorem dX1_markOf_2 : decode cX1_markOf 2 = .ok (.if_icmp .ne 22, 3) := by decide +kernel
theorem dX1_markOf_5 : decode cX1_markOf 5 = .ok (.aload_n 0, 1) := by decide +kernel
theorem dX1_markOf_6 : decode cX1_markOf 6 = .ok (.iload_n 2, 1) := by decide +kernel
theorem dX1_markOf_7 : decode cX1_markOf 7 = .ok (.aload_n 0, 1) := by decide +kernel
theorem dX1_markOf_8 : decode cX1_markOf 8 = .ok (.getfield 23, 3) := by decide +kernel
theorem dX1_markOf_11 : decode cX1_markOf 11 = .ok (.iload_n 1, 1) := by decide +kernel
theorem dX1_markOf_12 : decode cX1_markOf 12 = .ok (.iaload, 1) := by decide +kernel
theorem dX1_markOf_13 : decode cX1_markOf 13 = .ok (.aload_n 0, 1) := by decide +kernel
theorem dX1_markOf_14 : decode cX1_markOf 14 = .ok (.getfield 26, 3) := by decide +kernel
theorem dX1_markOf_17 : decode cX1_markOf 17 = .ok (.iload_n 1, 1) := by decide +kernel
theorem dX1_markOf_18 : decode cX1_markOf 18 = .ok (.iaload, 1) := by decide +kernel
theorem dX1_markOf_19 : decode cX1_markOf 19 = .ok (.iadd, 1) := by decide +kernel
theorem dX1_markOf_20 : decode cX1_markOf 20 = .ok (.invokevirtual 81, 3) := by decide +kernel
theorem dX1_markOf_23 : decode cX1_markOf 23 = .ok (.ireturn, 1) := by decide +kernel
theorem dX1_markOf_24 : decode cX1_markOf 24 = .ok (.iload_n 3, 1) := by decide +kernel
theorem dX1_markOf_25 : decode cX1_markOf 25 = .ok (.iconst 1, 1) := by decide +kernel
theorem dX1_markOf_26 : decode cX1_markOf 26 = .ok (.if_icmp .ne 25, 3) := by decide +kernel
theorem dX1_markOf_29 : decode cX1_markOf 29 = .ok (.aload_n 0, 1) := by decide +kernel
theorem dX1_markOf_30 : decode cX1_markOf 30 = .ok (.getfield 29, 3) := by decide +kernel
theorem dX1_markOf_33 : decode cX1_markOf 33 = .ok (.iload_n 2, 1) := by decide +kernel
theorem dX1_markOf_34 : decode cX1_markOf 34 = .ok (.aaload, 1) := by decide +kernel
theorem dX1_markOf_35 : decode cX1_markOf 35 = .ok (.iload_n 1, 1) := by decide +kernel
theorem dX1_markOf_36 : decode cX1_markOf 36 = .ok (.iaload, 1) := by decide +kernel
theorem dX1_markOf_37 : decode cX1_markOf 37 = .ok (.bipush (-6), 2) := by decide +kernel
theorem dX1_markOf_39 : decode cX1_markOf 39 = .ok (.if_icmp .eq 12, 3) := by decide +kernel
theorem dX1_markOf_42 : decode cX1_markOf 42 = .ok (.aload_n 0, 1) := by decide +kernel
theorem dX1_markOf_43 : decode cX1_markOf 43 = .ok (.getfield 29, 3) := by decide +kernel
theorem dX1_markOf_46 : decode cX1_markOf 46 = .ok (.iload_n 2, 1) := by decide +kernel
theorem dX1_markOf_47 : decode cX1_markOf 47 = .ok (.aaload, 1) := by decide +kernel
theorem dX1_markOf_48 : decode cX1_markOf 48 = .ok (.iload_n 1, 1) := by decide +kernel
theorem dX1_markOf_49 : decode cX1_markOf 49 = .ok (.iaload, 1) := by decide +kernel
theorem dX1_markOf_50 : decode cX1_markOf 50 = .ok (.ireturn, 1) := by decide +kernel
theorem dX1_markOf_51 : decode cX1_markOf 51 = .ok (.aload_n 0, 1) := by decide +kernel
theorem dX1_markOf_52 : decode cX1_markOf 52 = .ok (.iload_n 2, 1) := by decide +kernel
theorem dX1_markOf_53 : decode cX1_markOf 53 = .ok (.aload_n 0, 1) := by decide +kernel
theorem dX1_markOf_54 : decode cX1_markOf 54 = .ok (.getfield 23, 3) := by decide +kernel
theorem dX1_markOf_57 : decode cX1_markOf 57 = .ok (.iload_n 1, 1) := by decide +kernel
theorem dX1_markOf_58 : decode cX1_markOf 58 = .ok (.iaload, 1) := by decide +kernel
theorem dX1_markOf_59 : decode cX1_markOf 59 = .ok (.invokevirtual 81, 3) := by decide +kernel
theorem dX1_markOf_62 : decode cX1_markOf 62 = .ok (.ireturn, 1) := by decide +kernel
theorem dX1_hasPage_0 : decode cX1_hasPage 0 = .ok (.iload_n 1, 1) := by decide +kernel
theorem dX1_hasPage_1 : decode cX1_hasPage 1 = .ok (.iconst 1, 1) := by decide +kernel
theorem dX1_hasPage_2 : decode cX1_hasPage 2 = .ok (.if_icmp .lt 15, 3) := by decide +kernel
theorem dX1_hasPage_5 : decode cX1_hasPage 5 = .ok (.iload_n 1, 1) := by decide +kernel
theorem dX1_hasPage_6 : decode cX1_hasPage 6 = .ok (.aload_n 0, 1) := by decide +kernel
theorem dX1_hasPage_7 : decode cX1_hasPage 7 = .ok (.getfield 39, 3) := by decide +kernel
theorem dX1_hasPage_10 : decode cX1_hasPage 10 = .ok (.if_icmp .gt 7, 3) := by decide +kernel
theorem dX1_hasPage_13 : decode cX1_hasPage 13 = .ok (.iconst 1, 1) := by decide +kernel
theorem dX1_hasPage_14 : decode cX1_hasPage 14 = .ok (.goto 4, 3) := by decide +kernel
theorem dX1_hasPage_17 : decode cX1_hasPage 17 = .ok (.iconst 0, 1) := by decide +kernel
theorem dX1_hasPage_18 : decode cX1_hasPage 18 = .ok (.ireturn, 1) := by decide +kernel
set_option maxRecDepth 20000 in
theorem ggX1_headOrNone_X1_hasPage : GoodIn wsX1_headOrNone wsX1_hasPage := goodIn_r _ [6, 7, 8, 9, 10, 11, 12, 13, 14, 15, 16] (by decide +kernel) (by decide +kernel)
set_option maxRecDepth 20000 in
theorem gX1_headOrNone_X1_hasPage : GoodIn wsX1_headOrNone (wsV RX1 93 RX1 yX1_hasPage wsX1_hasPage) := goodIn_app (goodIn_of _ (by decide +kernel)) ggX1_headOrNone_X1_hasPage
theorem dX1_headOrNone_0 : decode cX1_headOrNone 0 = .ok (.aload_n 0, 1) := by decide +kernel
theorem dX1_headOrNone_1 : decode cX1_headOrNone 1 = .ok (.iload_n 1, 1) := by decide +kernel
theorem dX1_headOrNone_2 : decode cX1_headOrNone 2 = .ok (.invokevirtual 93, 3) := by decide +kernel
theorem dX1_headOrNone_5 : decode cX1_headOrNone 5 = .ok (.ifCond .eq 12, 3) := by decide +kernel
theorem dX1_headOrNone_8 : decode cX1_headOrNone 8 = .ok (.aload_n 0, 1) := by decide +kernel
end
section
theorem dX1_headOrNone_9 : decode cX1_headOrNone 9 = .ok (.getfield 32, 3) := by decide +kernel
theorem dX1_headOrNone_12 : decode cX1_headOrNone 12 = .ok (.iload_n 1, 1) := by decide +kernel
theorem dX1_headOrNone_13 : decode cX1_headOrNone 13 = .ok (.iaload, 1) := by decide +kernel
theorem dX1_headOrNone_14 : decode cX1_headOrNone 14 = .ok (.goto 5, 3) := by decide +kernel
theorem dX1_headOrNone_17 : decode cX1_headOrNone 17 = .ok (.bipush (-6), 2) := by decide +kernel
theorem dX1_headOrNone_19 : decode cX1_headOrNone 19 = .ok (.ireturn, 1) := by decide +kernel
theorem dX1_isShared_0 : decode cX1_isShared 0 = .ok (.aload_n 0, 1) := by decide +kernel
theorem dX1_isShared_1 : decode cX1_isShared 1 = .ok (.getfield 26, 3) := by decide +kernel
theorem dX1_isShared_4 : decode cX1_isShared 4 = .ok (.iload_n 1, 1) := by decide +kernel
theorem dX1_isShared_5 : decode cX1_isShared 5 = .ok (.iaload, 1) := by decide +kernel
theorem dX1_isShared_6 : decode cX1_isShared 6 = .ok (.ifCond .ne 5, 3) := by decide +kernel
theorem dX1_isShared_9 : decode cX1_isShared 9 = .ok (.iconst 0, 1) := by decide +kernel
theorem dX1_isShared_10 : decode cX1_isShared 10 = .ok (.ireturn, 1) := by decide +kernel
theorem dX1_isShared_11 : decode cX1_isShared 11 = .ok (.aload_n 0, 1) := by decide +kernel
theorem dX1_isShared_12 : decode cX1_isShared 12 = .ok (.getfield 23, 3) := by decide +kernel
theorem dX1_isShared_15 : decode cX1_isShared 15 = .ok (.iload_n 1, 1) := by decide +kernel
theorem dX1_isShared_16 : decode cX1_isShared 16 = .ok (.iaload, 1) := by decide +kernel
theorem dX1_isShared_17 : decode cX1_isShared 17 = .ok (.istore_n 2, 1) := by decide +kernel
theorem dX1_isShared_18 : decode cX1_isShared 18 = .ok (.iload_n 2, 1) := by decide +kernel
theorem dX1_isShared_19 : decode cX1_isShared 19 = .ok (.aload_n 0, 1) := by decide +kernel
theorem dX1_isShared_20 : decode cX1_isShared 20 = .ok (.getfield 26, 3) := by decide +kernel
theorem dX1_isShared_23 : decode cX1_isShared 23 = .ok (.iload_n 1, 1) := by decide +kernel
theorem dX1_isShared_24 : decode cX1_isShared 24 = .ok (.iaload, 1) := by decide +kernel
theorem dX1_isShared_25 : decode cX1_isShared 25 = .ok (.iadd, 1) := by decide +kernel
theorem dX1_isShared_26 : decode cX1_isShared 26 = .ok (.iconst 1, 1) := by decide +kernel
theorem dX1_isShared_27 : decode cX1_isShared 27 = .ok (.isub, 1) := by decide +kernel
theorem dX1_isShared_28 : decode cX1_isShared 28 = .ok (.istore_n 3, 1) := by decide +kernel
theorem dX1_isShared_29 : decode cX1_isShared 29 = .ok (.aload_n 0, 1) := by decide +kernel
theorem dX1_isShared_30 : decode cX1_isShared 30 = .ok (.getfield 15, 3) := by decide +kernel
theorem dX1_isShared_33 : decode cX1_isShared 33 = .ok (.iload_n 3, 1) := by decide +kernel
theorem dX1_isShared_34 : decode cX1_isShared 34 = .ok (.iaload, 1) := by decide +kernel
theorem dX1_isShared_35 : decode cX1_isShared 35 = .ok (.aload_n 0, 1) := by decide +kernel
theorem dX1_isShared_36 : decode cX1_isShared 36 = .ok (.getfield 15, 3) := by decide +kernel
theorem dX1_isShared_39 : decode cX1_isShared 39 = .ok (.iload_n 2, 1) := by decide +kernel
theorem dX1_isShared_40 : decode cX1_isShared 40 = .ok (.iaload, 1) := by decide +kernel
theorem dX1_isShared_41 : decode cX1_isShared 41 = .ok (.iconst 0, 1) := by decide +kernel
theorem dX1_isShared_42 : decode cX1_isShared 42 = .ok (.invokestatic 96, 3) := by decide +kernel
theorem dX1_isShared_45 : decode cX1_isShared 45 = .ok (.if_icmp .le 7, 3) := by decide +kernel
theorem dX1_isShared_48 : decode cX1_isShared 48 = .ok (.iconst 1, 1) := by decide +kernel
theorem dX1_isShared_49 : decode cX1_isShared 49 = .ok (.goto 4, 3) := by decide +kernel
theorem dX1_isShared_52 : decode cX1_isShared 52 = .ok (.iconst 0, 1) := by decide +kernel
theorem dX1_isShared_53 : decode cX1_isShared 53 = .ok (.ireturn, 1) := by decide +kernel
theorem dX1_titleLineOf_0 : decode cX1_titleLineOf 0 = .ok (.iconst 0, 1) := by decide +kernel
theorem dX1_titleLineOf_1 : decode cX1_titleLineOf 1 = .ok (.istore_n 2, 1) := by decide +kernel
theorem dX1_titleLineOf_2 : decode cX1_titleLineOf 2 = .ok (.iload_n 2, 1) := by decide +kernel
theorem dX1_titleLineOf_3 : decode cX1_titleLineOf 3 = .ok (.aload_n 0, 1) := by decide +kernel
theorem dX1_titleLineOf_4 : decode cX1_titleLineOf 4 = .ok (.getfield 35, 3) := by decide +kernel
theorem dX1_titleLineOf_7 : decode cX1_titleLineOf 7 = .ok (.iconst 1, 1) := by decide +kernel
theorem dX1_titleLineOf_8 : decode cX1_titleLineOf 8 = .ok (.isub, 1) := by decide +kernel
theorem dX1_titleLineOf_9 : decode cX1_titleLineOf 9 = .ok (.if_icmp .ge 19, 3) := by decide +kernel
theorem dX1_titleLineOf_12 : decode cX1_titleLineOf 12 = .ok (.aload_n 0, 1) := by decide +kernel
theorem dX1_titleLineOf_13 : decode cX1_titleLineOf 13 = .ok (.getfield 15, 3) := by decide +kernel
theorem dX1_titleLineOf_16 : decode cX1_titleLineOf 16 = .ok (.iload_n 2, 1) := by decide +kernel
theorem dX1_titleLineOf_17 : decode cX1_titleLineOf 17 = .ok (.iaload, 1) := by decide +kernel
theorem dX1_titleLineOf_18 : decode cX1_titleLineOf 18 = .ok (.iload_n 1, 1) := by decide +kernel
theorem dX1_titleLineOf_19 : decode cX1_titleLineOf 19 = .ok (.if_icmp .ge 9, 3) := by decide +kernel
theorem dX1_titleLineOf_22 : decode cX1_titleLineOf 22 = .ok (.iinc 2 1, 3) := by decide +kernel
theorem dX1_titleLineOf_25 : decode cX1_titleLineOf 25 = .ok (.goto (-23), 3) := by decide +kernel
theorem dX1_titleLineOf_28 : decode cX1_titleLineOf 28 = .ok (.iload_n 2, 1) := by decide +kernel
theorem dX1_titleLineOf_29 : decode cX1_titleLineOf 29 = .ok (.ireturn, 1) := by decide +kernel
theorem dX1_lastLineOf_0 : decode cX1_lastLineOf 0 = .ok (.aload_n 0, 1) := by decide +kernel
theorem dX1_lastLineOf_1 : decode cX1_lastLineOf 1 = .ok (.getfield 35, 3) := by decide +kernel
theorem dX1_lastLineOf_4 : decode cX1_lastLineOf 4 = .ok (.iconst 1, 1) := by decide +kernel
theorem dX1_lastLineOf_5 : decode cX1_lastLineOf 5 = .ok (.isub, 1) := by decide +kernel
theorem dX1_lastLineOf_6 : decode cX1_lastLineOf 6 = .ok (.istore_n 2, 1) := by decide +kernel
theorem dX1_lastLineOf_7 : decode cX1_lastLineOf 7 = .ok (.iload_n 2, 1) := by decide +kernel
theorem dX1_lastLineOf_8 : decode cX1_lastLineOf 8 = .ok (.ifCond .le 19, 3) := by decide +kernel
theorem dX1_lastLineOf_11 : decode cX1_lastLineOf 11 = .ok (.aload_n 0, 1) := by decide +kernel
theorem dX1_lastLineOf_12 : decode cX1_lastLineOf 12 = .ok (.getfield 15, 3) := by decide +kernel
theorem dX1_lastLineOf_15 : decode cX1_lastLineOf 15 = .ok (.iload_n 2, 1) := by decide +kernel
theorem dX1_lastLineOf_16 : decode cX1_lastLineOf 16 = .ok (.iaload, 1) := by decide +kernel
theorem dX1_lastLineOf_17 : decode cX1_lastLineOf 17 = .ok (.iload_n 1, 1) := by decide +kernel
theorem dX1_lastLineOf_18 : decode cX1_lastLineOf 18 = .ok (.if_icmp .le 9, 3) := by decide +kernel
theorem dX1_lastLineOf_21 : decode cX1_lastLineOf 21 = .ok (.iinc 2 (-1), 3) := by decide +kernel
theorem dX1_lastLineOf_24 : decode cX1_lastLineOf 24 = .ok (.goto (-17), 3) := by decide +kernel
theorem dX1_lastLineOf_27 : decode cX1_lastLineOf 27 = .ok (.iload_n 2, 1) := by decide +kernel
theorem dX1_lastLineOf_28 : decode cX1_lastLineOf 28 = .ok (.ireturn, 1) := by decide +kernel
theorem dX1_countChapters_0 : decode cX1_countChapters 0 = .ok (.aload_n 0, 1) := by decide +kernel
theorem dX1_countChapters_1 : decode cX1_countChapters 1 = .ok (.getfield 35, 3) := by decide +kernel
theorem dX1_countChapters_4 : decode cX1_countChapters 4 = .ok (.ifCond .ne 7, 3) := by decide +kernel
theorem dX1_countChapters_7 : decode cX1_countChapters 7 = .ok (.iconst 0, 1) := by decide +kernel
theorem dX1_countChapters_8 : decode cX1_countChapters 8 = .ok (.goto 16, 3) := by decide +kernel
theorem dX1_countChapters_11 : decode cX1_countChapters 11 = .ok (.aload_n 0, 1) := by decide +kernel
theorem dX1_countChapters_12 : decode cX1_countChapters 12 = .ok (.getfield 15, 3) := by decide +kernel
theorem dX1_countChapters_15 : decode cX1_countChapters 15 = .ok (.aload_n 0, 1) := by decide +kernel
theorem dX1_countChapters_16 : decode cX1_countChapters 16 = .ok (.getfield 35, 3) := by decide +kernel
theorem dX1_countChapters_19 : decode cX1_countChapters 19 = .ok (.iconst 1, 1) := by decide +kernel
theorem dX1_countChapters_20 : decode cX1_countChapters 20 = .ok (.isub, 1) := by decide +kernel
theorem dX1_countChapters_21 : decode cX1_countChapters 21 = .ok (.iaload, 1) := by decide +kernel
theorem dX1_countChapters_22 : decode cX1_countChapters 22 = .ok (.iconst 1, 1) := by decide +kernel
theorem dX1_countChapters_23 : decode cX1_countChapters 23 = .ok (.iadd, 1) := by decide +kernel
theorem dX1_countChapters_24 : decode cX1_countChapters 24 = .ok (.ireturn, 1) := by decide +kernel
theorem dX1_countBlank_0 : decode cX1_countBlank 0 = .ok (.iconst 0, 1) := by decide +kernel
theorem dX1_countBlank_1 : decode cX1_countBlank 1 = .ok (.istore_n 1, 1) := by decide +kernel
theorem dX1_countBlank_2 : decode cX1_countBlank 2 = .ok (.iconst 1, 1) := by decide +kernel
theorem dX1_countBlank_3 : decode cX1_countBlank 3 = .ok (.istore_n 2, 1) := by decide +kernel
theorem dX1_countBlank_4 : decode cX1_countBlank 4 = .ok (.iload_n 2, 1) := by decide +kernel
theorem dX1_countBlank_5 : decode cX1_countBlank 5 = .ok (.aload_n 0, 1) := by decide +kernel
theorem dX1_countBlank_6 : decode cX1_countBlank 6 = .ok (.getfield 39, 3) := by decide +kernel
theorem dX1_countBlank_9 : decode cX1_countBlank 9 = .ok (.if_icmp .gt 21, 3) := by decide +kernel
theorem dX1_countBlank_12 : decode cX1_countBlank 12 = .ok (.aload_n 0, 1) := by decide +kernel
theorem dX1_countBlank_13 : decode cX1_countBlank 13 = .ok (.getfield 26, 3) := by decide +kernel
theorem dX1_countBlank_16 : decode cX1_countBlank 16 = .ok (.iload_n 2, 1) := by decide +kernel
theorem dX1_countBlank_17 : decode cX1_countBlank 17 = .ok (.iaload, 1) := by decide +kernel
theorem dX1_countBlank_18 : decode cX1_countBlank 18 = .ok (.ifCond .ne 6, 3) := by decide +kernel
theorem dX1_countBlank_21 : decode cX1_countBlank 21 = .ok (.iinc 1 1, 3) := by decide +kernel
theorem dX1_countBlank_24 : decode cX1_countBlank 24 = .ok (.iinc 2 1, 3) := by decide +kernel
theorem dX1_countBlank_27 : decode cX1_countBlank 27 = .ok (.goto (-23), 3) := by decide +kernel
theorem dX1_countBlank_30 : decode cX1_countBlank 30 = .ok (.iload_n 1, 1) := by decide +kernel
theorem dX1_countBlank_31 : decode cX1_countBlank 31 = .ok (.ireturn, 1) := by decide +kernel
set_option maxRecDepth 20000 in
theorem ggX1_countShared_X1_isShared : GoodIn wsX1_countShared wsX1_isShared := goodIn_r _ [6, 7, 8, 9, 10, 11, 12, 13, 14, 15, 16, 17, 18, 19, 20, 21, 22] (by decide +kernel) (by decide +kernel)
set_option maxRecDepth 20000 in
theorem gX1_countShared_X1_isShared : GoodIn wsX1_countShared (wsV RX1 101 RX1 yX1_isShared wsX1_isShared) := goodIn_app (goodIn_of _ (by decide +kernel)) ggX1_countShared_X1_isShared
theorem dX1_countShared_0 : decode cX1_countShared 0 = .ok (.iconst 0, 1) := by decide +kernel
theorem dX1_countShared_1 : decode cX1_countShared 1 = .ok (.istore_n 1, 1) := by decide +kernel
theorem dX1_countShared_2 : decode cX1_countShared 2 = .ok (.iconst 1, 1) := by decide +kernel
theorem dX1_countShared_3 : decode cX1_countShared 3 = .ok (.istore_n 2, 1) := by decide +kernel
theorem dX1_countShared_4 : decode cX1_countShared 4 = .ok (.iload_n 2, 1) := by decide +kernel
theorem dX1_countShared_5 : decode cX1_countShared 5 = .ok (.aload_n 0, 1) := by decide +kernel
theorem dX1_countShared_6 : decode cX1_countShared 6 = .ok (.getfield 39, 3) := by decide +kernel
theorem dX1_countShared_9 : decode cX1_countShared 9 = .ok (.if_icmp .gt 20, 3) := by decide +kernel
theorem dX1_countShared_12 : decode cX1_countShared 12 = .ok (.aload_n 0, 1) := by decide +kernel
theorem dX1_countShared_13 : decode cX1_countShared 13 = .ok (.iload_n 2, 1) := by decide +kernel
theorem dX1_countShared_14 : decode cX1_countShared 14 = .ok (.invokevirtual 101, 3) := by decide +kernel
theorem dX1_countShared_17 : decode cX1_countShared 17 = .ok (.ifCond .eq 6, 3) := by decide +kernel
theorem dX1_countShared_20 : decode cX1_countShared 20 = .ok (.iinc 1 1, 3) := by decide +kernel
theorem dX1_countShared_23 : decode cX1_countShared 23 = .ok (.iinc 2 1, 3) := by decide +kernel
theorem dX1_countShared_26 : decode cX1_countShared 26 = .ok (.goto (-22), 3) := by decide +kernel
theorem dX1_countShared_29 : decode cX1_countShared 29 = .ok (.iload_n 1, 1) := by decide +kernel
theorem dX1_countShared_30 : decode cX1_countShared 30 = .ok (.ireturn, 1) := by decide +kernel
theorem dX1_countHeads_0 : decode cX1_countHeads 0 = .ok (.iconst 0, 1) := by decide +kernel
theorem dX1_countHeads_1 : decode cX1_countHeads 1 = .ok (.istore_n 1, 1) := by decide +kernel
theorem dX1_countHeads_2 : decode cX1_countHeads 2 = .ok (.iconst 1, 1) := by decide +kernel
theorem dX1_countHeads_3 : decode cX1_countHeads 3 = .ok (.istore_n 2, 1) := by decide +kernel
theorem dX1_countHeads_4 : decode cX1_countHeads 4 = .ok (.iload_n 2, 1) := by decide +kernel
theorem dX1_countHeads_5 : decode cX1_countHeads 5 = .ok (.aload_n 0, 1) := by decide +kernel
theorem dX1_countHeads_6 : decode cX1_countHeads 6 = .ok (.getfield 39, 3) := by decide +kernel
theorem dX1_countHeads_9 : decode cX1_countHeads 9 = .ok (.if_icmp .gt 23, 3) := by decide +kernel
theorem dX1_countHeads_12 : decode cX1_countHeads 12 = .ok (.aload_n 0, 1) := by decide +kernel
theorem dX1_countHeads_13 : decode cX1_countHeads 13 = .ok (.getfield 32, 3) := by decide +kernel
theorem dX1_countHeads_16 : decode cX1_countHeads 16 = .ok (.iload_n 2, 1) := by decide +kernel
theorem dX1_countHeads_17 : decode cX1_countHeads 17 = .ok (.iaload, 1) := by decide +kernel
theorem dX1_countHeads_18 : decode cX1_countHeads 18 = .ok (.bipush (-6), 2) := by decide +kernel
theorem dX1_countHeads_20 : decode cX1_countHeads 20 = .ok (.if_icmp .eq 6, 3) := by decide +kernel
theorem dX1_countHeads_23 : decode cX1_countHeads 23 = .ok (.iinc 1 1, 3) := by decide +kernel
theorem dX1_countHeads_26 : decode cX1_countHeads 26 = .ok (.iinc 2 1, 3) := by decide +kernel
theorem dX1_countHeads_29 : decode cX1_countHeads 29 = .ok (.goto (-25), 3) := by decide +kernel
theorem dX1_countHeads_32 : decode cX1_countHeads 32 = .ok (.iload_n 1, 1) := by decide +kernel
theorem dX1_countHeads_33 : decode cX1_countHeads 33 = .ok (.ireturn, 1) := by decide +kernel
theorem dX1_isLeft_0 : decode cX1_isLeft 0 = .ok (.iload_n 0, 1) := by decide +kernel
theorem dX1_isLeft_1 : decode cX1_isLeft 1 = .ok (.iconst 2, 1) := by decide +kernel
theorem dX1_isLeft_2 : decode cX1_isLeft 2 = .ok (.irem, 1) := by decide +kernel
theorem dX1_isLeft_3 : decode cX1_isLeft 3 = .ok (.ifCond .ne 7, 3) := by decide +kernel
theorem dX1_isLeft_6 : decode cX1_isLeft 6 = .ok (.iconst 1, 1) := by decide +kernel
theorem dX1_isLeft_7 : decode cX1_isLeft 7 = .ok (.goto 4, 3) := by decide +kernel
theorem dX1_isLeft_10 : decode cX1_isLeft 10 = .ok (.iconst 0, 1) := by decide +kernel
theorem dX1_isLeft_11 : decode cX1_isLeft 11 = .ok (.ireturn, 1) := by decide +kernel
theorem dX2_init_0 : decode cX2_init 0 = .ok (.aload_n 0, 1) := by decide +kernel
theorem dX2_init_1 : decode cX2_init 1 = .ok (.invokespecial 3, 3) := by decide +kernel
theorem dX2_init_4 : decode cX2_init 4 = .ok (.aload_n 0, 1) := by decide +kernel
theorem dX2_init_5 : decode cX2_init 5 = .ok (.bipush 60, 2) := by decide +kernel
theorem dX2_init_7 : decode cX2_init 7 = .ok (.newarray .int, 2) := by decide +kernel
theorem dX2_init_9 : decode cX2_init 9 = .ok (.putfield 9, 3) := by decide +kernel
theorem dX2_init_12 : decode cX2_init 12 = .ok (.aload_n 0, 1) := by decide +kernel
theorem dX2_init_13 : decode cX2_init 13 = .ok (.iconst 0, 1) := by decide +kernel
theorem dX2_init_14 : decode cX2_init 14 = .ok (.putfield 15, 3) := by decide +kernel
theorem dX2_init_17 : decode cX2_init 17 = .ok (.return_, 1) := by decide +kernel
theorem dX2_append_0 : decode cX2_append 0 = .ok (.aload_n 0, 1) := by decide +kernel
theorem dX2_append_1 : decode cX2_append 1 = .ok (.getfield 15, 3) := by decide +kernel
theorem dX2_append_4 : decode cX2_append 4 = .ok (.bipush 60, 2) := by decide +kernel
theorem dX2_append_6 : decode cX2_append 6 = .ok (.if_icmp .ge 23, 3) := by decide +kernel
theorem dX2_append_9 : decode cX2_append 9 = .ok (.aload_n 0, 1) := by decide +kernel
theorem dX2_append_10 : decode cX2_append 10 = .ok (.getfield 9, 3) := by decide +kernel
theorem dX2_append_13 : decode cX2_append 13 = .ok (.aload_n 0, 1) := by decide +kernel
theorem dX2_append_14 : decode cX2_append 14 = .ok (.getfield 15, 3) := by decide +kernel
theorem dX2_append_17 : decode cX2_append 17 = .ok (.iload_n 1, 1) := by decide +kernel
theorem dX2_append_18 : decode cX2_append 18 = .ok (.iastore, 1) := by decide +kernel
theorem dX2_append_19 : decode cX2_append 19 = .ok (.aload_n 0, 1) := by decide +kernel
theorem dX2_append_20 : decode cX2_append 20 = .ok (.dup, 1) := by decide +kernel
theorem dX2_append_21 : decode cX2_append 21 = .ok (.getfield 15, 3) := by decide +kernel
theorem dX2_append_24 : decode cX2_append 24 = .ok (.iconst 1, 1) := by decide +kernel
theorem dX2_append_25 : decode cX2_append 25 = .ok (.iadd, 1) := by decide +kernel
theorem dX2_append_26 : decode cX2_append 26 = .ok (.putfield 15, 3) := by decide +kernel
theorem dX2_append_29 : decode cX2_append 29 = .ok (.return_, 1) := by decide +kernel
set_option maxRecDepth 20000 in
theorem ggX2_faultPlace_X3_classOf : GoodIn wsX2_faultPlace wsX3_classOf := goodIn_r _ [5] (by decide +kernel) (by decide +kernel)
set_option maxRecDepth 20000 in
theorem gX2_faultPlace_X3_classOf_n19 : GoodIn wsX2_faultPlace (wsX3_classOf) := ggX2_faultPlace_X3_classOf
theorem dX2_faultPlace_0 : decode cX2_faultPlace 0 = .ok (.iconst 1, 1) := by decide +kernel
theorem dX2_faultPlace_1 : decode cX2_faultPlace 1 = .ok (.istore_n 1, 1) := by decide +kernel
theorem dX2_faultPlace_2 : decode cX2_faultPlace 2 = .ok (.iconst 0, 1) := by decide +kernel
theorem dX2_faultPlace_3 : decode cX2_faultPlace 3 = .ok (.istore_n 2, 1) := by decide +kernel
theorem dX2_faultPlace_4 : decode cX2_faultPlace 4 = .ok (.iload_n 2, 1) := by decide +kernel
theorem dX2_faultPlace_5 : decode cX2_faultPlace 5 = .ok (.aload_n 0, 1) := by decide +kernel
theorem dX2_faultPlace_6 : decode cX2_faultPlace 6 = .ok (.getfield 15, 3) := by decide +kernel
theorem dX2_faultPlace_9 : decode cX2_faultPlace 9 = .ok (.if_icmp .ge 78, 3) := by decide +kernel
theorem dX2_faultPlace_12 : decode cX2_faultPlace 12 = .ok (.aload_n 0, 1) := by decide +kernel
theorem dX2_faultPlace_13 : decode cX2_faultPlace 13 = .ok (.getfield 9, 3) := by decide +kernel
theorem dX2_faultPlace_16 : decode cX2_faultPlace 16 = .ok (.iload_n 2, 1) := by decide +kernel
theorem dX2_faultPlace_17 : decode cX2_faultPlace 17 = .ok (.iaload, 1) := by decide +kernel
theorem dX2_faultPlace_18 : decode cX2_faultPlace 18 = .ok (.bipush 47, 2) := by decide +kernel
theorem dX2_faultPlace_20 : decode cX2_faultPlace 20 = .ok (.if_icmp .ne 7, 3) := by decide +kernel
theorem dX2_faultPlace_23 : decode cX2_faultPlace 23 = .ok (.iconst 1, 1) := by decide +kernel
theorem dX2_faultPlace_24 : decode cX2_faultPlace 24 = .ok (.goto 4, 3) := by decide +kernel
theorem dX2_faultPlace_27 : decode cX2_faultPlace 27 = .ok (.iconst 0, 1) := by decide +kernel
theorem dX2_faultPlace_28 : decode cX2_faultPlace 28 = .ok (.istore_n 3, 1) := by decide +kernel
theorem dX2_faultPlace_29 : decode cX2_faultPlace 29 = .ok (.aload_n 0, 1) := by decide +kernel
theorem dX2_faultPlace_30 : decode cX2_faultPlace 30 = .ok (.getfield 9, 3) := by decide +kernel
theorem dX2_faultPlace_33 : decode cX2_faultPlace 33 = .ok (.iload_n 2, 1) := by decide +kernel
theorem dX2_faultPlace_34 : decode cX2_faultPlace 34 = .ok (.iaload, 1) := by decide +kernel
theorem dX2_faultPlace_35 : decode cX2_faultPlace 35 = .ok (.bipush 46, 2) := by decide +kernel
theorem dX2_faultPlace_37 : decode cX2_faultPlace 37 = .ok (.if_icmp .eq 17, 3) := by decide +kernel
theorem dX2_faultPlace_40 : decode cX2_faultPlace 40 = .ok (.aload_n 0, 1) := by decide +kernel
theorem dX2_faultPlace_41 : decode cX2_faultPlace 41 = .ok (.getfield 9, 3) := by decide +kernel
theorem dX2_faultPlace_44 : decode cX2_faultPlace 44 = .ok (.iload_n 2, 1) := by decide +kernel
theorem dX2_faultPlace_45 : decode cX2_faultPlace 45 = .ok (.iaload, 1) := by decide +kernel
theorem dX2_faultPlace_46 : decode cX2_faultPlace 46 = .ok (.invokestatic 19, 3) := by decide +kernel
theorem dX2_faultPlace_49 : decode cX2_faultPlace 49 = .ok (.bipush (-6), 2) := by decide +kernel
theorem dX2_faultPlace_51 : decode cX2_faultPlace 51 = .ok (.if_icmp .eq 7, 3) := by decide +kernel
theorem dX2_faultPlace_54 : decode cX2_faultPlace 54 = .ok (.iconst 1, 1) := by decide +kernel
theorem dX2_faultPlace_55 : decode cX2_faultPlace 55 = .ok (.goto 4, 3) := by decide +kernel
theorem dX2_faultPlace_58 : decode cX2_faultPlace 58 = .ok (.iconst 0, 1) := by decide +kernel
theorem dX2_faultPlace_59 : decode cX2_faultPlace 59 = .ok (.istore 4, 2) := by decide +kernel
theorem dX2_faultPlace_61 : decode cX2_faultPlace 61 = .ok (.iload_n 3, 1) := by decide +kernel
theorem dX2_faultPlace_62 : decode cX2_faultPlace 62 = .ok (.ifCond .eq 10, 3) := by decide +kernel
theorem dX2_faultPlace_65 : decode cX2_faultPlace 65 = .ok (.iload_n 1, 1) := by decide +kernel
theorem dX2_faultPlace_66 : decode cX2_faultPlace 66 = .ok (.ifCond .eq 13, 3) := by decide +kernel
theorem dX2_faultPlace_69 : decode cX2_faultPlace 69 = .ok (.goto 8, 3) := by decide +kernel
theorem dX2_faultPlace_72 : decode cX2_faultPlace 72 = .ok (.iload 4, 2) := by decide +kernel
theorem dX2_faultPlace_74 : decode cX2_faultPlace 74 = .ok (.ifCond .ne 5, 3) := by decide +kernel
theorem dX2_faultPlace_77 : decode cX2_faultPlace 77 = .ok (.iload_n 2, 1) := by decide +kernel
theorem dX2_faultPlace_78 : decode cX2_faultPlace 78 = .ok (.ireturn, 1) := by decide +kernel
theorem dX2_faultPlace_79 : decode cX2_faultPlace 79 = .ok (.iload_n 3, 1) := by decide +kernel
theorem dX2_faultPlace_80 : decode cX2_faultPlace 80 = .ok (.istore_n 1, 1) := by decide +kernel
theorem dX2_faultPlace_81 : decode cX2_faultPlace 81 = .ok (.iinc 2 1, 3) := by decide +kernel
theorem dX2_faultPlace_84 : decode cX2_faultPlace 84 = .ok (.goto (-80), 3) := by decide +kernel
theorem dX2_faultPlace_87 : decode cX2_faultPlace 87 = .ok (.aload_n 0, 1) := by decide +kernel
theorem dX2_faultPlace_88 : decode cX2_faultPlace 88 = .ok (.getfield 15, 3) := by decide +kernel
theorem dX2_faultPlace_91 : decode cX2_faultPlace 91 = .ok (.ifCond .le 14, 3) := by decide +kernel
theorem dX2_faultPlace_94 : decode cX2_faultPlace 94 = .ok (.iload_n 1, 1) := by decide +kernel
theorem dX2_faultPlace_95 : decode cX2_faultPlace 95 = .ok (.ifCond .eq 10, 3) := by decide +kernel
theorem dX2_faultPlace_98 : decode cX2_faultPlace 98 = .ok (.aload_n 0, 1) := by decide +kernel
theorem dX2_faultPlace_99 : decode cX2_faultPlace 99 = .ok (.getfield 15, 3) := by decide +kernel
theorem dX2_faultPlace_102 : decode cX2_faultPlace 102 = .ok (.goto 5, 3) := by decide +kernel
theorem dX2_faultPlace_105 : decode cX2_faultPlace 105 = .ok (.bipush (-6), 2) := by decide +kernel
theorem dX2_faultPlace_107 : decode cX2_faultPlace 107 = .ok (.ireturn, 1) := by decide +kernel
set_option maxRecDepth 20000 in
theorem ggX3_init_X2_init : GoodIn wsX3_init wsX2_init := goodIn_r _ [20, 21, 2, 3, 22, 23, 24, 51, 52] (by decide +kernel) (by decide +kernel)
set_option maxRecDepth 20000 in
theorem gX3_init_X2_init_n11 : GoodIn wsX3_init (wsX2_init) := ggX3_init_X2_init
set_option maxRecDepth 20000 in
theorem ggX3_init_X0_init : GoodIn wsX3_init wsX0_init := goodIn_r _ [26, 27, 2, 3, 22, 28, 29, 30, 31, 32, 33, 34, 35, 36, 37, 59, 60, 61, 62] (by decide +kernel) (by decide +kernel)
set_option maxRecDepth 20000 in
theorem gX3_init_X0_init_n18 : GoodIn wsX3_init (wsX0_init) := ggX3_init_X0_init
set_option maxRecDepth 20000 in
theorem ggX3_init_X1_init : GoodIn wsX3_init wsX1_init := goodIn_r _ [39, 40, 2, 3, 22, 41, 42, 43, 44, 45, 46, 47, 48, 49, 50, 63, 64, 65, 66, 67, 68, 69, 70, 71] (by decide +kernel) (by decide +kernel)
set_option maxRecDepth 20000 in
theorem gX3_init_X1_init_n33 : GoodIn wsX3_init (wsX1_init) := ggX3_init_X1_init
theorem dX3_init_0 : decode cX3_init 0 = .ok (.aload_n 0, 1) := by decide +kernel
theorem dX3_init_1 : decode cX3_init 1 = .ok (.invokespecial 3, 3) := by decide +kernel
theorem dX3_init_4 : decode cX3_init 4 = .ok (.aload_n 0, 1) := by decide +kernel
theorem dX3_init_5 : decode cX3_init 5 = .ok (.new 9, 3) := by decide +kernel
theorem dX3_init_8 : decode cX3_init 8 = .ok (.dup, 1) := by decide +kernel
theorem dX3_init_9 : decode cX3_init 9 = .ok (.invokespecial 11, 3) := by decide +kernel
theorem dX3_init_12 : decode cX3_init 12 = .ok (.putfield 12, 3) := by decide +kernel
theorem dX3_init_15 : decode cX3_init 15 = .ok (.aload_n 0, 1) := by decide +kernel
theorem dX3_init_16 : decode cX3_init 16 = .ok (.new 16, 3) := by decide +kernel
theorem dX3_init_19 : decode cX3_init 19 = .ok (.dup, 1) := by decide +kernel
theorem dX3_init_20 : decode cX3_init 20 = .ok (.invokespecial 18, 3) := by decide +kernel
theorem dX3_init_23 : decode cX3_init 23 = .ok (.putfield 19, 3) := by decide +kernel
theorem dX3_init_26 : decode cX3_init 26 = .ok (.aload_n 0, 1) := by decide +kernel
theorem dX3_init_27 : decode cX3_init 27 = .ok (.iconst 2, 1) := by decide +kernel
theorem dX3_init_28 : decode cX3_init 28 = .ok (.anewarray 16, 3) := by decide +kernel
theorem dX3_init_31 : decode cX3_init 31 = .ok (.putfield 23, 3) := by decide +kernel
theorem dX3_init_34 : decode cX3_init 34 = .ok (.iconst 0, 1) := by decide +kernel
theorem dX3_init_35 : decode cX3_init 35 = .ok (.istore_n 1, 1) := by decide +kernel
theorem dX3_init_36 : decode cX3_init 36 = .ok (.iload_n 1, 1) := by decide +kernel
theorem dX3_init_37 : decode cX3_init 37 = .ok (.iconst 2, 1) := by decide +kernel
theorem dX3_init_38 : decode cX3_init 38 = .ok (.if_icmp .ge 22, 3) := by decide +kernel
theorem dX3_init_41 : decode cX3_init 41 = .ok (.aload_n 0, 1) := by decide +kernel
theorem dX3_init_42 : decode cX3_init 42 = .ok (.getfield 23, 3) := by decide +kernel
theorem dX3_init_45 : decode cX3_init 45 = .ok (.iload_n 1, 1) := by decide +kernel
theorem dX3_init_46 : decode cX3_init 46 = .ok (.new 16, 3) := by decide +kernel
theorem dX3_init_49 : decode cX3_init 49 = .ok (.dup, 1) := by decide +kernel
theorem dX3_init_50 : decode cX3_init 50 = .ok (.invokespecial 18, 3) := by decide +kernel
theorem dX3_init_53 : decode cX3_init 53 = .ok (.aastore, 1) := by decide +kernel
theorem dX3_init_54 : decode cX3_init 54 = .ok (.iinc 1 1, 3) := by decide +kernel
theorem dX3_init_57 : decode cX3_init 57 = .ok (.goto (-21), 3) := by decide +kernel
theorem dX3_init_60 : decode cX3_init 60 = .ok (.aload_n 0, 1) := by decide +kernel
theorem dX3_init_61 : decode cX3_init 61 = .ok (.iconst 0, 1) := by decide +kernel
theorem dX3_init_62 : decode cX3_init 62 = .ok (.putfield 27, 3) := by decide +kernel
theorem dX3_init_65 : decode cX3_init 65 = .ok (.aload_n 0, 1) := by decide +kernel
theorem dX3_init_66 : decode cX3_init 66 = .ok (.new 31, 3) := by decide +kernel
theorem dX3_init_69 : decode cX3_init 69 = .ok (.dup, 1) := by decide +kernel
theorem dX3_init_70 : decode cX3_init 70 = .ok (.invokespecial 33, 3) := by decide +kernel
theorem dX3_init_73 : decode cX3_init 73 = .ok (.putfield 34, 3) := by decide +kernel
theorem dX3_init_76 : decode cX3_init 76 = .ok (.aload_n 0, 1) := by decide +kernel
theorem dX3_init_77 : decode cX3_init 77 = .ok (.new 31, 3) := by decide +kernel
theorem dX3_init_80 : decode cX3_init 80 = .ok (.dup, 1) := by decide +kernel
theorem dX3_init_81 : decode cX3_init 81 = .ok (.invokespecial 33, 3) := by decide +kernel
theorem dX3_init_84 : decode cX3_init 84 = .ok (.putfield 38, 3) := by decide +kernel
theorem dX3_init_87 : decode cX3_init 87 = .ok (.return_, 1) := by decide +kernel
set_option maxRecDepth 20000 in
theorem ggX3_say_X2_append : GoodIn wsX3_say wsX2_append := goodIn_r _ [7, 8, 9, 16, 17] (by decide +kernel) (by decide +kernel)
set_option maxRecDepth 20000 in
theorem gX3_say_X2_append : GoodIn wsX3_say (wsV RX3 44 RX2 yX2_append wsX2_append) := goodIn_app (goodIn_of _ (by decide +kernel)) ggX3_say_X2_append
theorem dX3_say_0 : decode cX3_say 0 = .ok (.iload_n 1, 1) := by decide +kernel
theorem dX3_say_1 : decode cX3_say 1 = .ok (.bipush 33, 2) := by decide +kernel
theorem dX3_say_3 : decode cX3_say 3 = .ok (.if_icmp .lt 9, 3) := by decide +kernel
theorem dX3_say_6 : decode cX3_say 6 = .ok (.iload_n 1, 1) := by decide +kernel
theorem dX3_say_7 : decode cX3_say 7 = .ok (.bipush 126, 2) := by decide +kernel
theorem dX3_say_9 : decode cX3_say 9 = .ok (.if_icmp .le 6, 3) := by decide +kernel
theorem dX3_say_12 : decode cX3_say 12 = .ok (.bipush (-2), 2) := by decide +kernel
theorem dX3_say_14 : decode cX3_say 14 = .ok (.ireturn, 1) := by decide +kernel
theorem dX3_say_15 : decode cX3_say 15 = .ok (.aload_n 0, 1) := by decide +kernel
theorem dX3_say_16 : decode cX3_say 16 = .ok (.getfield 12, 3) := by decide +kernel
theorem dX3_say_19 : decode cX3_say 19 = .ok (.getfield 41, 3) := by decide +kernel
theorem dX3_say_22 : decode cX3_say 22 = .ok (.bipush 60, 2) := by decide +kernel
theorem dX3_say_24 : decode cX3_say 24 = .ok (.if_icmp .lt 6, 3) := by decide +kernel
theorem dX3_say_27 : decode cX3_say 27 = .ok (.bipush (-4), 2) := by decide +kernel
theorem dX3_say_29 : decode cX3_say 29 = .ok (.ireturn, 1) := by decide +kernel
theorem dX3_say_30 : decode cX3_say 30 = .ok (.aload_n 0, 1) := by decide +kernel
theorem dX3_say_31 : decode cX3_say 31 = .ok (.getfield 12, 3) := by decide +kernel
theorem dX3_say_34 : decode cX3_say 34 = .ok (.iload_n 1, 1) := by decide +kernel
theorem dX3_say_35 : decode cX3_say 35 = .ok (.invokevirtual 44, 3) := by decide +kernel
theorem dX3_say_38 : decode cX3_say 38 = .ok (.aload_n 0, 1) := by decide +kernel
theorem dX3_say_39 : decode cX3_say 39 = .ok (.getfield 12, 3) := by decide +kernel
theorem dX3_say_42 : decode cX3_say 42 = .ok (.getfield 41, 3) := by decide +kernel
theorem dX3_say_45 : decode cX3_say 45 = .ok (.ireturn, 1) := by decide +kernel
theorem dX3_wipe_0 : decode cX3_wipe 0 = .ok (.aload_n 0, 1) := by decide +kernel
theorem dX3_wipe_1 : decode cX3_wipe 1 = .ok (.getfield 12, 3) := by decide +kernel
theorem dX3_wipe_4 : decode cX3_wipe 4 = .ok (.getfield 41, 3) := by decide +kernel
theorem dX3_wipe_7 : decode cX3_wipe 7 = .ok (.istore_n 1, 1) := by decide +kernel
theorem dX3_wipe_8 : decode cX3_wipe 8 = .ok (.aload_n 0, 1) := by decide +kernel
theorem dX3_wipe_9 : decode cX3_wipe 9 = .ok (.getfield 12, 3) := by decide +kernel
theorem dX3_wipe_12 : decode cX3_wipe 12 = .ok (.iconst 0, 1) := by decide +kernel
theorem dX3_wipe_13 : decode cX3_wipe 13 = .ok (.putfield 41, 3) := by decide +kernel
theorem dX3_wipe_16 : decode cX3_wipe 16 = .ok (.iload_n 1, 1) := by decide +kernel
theorem dX3_wipe_17 : decode cX3_wipe 17 = .ok (.ireturn, 1) := by decide +kernel
set_option maxRecDepth 20000 in
theorem ggX3_fault_X2_faultPlace : GoodIn wsX3_fault wsX2_faultPlace := goodIn_r _ [6, 7, 8, 9, 10, 11, 18, 19] (by decide +kernel) (by decide +kernel)
set_option maxRecDepth 20000 in
theorem gX3_fault_X2_faultPlace : GoodIn wsX3_fault (wsV RX3 48 RX2 yX2_faultPlace wsX2_faultPlace) := goodIn_app (goodIn_of _ (by decide +kernel)) ggX3_fault_X2_faultPlace
theorem dX3_fault_0 : decode cX3_fault 0 = .ok (.aload_n 0, 1) := by decide +kernel
theorem dX3_fault_1 : decode cX3_fault 1 = .ok (.getfield 12, 3) := by decide +kernel
theorem dX3_fault_4 : decode cX3_fault 4 = .ok (.invokevirtual 48, 3) := by decide +kernel
theorem dX3_fault_7 : decode cX3_fault 7 = .ok (.ireturn, 1) := by decide +kernel
set_option maxRecDepth 20000 in
theorem ggX3_read_X2_faultPlace : GoodIn wsX3_read wsX2_faultPlace := goodIn_r _ [9, 10, 11, 12, 13, 14, 90, 91] (by decide +kernel) (by decide +kernel)
set_option maxRecDepth 20000 in
theorem gX3_read_X2_faultPlace : GoodIn wsX3_read (wsV RX3 48 RX2 yX2_faultPlace wsX2_faultPlace) := goodIn_app (goodIn_of _ (by decide +kernel)) ggX3_read_X2_faultPlace
set_option maxRecDepth 20000 in
theorem ggX3_read_X0_takeText : GoodIn wsX3_read wsX0_takeText := goodIn_r _ [19, 20, 21, 22, 23, 24, 92, 93, 94, 95, 90, 91] (by decide +kernel) (by decide +kernel)
set_option maxRecDepth 20000 in
theorem gX3_read_X0_takeText : GoodIn wsX3_read (wsV RX3 52 RX0 yX0_takeText wsX0_takeText) := goodIn_app (goodIn_of _ (by decide +kernel)) ggX3_read_X0_takeText
set_option maxRecDepth 20000 in
theorem ggX3_read_X3_layNow : GoodIn wsX3_read wsX3_layNow := goodIn_r _ [28, 29, 2, 30, 31, 32, 33, 34, 35, 36, 37, 38, 39, 40, 41, 42, 43, 44, 45, 46, 47, 12, 13, 14, 48, 49, 50, 51, 52, 53, 54, 55, 56, 57, 58, 59, 60, 61, 62, 63, 64, 65, 66, 67, 68, 69, 70, 71, 72, 73, 74, 75, 76, 77, 78, 79, 80, 81, 82, 83, 84, 85, 86, 87, 88, 89, 92, 93, 94, 95, 96, 97, 98, 99, 100, 101, 102, 103, 104] (by decide +kernel) (by decide +kernel)
set_option maxRecDepth 20000 in
theorem gX3_read_X3_layNow : GoodIn wsX3_read (wsV RX3 56 RX3 yX3_layNow wsX3_layNow) := goodIn_app (goodIn_of _ (by decide +kernel)) ggX3_read_X3_layNow
theorem dX3_read_0 : decode cX3_read 0 = .ok (.aload_n 0, 1) := by decide +kernel
theorem dX3_read_1 : decode cX3_read 1 = .ok (.getfield 12, 3) := by decide +kernel
theorem dX3_read_4 : decode cX3_read 4 = .ok (.invokevirtual 48, 3) := by decide +kernel
theorem dX3_read_7 : decode cX3_read 7 = .ok (.bipush (-6), 2) := by decide +kernel
theorem dX3_read_9 : decode cX3_read 9 = .ok (.if_icmp .eq 6, 3) := by decide +kernel
theorem dX3_read_12 : decode cX3_read 12 = .ok (.bipush (-7), 2) := by decide +kernel
theorem dX3_read_14 : decode cX3_read 14 = .ok (.ireturn, 1) := by decide +kernel
theorem dX3_read_15 : decode cX3_read 15 = .ok (.aload_n 0, 1) := by decide +kernel
theorem dX3_read_16 : decode cX3_read 16 = .ok (.getfield 19, 3) := by decide +kernel
theorem dX3_read_19 : decode cX3_read 19 = .ok (.aload_n 0, 1) := by decide +kernel
theorem dX3_read_20 : decode cX3_read 20 = .ok (.getfield 12, 3) := by decide +kernel
theorem dX3_read_23 : decode cX3_read 23 = .ok (.invokevirtual 52, 3) := by decide +kernel
theorem dX3_read_26 : decode cX3_read 26 = .ok (.aload_n 0, 1) := by decide +kernel
theorem dX3_read_27 : decode cX3_read 27 = .ok (.getfield 12, 3) := by decide +kernel
theorem dX3_read_30 : decode cX3_read 30 = .ok (.iconst 0, 1) := by decide +kernel
theorem dX3_read_31 : decode cX3_read 31 = .ok (.putfield 41, 3) := by decide +kernel
theorem dX3_read_34 : decode cX3_read 34 = .ok (.aload_n 0, 1) := by decide +kernel
theorem dX3_read_35 : decode cX3_read 35 = .ok (.invokevirtual 56, 3) := by decide +kernel
theorem dX3_read_38 : decode cX3_read 38 = .ok (.aload_n 0, 1) := by decide +kernel
theorem dX3_read_39 : decode cX3_read 39 = .ok (.getfield 19, 3) := by decide +kernel
theorem dX3_read_42 : decode cX3_read 42 = .ok (.getfield 59, 3) := by decide +kernel
theorem dX3_read_45 : decode cX3_read 45 = .ok (.ireturn, 1) := by decide +kernel
set_option maxRecDepth 20000 in
theorem ggX3_rule_X0_mayRule : GoodIn wsX3_rule wsX0_mayRule := goodIn_r _ [7, 8, 76, 77, 78, 79] (by decide +kernel) (by decide +kernel)
set_option maxRecDepth 20000 in
theorem gX3_rule_X0_mayRule : GoodIn wsX3_rule (wsV RX3 62 RX0 yX0_mayRule wsX0_mayRule) := goodIn_app (goodIn_of _ (by decide +kernel)) ggX3_rule_X0_mayRule
set_option maxRecDepth 20000 in
theorem ggX3_rule_X3_layNow : GoodIn wsX3_rule wsX3_layNow := goodIn_r _ [13, 14, 1, 2, 15, 16, 17, 18, 19, 20, 21, 22, 23, 24, 25, 26, 27, 28, 29, 30, 31, 32, 12, 33, 34, 35, 36, 37, 38, 39, 40, 41, 42, 43, 44, 45, 46, 47, 48, 49, 50, 51, 52, 53, 54, 55, 56, 57, 58, 59, 60, 61, 62, 63, 64, 65, 66, 67, 68, 69, 70, 71, 72, 73, 74, 75, 76, 77, 78, 79, 80, 81, 82, 83, 84, 85, 86, 87, 88] (by decide +kernel) (by decide +kernel)
set_option maxRecDepth 20000 in
theorem gX3_rule_X3_layNow : GoodIn wsX3_rule (wsV RX3 56 RX3 yX3_layNow wsX3_layNow) := goodIn_app (goodIn_of _ (by decide +kernel)) ggX3_rule_X3_layNow
theorem dX3_rule_0 : decode cX3_rule 0 = .ok (.iload_n 1, 1) := by decide +kernel
theorem dX3_rule_1 : decode cX3_rule 1 = .ok (.ifCond .lt 21, 3) := by decide +kernel
theorem dX3_rule_4 : decode cX3_rule 4 = .ok (.iload_n 1, 1) := by decide +kernel
theorem dX3_rule_5 : decode cX3_rule 5 = .ok (.bipush 9, 2) := by decide +kernel
theorem dX3_rule_7 : decode cX3_rule 7 = .ok (.if_icmp .ge 15, 3) := by decide +kernel
theorem dX3_rule_10 : decode cX3_rule 10 = .ok (.aload_n 0, 1) := by decide +kernel
theorem dX3_rule_11 : decode cX3_rule 11 = .ok (.getfield 19, 3) := by decide +kernel
theorem dX3_rule_14 : decode cX3_rule 14 = .ok (.iload_n 1, 1) := by decide +kernel
theorem dX3_rule_15 : decode cX3_rule 15 = .ok (.iload_n 2, 1) := by decide +kernel
theorem dX3_rule_16 : decode cX3_rule 16 = .ok (.invokevirtual 62, 3) := by decide +kernel
theorem dX3_rule_19 : decode cX3_rule 19 = .ok (.ifCond .ne 6, 3) := by decide +kernel
theorem dX3_rule_22 : decode cX3_rule 22 = .ok (.bipush (-2), 2) := by decide +kernel
theorem dX3_rule_24 : decode cX3_rule 24 = .ok (.ireturn, 1) := by decide +kernel
theorem dX3_rule_25 : decode cX3_rule 25 = .ok (.aload_n 0, 1) := by decide +kernel
theorem dX3_rule_26 : decode cX3_rule 26 = .ok (.getfield 19, 3) := by decide +kernel
theorem dX3_rule_29 : decode cX3_rule 29 = .ok (.getfield 66, 3) := by decide +kernel
theorem dX3_rule_32 : decode cX3_rule 32 = .ok (.iload_n 1, 1) := by decide +kernel
theorem dX3_rule_33 : decode cX3_rule 33 = .ok (.iaload, 1) := by decide +kernel
theorem dX3_rule_34 : decode cX3_rule 34 = .ok (.istore_n 3, 1) := by decide +kernel
theorem dX3_rule_35 : decode cX3_rule 35 = .ok (.aload_n 0, 1) := by decide +kernel
theorem dX3_rule_36 : decode cX3_rule 36 = .ok (.getfield 19, 3) := by decide +kernel
theorem dX3_rule_39 : decode cX3_rule 39 = .ok (.getfield 66, 3) := by decide +kernel
theorem dX3_rule_42 : decode cX3_rule 42 = .ok (.iload_n 1, 1) := by decide +kernel
theorem dX3_rule_43 : decode cX3_rule 43 = .ok (.iload_n 2, 1) := by decide +kernel
theorem dX3_rule_44 : decode cX3_rule 44 = .ok (.iastore, 1) := by decide +kernel
theorem dX3_rule_45 : decode cX3_rule 45 = .ok (.aload_n 0, 1) := by decide +kernel
theorem dX3_rule_46 : decode cX3_rule 46 = .ok (.invokevirtual 56, 3) := by decide +kernel
theorem dX3_rule_49 : decode cX3_rule 49 = .ok (.iload_n 3, 1) := by decide +kernel
theorem dX3_rule_50 : decode cX3_rule 50 = .ok (.ireturn, 1) := by decide +kernel
set_option maxRecDepth 20000 in
theorem ggX3_cut_X0_canBreakAhead : GoodIn wsX3_cut wsX0_canBreakAhead := goodIn_r _ [7, 8, 82, 83, 84, 85] (by decide +kernel) (by decide +kernel)
set_option maxRecDepth 20000 in
theorem gX3_cut_X0_canBreakAhead : GoodIn wsX3_cut (wsV RX3 70 RX0 yX0_canBreakAhead wsX0_canBreakAhead) := goodIn_app (goodIn_of _ (by decide +kernel)) ggX3_cut_X0_canBreakAhead
set_option maxRecDepth 20000 in
theorem ggX3_cut_X3_layNow : GoodIn wsX3_cut wsX3_layNow := goodIn_r _ [13, 14, 1, 15, 16, 17, 18, 19, 20, 21, 22, 23, 24, 25, 26, 27, 28, 29, 30, 31, 32, 33, 12, 34, 35, 36, 37, 38, 39, 40, 41, 42, 43, 44, 45, 46, 47, 48, 49, 50, 51, 52, 53, 54, 55, 56, 57, 58, 59, 60, 61, 62, 63, 64, 65, 66, 67, 68, 69, 70, 76, 77, 78, 79, 80, 81, 82, 83, 84, 85, 86, 87, 88, 89, 90, 91, 92, 93, 94] (by decide +kernel) (by decide +kernel)
set_option maxRecDepth 20000 in
theorem gX3_cut_X3_layNow : GoodIn wsX3_cut (wsV RX3 56 RX3 yX3_layNow wsX3_layNow) := goodIn_app (goodIn_of _ (by decide +kernel)) ggX3_cut_X3_layNow
set_option maxRecDepth 20000 in
theorem ggX3_cut_X0_countBreaks : GoodIn wsX3_cut wsX0_countBreaks := goodIn_r _ [74, 8, 75, 82, 83, 84, 85] (by decide +kernel) (by decide +kernel)
set_option maxRecDepth 20000 in
theorem gX3_cut_X0_countBreaks : GoodIn wsX3_cut (wsV RX3 77 RX0 yX0_countBreaks wsX0_countBreaks) := goodIn_app (goodIn_of _ (by decide +kernel)) ggX3_cut_X0_countBreaks
theorem dX3_cut_0 : decode cX3_cut 0 = .ok (.aload_n 0, 1) := by decide +kernel
theorem dX3_cut_1 : decode cX3_cut 1 = .ok (.getfield 19, 3) := by decide +kernel
theorem dX3_cut_4 : decode cX3_cut 4 = .ok (.iload_n 1, 1) := by decide +kernel
theorem dX3_cut_5 : decode cX3_cut 5 = .ok (.invokevirtual 70, 3) := by decide +kernel
theorem dX3_cut_8 : decode cX3_cut 8 = .ok (.ifCond .ne 5, 3) := by decide +kernel
theorem dX3_cut_11 : decode cX3_cut 11 = .ok (.iconst (-1), 1) := by decide +kernel
theorem dX3_cut_12 : decode cX3_cut 12 = .ok (.ireturn, 1) := by decide +kernel
theorem dX3_cut_13 : decode cX3_cut 13 = .ok (.iload_n 2, 1) := by decide +kernel
theorem dX3_cut_14 : decode cX3_cut 14 = .ok (.ifCond .eq 11, 3) := by decide +kernel
theorem dX3_cut_17 : decode cX3_cut 17 = .ok (.iload_n 2, 1) := by decide +kernel
theorem dX3_cut_18 : decode cX3_cut 18 = .ok (.iconst 1, 1) := by decide +kernel
theorem dX3_cut_19 : decode cX3_cut 19 = .ok (.if_icmp .eq 6, 3) := by decide +kernel
theorem dX3_cut_22 : decode cX3_cut 22 = .ok (.bipush (-2), 2) := by decide +kernel
theorem dX3_cut_24 : decode cX3_cut 24 = .ok (.ireturn, 1) := by decide +kernel
theorem dX3_cut_25 : decode cX3_cut 25 = .ok (.aload_n 0, 1) := by decide +kernel
theorem dX3_cut_26 : decode cX3_cut 26 = .ok (.getfield 19, 3) := by decide +kernel
theorem dX3_cut_29 : decode cX3_cut 29 = .ok (.getfield 74, 3) := by decide +kernel
theorem dX3_cut_32 : decode cX3_cut 32 = .ok (.iload_n 1, 1) := by decide +kernel
theorem dX3_cut_33 : decode cX3_cut 33 = .ok (.iload_n 2, 1) := by decide +kernel
theorem dX3_cut_34 : decode cX3_cut 34 = .ok (.iastore, 1) := by decide +kernel
theorem dX3_cut_35 : decode cX3_cut 35 = .ok (.aload_n 0, 1) := by decide +kernel
theorem dX3_cut_36 : decode cX3_cut 36 = .ok (.invokevirtual 56, 3) := by decide +kernel
theorem dX3_cut_39 : decode cX3_cut 39 = .ok (.aload_n 0, 1) := by decide +kernel
theorem dX3_cut_40 : decode cX3_cut 40 = .ok (.getfield 19, 3) := by decide +kernel
theorem dX3_cut_43 : decode cX3_cut 43 = .ok (.invokevirtual 77, 3) := by decide +kernel
theorem dX3_cut_46 : decode cX3_cut 46 = .ok (.ireturn, 1) := by decide +kernel
set_option maxRecDepth 20000 in
theorem ggX3_line_X3_classOf : GoodIn wsX3_line wsX3_classOf := goodIn_r _ [12] (by decide +kernel) (by decide +kernel)
set_option maxRecDepth 20000 in
theorem gX3_line_X3_classOf : GoodIn wsX3_line (va_wsS RX3 83 yX3_classOf wsX3_classOf) := goodIn_app (goodIn_of _ (by decide +kernel)) ggX3_line_X3_classOf
theorem dX3_line_0 : decode cX3_line 0 = .ok (.iload_n 1, 1) := by decide +kernel
theorem dX3_line_1 : decode cX3_line 1 = .ok (.ifCond .lt 14, 3) := by decide +kernel
theorem dX3_line_4 : decode cX3_line 4 = .ok (.iload_n 1, 1) := by decide +kernel
theorem dX3_line_5 : decode cX3_line 5 = .ok (.aload_n 0, 1) := by decide +kernel
theorem dX3_line_6 : decode cX3_line 6 = .ok (.getfield 19, 3) := by decide +kernel
theorem dX3_line_9 : decode cX3_line 9 = .ok (.getfield 59, 3) := by decide +kernel
theorem dX3_line_12 : decode cX3_line 12 = .ok (.if_icmp .lt 5, 3) := by decide +kernel
theorem dX3_line_15 : decode cX3_line 15 = .ok (.iconst (-1), 1) := by decide +kernel
theorem dX3_line_16 : decode cX3_line 16 = .ok (.ireturn, 1) := by decide +kernel
theorem dX3_line_17 : decode cX3_line 17 = .ok (.iload_n 2, 1) := by decide +kernel
theorem dX3_line_18 : decode cX3_line 18 = .ok (.tableswitch 134 0 5 #[38, 70, 80, 100, 110, 122], 38) := by decide +kernel
theorem dX3_line_56 : decode cX3_line 56 = .ok (.aload_n 0, 1) := by decide +kernel
theorem dX3_line_57 : decode cX3_line 57 = .ok (.getfield 19, 3) := by decide +kernel
theorem dX3_line_60 : decode cX3_line 60 = .ok (.getfield 80, 3) := by decide +kernel
theorem dX3_line_63 : decode cX3_line 63 = .ok (.iload_n 1, 1) := by decide +kernel
theorem dX3_line_64 : decode cX3_line 64 = .ok (.iaload, 1) := by decide +kernel
theorem dX3_line_65 : decode cX3_line 65 = .ok (.invokestatic 83, 3) := by decide +kernel
theorem dX3_line_68 : decode cX3_line 68 = .ok (.bipush (-6), 2) := by decide +kernel
theorem dX3_line_70 : decode cX3_line 70 = .ok (.if_icmp .ne 8, 3) := by decide +kernel
theorem dX3_line_73 : decode cX3_line 73 = .ok (.bipush (-6), 2) := by decide +kernel
theorem dX3_line_75 : decode cX3_line 75 = .ok (.goto 12, 3) := by decide +kernel
theorem dX3_line_78 : decode cX3_line 78 = .ok (.aload_n 0, 1) := by decide +kernel
theorem dX3_line_79 : decode cX3_line 79 = .ok (.getfield 19, 3) := by decide +kernel
theorem dX3_line_82 : decode cX3_line 82 = .ok (.getfield 80, 3) := by decide +kernel
theorem dX3_line_85 : decode cX3_line 85 = .ok (.iload_n 1, 1) := by decide +kernel
theorem dX3_line_86 : decode cX3_line 86 = .ok (.iaload, 1) := by decide +kernel
theorem dX3_line_87 : decode cX3_line 87 = .ok (.ireturn, 1) := by decide +kernel
theorem dX3_line_88 : decode cX3_line 88 = .ok (.aload_n 0, 1) := by decide +kernel
theorem dX3_line_89 : decode cX3_line 89 = .ok (.getfield 34, 3) := by decide +kernel
theorem dX3_line_92 : decode cX3_line 92 = .ok (.getfield 87, 3) := by decide +kernel
theorem dX3_line_95 : decode cX3_line 95 = .ok (.iload_n 1, 1) := by decide +kernel
theorem dX3_line_96 : decode cX3_line 96 = .ok (.iaload, 1) := by decide +kernel
theorem dX3_line_97 : decode cX3_line 97 = .ok (.ireturn, 1) := by decide +kernel
theorem dX3_line_98 : decode cX3_line 98 = .ok (.iload_n 1, 1) := by decide +kernel
theorem dX3_line_99 : decode cX3_line 99 = .ok (.aload_n 0, 1) := by decide +kernel
theorem dX3_line_100 : decode cX3_line 100 = .ok (.getfield 34, 3) := by decide +kernel
theorem dX3_line_103 : decode cX3_line 103 = .ok (.getfield 90, 3) := by decide +kernel
theorem dX3_line_106 : decode cX3_line 106 = .ok (.aload_n 0, 1) := by decide +kernel
theorem dX3_line_107 : decode cX3_line 107 = .ok (.getfield 34, 3) := by decide +kernel
theorem dX3_line_110 : decode cX3_line 110 = .ok (.getfield 87, 3) := by decide +kernel
theorem dX3_line_113 : decode cX3_line 113 = .ok (.iload_n 1, 1) := by decide +kernel
theorem dX3_line_114 : decode cX3_line 114 = .ok (.iaload, 1) := by decide +kernel
theorem dX3_line_115 : decode cX3_line 115 = .ok (.iaload, 1) := by decide +kernel
theorem dX3_line_116 : decode cX3_line 116 = .ok (.isub, 1) := by decide +kernel
theorem dX3_line_117 : decode cX3_line 117 = .ok (.ireturn, 1) := by decide +kernel
theorem dX3_line_118 : decode cX3_line 118 = .ok (.aload_n 0, 1) := by decide +kernel
theorem dX3_line_119 : decode cX3_line 119 = .ok (.getfield 19, 3) := by decide +kernel
theorem dX3_line_122 : decode cX3_line 122 = .ok (.getfield 74, 3) := by decide +kernel
theorem dX3_line_125 : decode cX3_line 125 = .ok (.iload_n 1, 1) := by decide +kernel
theorem dX3_line_126 : decode cX3_line 126 = .ok (.iaload, 1) := by decide +kernel
theorem dX3_line_127 : decode cX3_line 127 = .ok (.ireturn, 1) := by decide +kernel
theorem dX3_line_128 : decode cX3_line 128 = .ok (.aload_n 0, 1) := by decide +kernel
theorem dX3_line_129 : decode cX3_line 129 = .ok (.getfield 34, 3) := by decide +kernel
theorem dX3_line_132 : decode cX3_line 132 = .ok (.getfield 93, 3) := by decide +kernel
theorem dX3_line_135 : decode cX3_line 135 = .ok (.iconst 0, 1) := by decide +kernel
theorem dX3_line_136 : decode cX3_line 136 = .ok (.aaload, 1) := by decide +kernel
theorem dX3_line_137 : decode cX3_line 137 = .ok (.iload_n 1, 1) := by decide +kernel
theorem dX3_line_138 : decode cX3_line 138 = .ok (.iaload, 1) := by decide +kernel
theorem dX3_line_139 : decode cX3_line 139 = .ok (.ireturn, 1) := by decide +kernel
theorem dX3_line_140 : decode cX3_line 140 = .ok (.aload_n 0, 1) := by decide +kernel
theorem dX3_line_141 : decode cX3_line 141 = .ok (.getfield 34, 3) := by decide +kernel
theorem dX3_line_144 : decode cX3_line 144 = .ok (.getfield 93, 3) := by decide +kernel
theorem dX3_line_147 : decode cX3_line 147 = .ok (.iconst 1, 1) := by decide +kernel
theorem dX3_line_148 : decode cX3_line 148 = .ok (.aaload, 1) := by decide +kernel
theorem dX3_line_149 : decode cX3_line 149 = .ok (.iload_n 1, 1) := by decide +kernel
theorem dX3_line_150 : decode cX3_line 150 = .ok (.iaload, 1) := by decide +kernel
theorem dX3_line_151 : decode cX3_line 151 = .ok (.ireturn, 1) := by decide +kernel
theorem dX3_line_152 : decode cX3_line 152 = .ok (.bipush (-2), 2) := by decide +kernel
theorem dX3_line_154 : decode cX3_line 154 = .ok (.ireturn, 1) := by decide +kernel
set_option maxRecDepth 20000 in
theorem ggX3_page_X1_hasPage : GoodIn wsX3_page wsX1_hasPage := goodIn_r _ [9, 10, 28, 29, 30, 31, 32, 33, 34, 35, 36] (by decide +kernel) (by decide +kernel)
set_option maxRecDepth 20000 in
theorem gX3_page_X1_hasPage : GoodIn wsX3_page (wsV RX3 97 RX1 yX1_hasPage wsX1_hasPage) := goodIn_app (goodIn_of _ (by decide +kernel)) ggX3_page_X1_hasPage
set_option maxRecDepth 20000 in
theorem ggX3_page_X1_isShared : GoodIn wsX3_page wsX1_isShared := goodIn_r _ [14, 15, 16, 17, 18, 19, 20, 21, 28, 29, 30, 31, 32, 33, 34, 35, 36] (by decide +kernel) (by decide +kernel)
set_option maxRecDepth 20000 in
theorem gX3_page_X1_isShared : GoodIn wsX3_page (wsV RX3 106 RX1 yX1_isShared wsX1_isShared) := goodIn_app (goodIn_of _ (by decide +kernel)) ggX3_page_X1_isShared
theorem dX3_page_0 : decode cX3_page 0 = .ok (.aload_n 0, 1) := by decide +kernel
theorem dX3_page_1 : decode cX3_page 1 = .ok (.getfield 34, 3) := by decide +kernel
theorem dX3_page_4 : decode cX3_page 4 = .ok (.iload_n 1, 1) := by decide +kernel
theorem dX3_page_5 : decode cX3_page 5 = .ok (.invokevirtual 97, 3) := by decide +kernel
theorem dX3_page_8 : decode cX3_page 8 = .ok (.ifCond .ne 5, 3) := by decide +kernel
theorem dX3_page_11 : decode cX3_page 11 = .ok (.iconst (-1), 1) := by decide +kernel
theorem dX3_page_12 : decode cX3_page 12 = .ok (.ireturn, 1) := by decide +kernel
theorem dX3_page_13 : decode cX3_page 13 = .ok (.iload_n 2, 1) := by decide +kernel
theorem dX3_page_14 : decode cX3_page 14 = .ok (.tableswitch 94 0 3 #[30, 40, 67, 77], 30) := by decide +kernel
theorem dX3_page_44 : decode cX3_page 44 = .ok (.aload_n 0, 1) := by decide +kernel
theorem dX3_page_45 : decode cX3_page 45 = .ok (.getfield 34, 3) := by decide +kernel
theorem dX3_page_48 : decode cX3_page 48 = .ok (.getfield 100, 3) := by decide +kernel
theorem dX3_page_51 : decode cX3_page 51 = .ok (.iload_n 1, 1) := by decide +kernel
theorem dX3_page_52 : decode cX3_page 52 = .ok (.iaload, 1) := by decide +kernel
theorem dX3_page_53 : decode cX3_page 53 = .ok (.ireturn, 1) := by decide +kernel
theorem dX3_page_54 : decode cX3_page 54 = .ok (.aload_n 0, 1) := by decide +kernel
theorem dX3_page_55 : decode cX3_page 55 = .ok (.getfield 34, 3) := by decide +kernel
theorem dX3_page_58 : decode cX3_page 58 = .ok (.getfield 100, 3) := by decide +kernel
theorem dX3_page_61 : decode cX3_page 61 = .ok (.iload_n 1, 1) := by decide +kernel
theorem dX3_page_62 : decode cX3_page 62 = .ok (.iaload, 1) := by decide +kernel
theorem dX3_page_63 : decode cX3_page 63 = .ok (.ifCond .ne 8, 3) := by decide +kernel
theorem dX3_page_66 : decode cX3_page 66 = .ok (.bipush (-6), 2) := by decide +kernel
theorem dX3_page_68 : decode cX3_page 68 = .ok (.goto 12, 3) := by decide +kernel
theorem dX3_page_71 : decode cX3_page 71 = .ok (.aload_n 0, 1) := by decide +kernel
theorem dX3_page_72 : decode cX3_page 72 = .ok (.getfield 34, 3) := by decide +kernel
theorem dX3_page_75 : decode cX3_page 75 = .ok (.getfield 90, 3) := by decide +kernel
theorem dX3_page_78 : decode cX3_page 78 = .ok (.iload_n 1, 1) := by decide +kernel
theorem dX3_page_79 : decode cX3_page 79 = .ok (.iaload, 1) := by decide +kernel
theorem dX3_page_80 : decode cX3_page 80 = .ok (.ireturn, 1) := by decide +kernel
theorem dX3_page_81 : decode cX3_page 81 = .ok (.aload_n 0, 1) := by decide +kernel
theorem dX3_page_82 : decode cX3_page 82 = .ok (.getfield 34, 3) := by decide +kernel
theorem dX3_page_85 : decode cX3_page 85 = .ok (.getfield 103, 3) := by decide +kernel
theorem dX3_page_88 : decode cX3_page 88 = .ok (.iload_n 1, 1) := by decide +kernel
theorem dX3_page_89 : decode cX3_page 89 = .ok (.iaload, 1) := by decide +kernel
theorem dX3_page_90 : decode cX3_page 90 = .ok (.ireturn, 1) := by decide +kernel
theorem dX3_page_91 : decode cX3_page 91 = .ok (.aload_n 0, 1) := by decide +kernel
theorem dX3_page_92 : decode cX3_page 92 = .ok (.getfield 34, 3) := by decide +kernel
theorem dX3_page_95 : decode cX3_page 95 = .ok (.iload_n 1, 1) := by decide +kernel
theorem dX3_page_96 : decode cX3_page 96 = .ok (.invokevirtual 106, 3) := by decide +kernel
theorem dX3_page_99 : decode cX3_page 99 = .ok (.ifCond .eq 7, 3) := by decide +kernel
theorem dX3_page_102 : decode cX3_page 102 = .ok (.iconst 1, 1) := by decide +kernel
theorem dX3_page_103 : decode cX3_page 103 = .ok (.goto 4, 3) := by decide +kernel
theorem dX3_page_106 : decode cX3_page 106 = .ok (.iconst 0, 1) := by decide +kernel
theorem dX3_page_107 : decode cX3_page 107 = .ok (.ireturn, 1) := by decide +kernel
theorem dX3_page_108 : decode cX3_page 108 = .ok (.bipush (-2), 2) := by decide +kernel
theorem dX3_page_110 : decode cX3_page 110 = .ok (.ireturn, 1) := by decide +kernel
set_option maxRecDepth 20000 in
theorem ggX3_mark_X1_hasPage : GoodIn wsX3_mark wsX1_hasPage := goodIn_r _ [6, 7, 26, 27, 28, 29, 30, 31, 32, 33, 34] (by decide +kernel) (by decide +kernel)
set_option maxRecDepth 20000 in
theorem gX3_mark_X1_hasPage : GoodIn wsX3_mark (wsV RX3 97 RX1 yX1_hasPage wsX1_hasPage) := goodIn_app (goodIn_of _ (by decide +kernel)) ggX3_mark_X1_hasPage
set_option maxRecDepth 20000 in
theorem ggX3_mark_X1_markOf : GoodIn wsX3_mark wsX1_markOf := goodIn_r _ [11, 12, 13, 14, 15, 16, 17, 5, 18, 19, 26, 27, 28, 29, 30, 31, 32, 33, 34] (by decide +kernel) (by decide +kernel)
set_option maxRecDepth 20000 in
theorem gX3_mark_X1_markOf : GoodIn wsX3_mark (wsV RX3 109 RX1 yX1_markOf wsX1_markOf) := goodIn_app (goodIn_of _ (by decide +kernel)) ggX3_mark_X1_markOf
theorem dX3_mark_0 : decode cX3_mark 0 = .ok (.aload_n 0, 1) := by decide +kernel
theorem dX3_mark_1 : decode cX3_mark 1 = .ok (.getfield 34, 3) := by decide +kernel
theorem dX3_mark_4 : decode cX3_mark 4 = .ok (.iload_n 1, 1) := by decide +kernel
theorem dX3_mark_5 : decode cX3_mark 5 = .ok (.invokevirtual 97, 3) := by decide +kernel
theorem dX3_mark_8 : decode cX3_mark 8 = .ok (.ifCond .ne 5, 3) := by decide +kernel
theorem dX3_mark_11 : decode cX3_mark 11 = .ok (.iconst (-1), 1) := by decide +kernel
theorem dX3_mark_12 : decode cX3_mark 12 = .ok (.ireturn, 1) := by decide +kernel
theorem dX3_mark_13 : decode cX3_mark 13 = .ok (.iload_n 2, 1) := by decide +kernel
theorem dX3_mark_14 : decode cX3_mark 14 = .ok (.ifCond .lt 17, 3) := by decide +kernel
theorem dX3_mark_17 : decode cX3_mark 17 = .ok (.iload_n 2, 1) := by decide +kernel
theorem dX3_mark_18 : decode cX3_mark 18 = .ok (.iconst 2, 1) := by decide +kernel
theorem dX3_mark_19 : decode cX3_mark 19 = .ok (.if_icmp .ge 12, 3) := by decide +kernel
theorem dX3_mark_22 : decode cX3_mark 22 = .ok (.iload_n 3, 1) := by decide +kernel
theorem dX3_mark_23 : decode cX3_mark 23 = .ok (.ifCond .lt 8, 3) := by decide +kernel
theorem dX3_mark_26 : decode cX3_mark 26 = .ok (.iload_n 3, 1) := by decide +kernel
theorem dX3_mark_27 : decode cX3_mark 27 = .ok (.iconst 2, 1) := by decide +kernel
theorem dX3_mark_28 : decode cX3_mark 28 = .ok (.if_icmp .le 6, 3) := by decide +kernel
theorem dX3_mark_31 : decode cX3_mark 31 = .ok (.bipush (-2), 2) := by decide +kernel
theorem dX3_mark_33 : decode cX3_mark 33 = .ok (.ireturn, 1) := by decide +kernel
theorem dX3_mark_34 : decode cX3_mark 34 = .ok (.aload_n 0, 1) := by decide +kernel
theorem dX3_mark_35 : decode cX3_mark 35 = .ok (.getfield 34, 3) := by decide +kernel
theorem dX3_mark_38 : decode cX3_mark 38 = .ok (.iload_n 1, 1) := by decide +kernel
theorem dX3_mark_39 : decode cX3_mark 39 = .ok (.iload_n 2, 1) := by decide +kernel
theorem dX3_mark_40 : decode cX3_mark 40 = .ok (.iload_n 3, 1) := by decide +kernel
theorem dX3_mark_41 : decode cX3_mark 41 = .ok (.invokevirtual 109, 3) := by decide +kernel
theorem dX3_mark_44 : decode cX3_mark 44 = .ok (.ireturn, 1) := by decide +kernel
set_option maxRecDepth 20000 in
theorem ggX3_headed_X3_classOf : GoodIn wsX3_headed wsX3_classOf := goodIn_r _ [7] (by decide +kernel) (by decide +kernel)
set_option maxRecDepth 20000 in
theorem gX3_headed_X3_classOf : GoodIn wsX3_headed (va_wsS RX3 83 yX3_classOf wsX3_classOf) := goodIn_app (goodIn_of _ (by decide +kernel)) ggX3_headed_X3_classOf
theorem dX3_headed_0 : decode cX3_headed 0 = .ok (.iload_n 1, 1) := by decide +kernel
theorem dX3_headed_1 : decode cX3_headed 1 = .ok (.invokestatic 83, 3) := by decide +kernel
theorem dX3_headed_4 : decode cX3_headed 4 = .ok (.bipush (-6), 2) := by decide +kernel
theorem dX3_headed_6 : decode cX3_headed 6 = .ok (.if_icmp .ne 6, 3) := by decide +kernel
theorem dX3_headed_9 : decode cX3_headed 9 = .ok (.bipush (-2), 2) := by decide +kernel
theorem dX3_headed_11 : decode cX3_headed 11 = .ok (.ireturn, 1) := by decide +kernel
theorem dX3_headed_12 : decode cX3_headed 12 = .ok (.iconst 0, 1) := by decide +kernel
theorem dX3_headed_13 : decode cX3_headed 13 = .ok (.istore_n 3, 1) := by decide +kernel
theorem dX3_headed_14 : decode cX3_headed 14 = .ok (.iconst 1, 1) := by decide +kernel
theorem dX3_headed_15 : decode cX3_headed 15 = .ok (.istore 4, 2) := by decide +kernel
theorem dX3_headed_17 : decode cX3_headed 17 = .ok (.iload 4, 2) := by decide +kernel
theorem dX3_headed_19 : decode cX3_headed 19 = .ok (.aload_n 0, 1) := by decide +kernel
theorem dX3_headed_20 : decode cX3_headed 20 = .ok (.getfield 34, 3) := by decide +kernel
theorem dX3_headed_23 : decode cX3_headed 23 = .ok (.getfield 113, 3) := by decide +kernel
theorem dX3_headed_26 : decode cX3_headed 26 = .ok (.if_icmp .gt 34, 3) := by decide +kernel
theorem dX3_headed_29 : decode cX3_headed 29 = .ok (.aload_n 0, 1) := by decide +kernel
theorem dX3_headed_30 : decode cX3_headed 30 = .ok (.getfield 34, 3) := by decide +kernel
theorem dX3_headed_33 : decode cX3_headed 33 = .ok (.getfield 103, 3) := by decide +kernel
theorem dX3_headed_36 : decode cX3_headed 36 = .ok (.iload 4, 2) := by decide +kernel
theorem dX3_headed_38 : decode cX3_headed 38 = .ok (.iaload, 1) := by decide +kernel
theorem dX3_headed_39 : decode cX3_headed 39 = .ok (.iload_n 1, 1) := by decide +kernel
theorem dX3_headed_40 : decode cX3_headed 40 = .ok (.if_icmp .ne 14, 3) := by decide +kernel
theorem dX3_headed_43 : decode cX3_headed 43 = .ok (.iload_n 3, 1) := by decide +kernel
theorem dX3_headed_44 : decode cX3_headed 44 = .ok (.iload_n 2, 1) := by decide +kernel
theorem dX3_headed_45 : decode cX3_headed 45 = .ok (.if_icmp .ne 6, 3) := by decide +kernel
theorem dX3_headed_48 : decode cX3_headed 48 = .ok (.iload 4, 2) := by decide +kernel
theorem dX3_headed_50 : decode cX3_headed 50 = .ok (.ireturn, 1) := by decide +kernel
theorem dX3_headed_51 : decode cX3_headed 51 = .ok (.iinc 3 1, 3) := by decide +kernel
theorem dX3_headed_54 : decode cX3_headed 54 = .ok (.iinc 4 1, 3) := by decide +kernel
theorem dX3_headed_57 : decode cX3_headed 57 = .ok (.goto (-40), 3) := by decide +kernel
theorem dX3_headed_60 : decode cX3_headed 60 = .ok (.iload_n 2, 1) := by decide +kernel
theorem dX3_headed_61 : decode cX3_headed 61 = .ok (.iconst (-1), 1) := by decide +kernel
theorem dX3_headed_62 : decode cX3_headed 62 = .ok (.if_icmp .ne 7, 3) := by decide +kernel
theorem dX3_headed_65 : decode cX3_headed 65 = .ok (.iload_n 3, 1) := by decide +kernel
theorem dX3_headed_66 : decode cX3_headed 66 = .ok (.goto 5, 3) := by decide +kernel
theorem dX3_headed_69 : decode cX3_headed 69 = .ok (.bipush (-6), 2) := by decide +kernel
theorem dX3_headed_71 : decode cX3_headed 71 = .ok (.ireturn, 1) := by decide +kernel
set_option maxRecDepth 20000 in
theorem ggX3_chapter_X1_countChapters : GoodIn wsX3_chapter wsX1_countChapters := goodIn_r _ [9, 10, 11, 39, 40, 41, 42, 43, 44, 45, 46, 47] (by decide +kernel) (by decide +kernel)
set_option maxRecDepth 20000 in
theorem gX3_chapter_X1_countChapters : GoodIn wsX3_chapter (wsV RX3 116 RX1 yX1_countChapters wsX1_countChapters) := goodIn_app (goodIn_of _ (by decide +kernel)) ggX3_chapter_X1_countChapters
set_option maxRecDepth 20000 in
theorem ggX3_chapter_X1_titleLineOf : GoodIn wsX3_chapter wsX1_titleLineOf := goodIn_r _ [15, 10, 11, 39, 40, 41, 42, 43, 44, 45, 46, 47] (by decide +kernel) (by decide +kernel)
set_option maxRecDepth 20000 in
theorem gX3_chapter_X1_titleLineOf : GoodIn wsX3_chapter (wsV RX3 119 RX1 yX1_titleLineOf wsX1_titleLineOf) := goodIn_app (goodIn_of _ (by decide +kernel)) ggX3_chapter_X1_titleLineOf
set_option maxRecDepth 20000 in
theorem ggX3_chapter_X1_lastLineOf : GoodIn wsX3_chapter wsX1_lastLineOf := goodIn_r _ [19, 10, 11, 39, 40, 41, 42, 43, 44, 45, 46, 47] (by decide +kernel) (by decide +kernel)
set_option maxRecDepth 20000 in
theorem gX3_chapter_X1_lastLineOf : GoodIn wsX3_chapter (wsV RX3 122 RX1 yX1_lastLineOf wsX1_lastLineOf) := goodIn_app (goodIn_of _ (by decide +kernel)) ggX3_chapter_X1_lastLineOf
set_option maxRecDepth 20000 in
theorem ggX3_chapter_X0_countSections : GoodIn wsX3_chapter wsX0_countSections := goodIn_r _ [24, 25, 26, 27, 28, 35, 36, 37, 38] (by decide +kernel) (by decide +kernel)
set_option maxRecDepth 20000 in
theorem gX3_chapter_X0_countSections : GoodIn wsX3_chapter (wsV RX3 125 RX0 yX0_countSections wsX0_countSections) := goodIn_app (goodIn_of _ (by decide +kernel)) ggX3_chapter_X0_countSections
theorem dX3_chapter_0 : decode cX3_chapter 0 = .ok (.iload_n 2, 1) := by decide +kernel
theorem dX3_chapter_1 : decode cX3_chapter 1 = .ok (.ifCond .lt 8, 3) := by decide +kernel
theorem dX3_chapter_4 : decode cX3_chapter 4 = .ok (.iload_n 2, 1) := by decide +kernel
theorem dX3_chapter_5 : decode cX3_chapter 5 = .ok (.iconst 4, 1) := by decide +kernel
theorem dX3_chapter_6 : decode cX3_chapter 6 = .ok (.if_icmp .le 6, 3) := by decide +kernel
theorem dX3_chapter_9 : decode cX3_chapter 9 = .ok (.bipush (-2), 2) := by decide +kernel
theorem dX3_chapter_11 : decode cX3_chapter 11 = .ok (.ireturn, 1) := by decide +kernel
theorem dX3_chapter_12 : decode cX3_chapter 12 = .ok (.iload_n 1, 1) := by decide +kernel
theorem dX3_chapter_13 : decode cX3_chapter 13 = .ok (.ifCond .lt 14, 3) := by decide +kernel
theorem dX3_chapter_16 : decode cX3_chapter 16 = .ok (.iload_n 1, 1) := by decide +kernel
theorem dX3_chapter_17 : decode cX3_chapter 17 = .ok (.aload_n 0, 1) := by decide +kernel
theorem dX3_chapter_18 : decode cX3_chapter 18 = .ok (.getfield 34, 3) := by decide +kernel
theorem dX3_chapter_21 : decode cX3_chapter 21 = .ok (.invokevirtual 116, 3) := by decide +kernel
theorem dX3_chapter_24 : decode cX3_chapter 24 = .ok (.if_icmp .lt 6, 3) := by decide +kernel
theorem dX3_chapter_27 : decode cX3_chapter 27 = .ok (.bipush (-6), 2) := by decide +kernel
theorem dX3_chapter_29 : decode cX3_chapter 29 = .ok (.ireturn, 1) := by decide +kernel
theorem dX3_chapter_30 : decode cX3_chapter 30 = .ok (.aload_n 0, 1) := by decide +kernel
theorem dX3_chapter_31 : decode cX3_chapter 31 = .ok (.getfield 34, 3) := by decide +kernel
theorem dX3_chapter_34 : decode cX3_chapter 34 = .ok (.iload_n 1, 1) := by decide +kernel
theorem dX3_chapter_35 : decode cX3_chapter 35 = .ok (.invokevirtual 119, 3) := by decide +kernel
theorem dX3_chapter_38 : decode cX3_chapter 38 = .ok (.istore_n 3, 1) := by decide +kernel
theorem dX3_chapter_39 : decode cX3_chapter 39 = .ok (.aload_n 0, 1) := by decide +kernel
theorem dX3_chapter_40 : decode cX3_chapter 40 = .ok (.getfield 34, 3) := by decide +kernel
theorem dX3_chapter_43 : decode cX3_chapter 43 = .ok (.iload_n 1, 1) := by decide +kernel
theorem dX3_chapter_44 : decode cX3_chapter 44 = .ok (.invokevirtual 122, 3) := by decide +kernel
end
section
theorem dX3_chapter_47 : decode cX3_chapter 47 = .ok (.istore 4, 2) := by decide +kernel
theorem dX3_chapter_49 : decode cX3_chapter 49 = .ok (.iload_n 2, 1) := by decide +kernel
theorem dX3_chapter_50 : decode cX3_chapter 50 = .ok (.tableswitch 68 0 3 #[30, 40, 50, 61], 30) := by decide +kernel
theorem dX3_chapter_80 : decode cX3_chapter 80 = .ok (.aload_n 0, 1) := by decide +kernel
theorem dX3_chapter_81 : decode cX3_chapter 81 = .ok (.getfield 19, 3) := by decide +kernel
theorem dX3_chapter_84 : decode cX3_chapter 84 = .ok (.getfield 80, 3) := by decide +kernel
theorem dX3_chapter_87 : decode cX3_chapter 87 = .ok (.iload_n 3, 1) := by decide +kernel
theorem dX3_chapter_88 : decode cX3_chapter 88 = .ok (.iaload, 1) := by decide +kernel
theorem dX3_chapter_89 : decode cX3_chapter 89 = .ok (.ireturn, 1) := by decide +kernel
theorem dX3_chapter_90 : decode cX3_chapter 90 = .ok (.aload_n 0, 1) := by decide +kernel
theorem dX3_chapter_91 : decode cX3_chapter 91 = .ok (.getfield 34, 3) := by decide +kernel
theorem dX3_chapter_94 : decode cX3_chapter 94 = .ok (.getfield 87, 3) := by decide +kernel
theorem dX3_chapter_97 : decode cX3_chapter 97 = .ok (.iload_n 3, 1) := by decide +kernel
theorem dX3_chapter_98 : decode cX3_chapter 98 = .ok (.iaload, 1) := by decide +kernel
theorem dX3_chapter_99 : decode cX3_chapter 99 = .ok (.ireturn, 1) := by decide +kernel
theorem dX3_chapter_100 : decode cX3_chapter 100 = .ok (.aload_n 0, 1) := by decide +kernel
theorem dX3_chapter_101 : decode cX3_chapter 101 = .ok (.getfield 34, 3) := by decide +kernel
theorem dX3_chapter_104 : decode cX3_chapter 104 = .ok (.getfield 87, 3) := by decide +kernel
theorem dX3_chapter_107 : decode cX3_chapter 107 = .ok (.iload 4, 2) := by decide +kernel
theorem dX3_chapter_109 : decode cX3_chapter 109 = .ok (.iaload, 1) := by decide +kernel
theorem dX3_chapter_110 : decode cX3_chapter 110 = .ok (.ireturn, 1) := by decide +kernel
theorem dX3_chapter_111 : decode cX3_chapter 111 = .ok (.iload 4, 2) := by decide +kernel
theorem dX3_chapter_113 : decode cX3_chapter 113 = .ok (.iload_n 3, 1) := by decide +kernel
theorem dX3_chapter_114 : decode cX3_chapter 114 = .ok (.isub, 1) := by decide +kernel
theorem dX3_chapter_115 : decode cX3_chapter 115 = .ok (.iconst 1, 1) := by decide +kernel
theorem dX3_chapter_116 : decode cX3_chapter 116 = .ok (.iadd, 1) := by decide +kernel
theorem dX3_chapter_117 : decode cX3_chapter 117 = .ok (.ireturn, 1) := by decide +kernel
theorem dX3_chapter_118 : decode cX3_chapter 118 = .ok (.aload_n 0, 1) := by decide +kernel
theorem dX3_chapter_119 : decode cX3_chapter 119 = .ok (.getfield 19, 3) := by decide +kernel
theorem dX3_chapter_122 : decode cX3_chapter 122 = .ok (.iload_n 3, 1) := by decide +kernel
theorem dX3_chapter_123 : decode cX3_chapter 123 = .ok (.iload 4, 2) := by decide +kernel
theorem dX3_chapter_125 : decode cX3_chapter 125 = .ok (.invokevirtual 125, 3) := by decide +kernel
theorem dX3_chapter_128 : decode cX3_chapter 128 = .ok (.ireturn, 1) := by decide +kernel
set_option maxRecDepth 20000 in
theorem ggX3_changed_X0_canBreakAhead : GoodIn wsX3_changed wsX0_canBreakAhead := goodIn_r _ [6, 7, 90, 91, 92, 93] (by decide +kernel) (by decide +kernel)
set_option maxRecDepth 20000 in
theorem gX3_changed_X0_canBreakAhead : GoodIn wsX3_changed (wsV RX3 70 RX0 yX0_canBreakAhead wsX0_canBreakAhead) := goodIn_app (goodIn_of _ (by decide +kernel)) ggX3_changed_X0_canBreakAhead
set_option maxRecDepth 20000 in
theorem ggX3_changed_X3_countChanged : GoodIn wsX3_changed wsX3_countChanged := goodIn_r _ [12, 13, 1, 14, 15, 16, 17, 18, 19, 20, 21, 22, 23, 24, 25, 26, 27, 28, 29, 30, 31, 32, 33, 34, 35, 36, 37, 38, 11, 39, 40, 41, 42, 43, 44, 45, 46, 47, 48, 49, 50, 51, 52, 53, 54, 55, 56, 57, 58, 59, 60, 61, 62, 63, 64, 65, 66, 67, 68, 69, 70, 71, 72, 73, 74, 75, 76, 77, 78, 79, 80, 81, 82, 83, 84, 85, 86, 87, 88, 89, 90, 91, 92, 93, 94, 95, 96, 97, 98, 99, 100, 101, 102] (by decide +kernel) (by decide +kernel)
set_option maxRecDepth 20000 in
theorem gX3_changed_X3_countChanged : GoodIn wsX3_changed (wsV RX3 129 RX3 yX3_countChanged wsX3_countChanged) := goodIn_app (goodIn_of _ (by decide +kernel)) ggX3_changed_X3_countChanged
theorem dX3_changed_0 : decode cX3_changed 0 = .ok (.aload_n 0, 1) := by decide +kernel
theorem dX3_changed_1 : decode cX3_changed 1 = .ok (.getfield 19, 3) := by decide +kernel
theorem dX3_changed_4 : decode cX3_changed 4 = .ok (.iload_n 1, 1) := by decide +kernel
theorem dX3_changed_5 : decode cX3_changed 5 = .ok (.invokevirtual 70, 3) := by decide +kernel
theorem dX3_changed_8 : decode cX3_changed 8 = .ok (.ifCond .eq 11, 3) := by decide +kernel
theorem dX3_changed_11 : decode cX3_changed 11 = .ok (.aload_n 0, 1) := by decide +kernel
theorem dX3_changed_12 : decode cX3_changed 12 = .ok (.iload_n 1, 1) := by decide +kernel
theorem dX3_changed_13 : decode cX3_changed 13 = .ok (.invokevirtual 129, 3) := by decide +kernel
theorem dX3_changed_16 : decode cX3_changed 16 = .ok (.goto 4, 3) := by decide +kernel
theorem dX3_changed_19 : decode cX3_changed 19 = .ok (.iconst (-1), 1) := by decide +kernel
theorem dX3_changed_20 : decode cX3_changed 20 = .ok (.ireturn, 1) := by decide +kernel
set_option maxRecDepth 20000 in
theorem ggX3_worst_X3_countChanged : GoodIn wsX3_worst wsX3_countChanged := goodIn_r _ [7, 8, 1, 9, 10, 11, 12, 13, 14, 15, 16, 17, 18, 19, 20, 21, 22, 23, 24, 25, 26, 27, 28, 29, 30, 31, 32, 33, 6, 34, 35, 36, 37, 38, 39, 40, 41, 42, 43, 44, 45, 46, 47, 48, 49, 50, 51, 52, 53, 54, 55, 56, 57, 58, 59, 60, 61, 62, 63, 64, 65, 66, 67, 68, 69, 70, 71, 72, 73, 74, 75, 76, 77, 78, 79, 80, 81, 82, 83, 84, 85, 86, 87, 88, 89, 90, 91, 92, 93, 94, 95, 96, 97] (by decide +kernel) (by decide +kernel)
set_option maxRecDepth 20000 in
theorem gX3_worst_X3_countChanged : GoodIn wsX3_worst (wsV RX3 129 RX3 yX3_countChanged wsX3_countChanged) := goodIn_app (goodIn_of _ (by decide +kernel)) ggX3_worst_X3_countChanged
theorem dX3_worst_0 : decode cX3_worst 0 = .ok (.iload_n 1, 1) := by decide +kernel
theorem dX3_worst_1 : decode cX3_worst 1 = .ok (.ifCond .eq 11, 3) := by decide +kernel
theorem dX3_worst_4 : decode cX3_worst 4 = .ok (.iload_n 1, 1) := by decide +kernel
theorem dX3_worst_5 : decode cX3_worst 5 = .ok (.iconst 1, 1) := by decide +kernel
theorem dX3_worst_6 : decode cX3_worst 6 = .ok (.if_icmp .eq 6, 3) := by decide +kernel
theorem dX3_worst_9 : decode cX3_worst 9 = .ok (.bipush (-2), 2) := by decide +kernel
theorem dX3_worst_11 : decode cX3_worst 11 = .ok (.ireturn, 1) := by decide +kernel
theorem dX3_worst_12 : decode cX3_worst 12 = .ok (.bipush (-6), 2) := by decide +kernel
theorem dX3_worst_14 : decode cX3_worst 14 = .ok (.istore_n 2, 1) := by decide +kernel
theorem dX3_worst_15 : decode cX3_worst 15 = .ok (.iconst 0, 1) := by decide +kernel
theorem dX3_worst_16 : decode cX3_worst 16 = .ok (.istore_n 3, 1) := by decide +kernel
theorem dX3_worst_17 : decode cX3_worst 17 = .ok (.iconst 1, 1) := by decide +kernel
theorem dX3_worst_18 : decode cX3_worst 18 = .ok (.istore 4, 2) := by decide +kernel
theorem dX3_worst_20 : decode cX3_worst 20 = .ok (.iload 4, 2) := by decide +kernel
theorem dX3_worst_22 : decode cX3_worst 22 = .ok (.aload_n 0, 1) := by decide +kernel
theorem dX3_worst_23 : decode cX3_worst 23 = .ok (.getfield 19, 3) := by decide +kernel
theorem dX3_worst_26 : decode cX3_worst 26 = .ok (.getfield 59, 3) := by decide +kernel
theorem dX3_worst_29 : decode cX3_worst 29 = .ok (.if_icmp .ge 35, 3) := by decide +kernel
theorem dX3_worst_32 : decode cX3_worst 32 = .ok (.aload_n 0, 1) := by decide +kernel
theorem dX3_worst_33 : decode cX3_worst 33 = .ok (.iload 4, 2) := by decide +kernel
theorem dX3_worst_35 : decode cX3_worst 35 = .ok (.invokevirtual 129, 3) := by decide +kernel
theorem dX3_worst_38 : decode cX3_worst 38 = .ok (.istore 5, 2) := by decide +kernel
theorem dX3_worst_40 : decode cX3_worst 40 = .ok (.iload_n 2, 1) := by decide +kernel
theorem dX3_worst_41 : decode cX3_worst 41 = .ok (.bipush (-6), 2) := by decide +kernel
theorem dX3_worst_43 : decode cX3_worst 43 = .ok (.if_icmp .eq 9, 3) := by decide +kernel
theorem dX3_worst_46 : decode cX3_worst 46 = .ok (.iload 5, 2) := by decide +kernel
theorem dX3_worst_48 : decode cX3_worst 48 = .ok (.iload_n 3, 1) := by decide +kernel
theorem dX3_worst_49 : decode cX3_worst 49 = .ok (.if_icmp .le 9, 3) := by decide +kernel
theorem dX3_worst_52 : decode cX3_worst 52 = .ok (.iload 4, 2) := by decide +kernel
theorem dX3_worst_54 : decode cX3_worst 54 = .ok (.istore_n 2, 1) := by decide +kernel
theorem dX3_worst_55 : decode cX3_worst 55 = .ok (.iload 5, 2) := by decide +kernel
theorem dX3_worst_57 : decode cX3_worst 57 = .ok (.istore_n 3, 1) := by decide +kernel
theorem dX3_worst_58 : decode cX3_worst 58 = .ok (.iinc 4 1, 3) := by decide +kernel
theorem dX3_worst_61 : decode cX3_worst 61 = .ok (.goto (-41), 3) := by decide +kernel
theorem dX3_worst_64 : decode cX3_worst 64 = .ok (.iload_n 1, 1) := by decide +kernel
theorem dX3_worst_65 : decode cX3_worst 65 = .ok (.ifCond .ne 7, 3) := by decide +kernel
theorem dX3_worst_68 : decode cX3_worst 68 = .ok (.iload_n 2, 1) := by decide +kernel
theorem dX3_worst_69 : decode cX3_worst 69 = .ok (.goto 4, 3) := by decide +kernel
theorem dX3_worst_72 : decode cX3_worst 72 = .ok (.iload_n 3, 1) := by decide +kernel
theorem dX3_worst_73 : decode cX3_worst 73 = .ok (.ireturn, 1) := by decide +kernel
set_option maxRecDepth 20000 in
theorem ggX3_fit_X1_lay : GoodIn wsX3_fit wsX1_lay := goodIn_r _ [15, 16, 17, 18, 19, 20, 21, 22, 23, 14, 24, 25, 26, 27, 28, 29, 30, 31, 32, 33, 34, 35, 36, 37, 38, 39, 40, 41, 42, 43, 44, 45, 46, 47, 48, 49, 50, 51, 52, 53, 54, 55, 56, 57, 58, 59, 60, 61, 62, 63, 64, 65, 66, 73, 74, 75, 76, 77, 78, 79, 80, 81, 82, 83, 84, 85] (by decide +kernel) (by decide +kernel)
set_option maxRecDepth 20000 in
theorem gX3_fit_X1_lay : GoodIn wsX3_fit (wsV RX3 143 RX1 yX1_lay wsX1_lay) := goodIn_app (goodIn_of _ (by decide +kernel)) ggX3_fit_X1_lay
theorem dX3_fit_0 : decode cX3_fit 0 = .ok (.iload_n 1, 1) := by decide +kernel
theorem dX3_fit_1 : decode cX3_fit 1 = .ok (.ifCond .lt 9, 3) := by decide +kernel
theorem dX3_fit_4 : decode cX3_fit 4 = .ok (.iload_n 1, 1) := by decide +kernel
theorem dX3_fit_5 : decode cX3_fit 5 = .ok (.bipush 99, 2) := by decide +kernel
theorem dX3_fit_7 : decode cX3_fit 7 = .ok (.if_icmp .le 6, 3) := by decide +kernel
theorem dX3_fit_10 : decode cX3_fit 10 = .ok (.bipush (-2), 2) := by decide +kernel
theorem dX3_fit_12 : decode cX3_fit 12 = .ok (.ireturn, 1) := by decide +kernel
theorem dX3_fit_13 : decode cX3_fit 13 = .ok (.getstatic 132, 3) := by decide +kernel
theorem dX3_fit_16 : decode cX3_fit 16 = .ok (.iconst 0, 1) := by decide +kernel
theorem dX3_fit_17 : decode cX3_fit 17 = .ok (.iaload, 1) := by decide +kernel
theorem dX3_fit_18 : decode cX3_fit 18 = .ok (.aload_n 0, 1) := by decide +kernel
theorem dX3_fit_19 : decode cX3_fit 19 = .ok (.getfield 19, 3) := by decide +kernel
theorem dX3_fit_22 : decode cX3_fit 22 = .ok (.getfield 66, 3) := by decide +kernel
theorem dX3_fit_25 : decode cX3_fit 25 = .ok (.iconst 2, 1) := by decide +kernel
theorem dX3_fit_26 : decode cX3_fit 26 = .ok (.iaload, 1) := by decide +kernel
theorem dX3_fit_27 : decode cX3_fit 27 = .ok (.iconst 1, 1) := by decide +kernel
theorem dX3_fit_28 : decode cX3_fit 28 = .ok (.iadd, 1) := by decide +kernel
theorem dX3_fit_29 : decode cX3_fit 29 = .ok (.invokestatic 135, 3) := by decide +kernel
theorem dX3_fit_32 : decode cX3_fit 32 = .ok (.istore_n 2, 1) := by decide +kernel
theorem dX3_fit_33 : decode cX3_fit 33 = .ok (.iload_n 2, 1) := by decide +kernel
theorem dX3_fit_34 : decode cX3_fit 34 = .ok (.istore_n 3, 1) := by decide +kernel
theorem dX3_fit_35 : decode cX3_fit 35 = .ok (.iload_n 3, 1) := by decide +kernel
theorem dX3_fit_36 : decode cX3_fit 36 = .ok (.getstatic 140, 3) := by decide +kernel
theorem dX3_fit_39 : decode cX3_fit 39 = .ok (.iconst 0, 1) := by decide +kernel
theorem dX3_fit_40 : decode cX3_fit 40 = .ok (.iaload, 1) := by decide +kernel
theorem dX3_fit_41 : decode cX3_fit 41 = .ok (.if_icmp .gt 35, 3) := by decide +kernel
theorem dX3_fit_44 : decode cX3_fit 44 = .ok (.aload_n 0, 1) := by decide +kernel
theorem dX3_fit_45 : decode cX3_fit 45 = .ok (.getfield 38, 3) := by decide +kernel
theorem dX3_fit_48 : decode cX3_fit 48 = .ok (.aload_n 0, 1) := by decide +kernel
theorem dX3_fit_49 : decode cX3_fit 49 = .ok (.getfield 19, 3) := by decide +kernel
theorem dX3_fit_52 : decode cX3_fit 52 = .ok (.iload_n 3, 1) := by decide +kernel
theorem dX3_fit_53 : decode cX3_fit 53 = .ok (.iconst (-1), 1) := by decide +kernel
theorem dX3_fit_54 : decode cX3_fit 54 = .ok (.invokevirtual 143, 3) := by decide +kernel
theorem dX3_fit_57 : decode cX3_fit 57 = .ok (.aload_n 0, 1) := by decide +kernel
theorem dX3_fit_58 : decode cX3_fit 58 = .ok (.getfield 38, 3) := by decide +kernel
theorem dX3_fit_61 : decode cX3_fit 61 = .ok (.getfield 113, 3) := by decide +kernel
theorem dX3_fit_64 : decode cX3_fit 64 = .ok (.iload_n 1, 1) := by decide +kernel
theorem dX3_fit_65 : decode cX3_fit 65 = .ok (.if_icmp .gt 5, 3) := by decide +kernel
theorem dX3_fit_68 : decode cX3_fit 68 = .ok (.iload_n 3, 1) := by decide +kernel
theorem dX3_fit_69 : decode cX3_fit 69 = .ok (.ireturn, 1) := by decide +kernel
theorem dX3_fit_70 : decode cX3_fit 70 = .ok (.iinc 3 1, 3) := by decide +kernel
theorem dX3_fit_73 : decode cX3_fit 73 = .ok (.goto (-38), 3) := by decide +kernel
theorem dX3_fit_76 : decode cX3_fit 76 = .ok (.bipush (-6), 2) := by decide +kernel
theorem dX3_fit_78 : decode cX3_fit 78 = .ok (.ireturn, 1) := by decide +kernel
set_option maxRecDepth 20000 in
theorem ggX3_image_X0_copyFrom : GoodIn wsX3_image wsX0_copyFrom := goodIn_r _ [8, 9, 10, 11, 12, 13, 14, 15, 16, 23, 24, 25, 26] (by decide +kernel) (by decide +kernel)
set_option maxRecDepth 20000 in
theorem gX3_image_X0_copyFrom : GoodIn wsX3_image (wsV RX3 147 RX0 yX0_copyFrom wsX0_copyFrom) := goodIn_app (goodIn_of _ (by decide +kernel)) ggX3_image_X0_copyFrom
theorem dX3_image_0 : decode cX3_image 0 = .ok (.iload_n 1, 1) := by decide +kernel
theorem dX3_image_1 : decode cX3_image 1 = .ok (.ifCond .lt 8, 3) := by decide +kernel
theorem dX3_image_4 : decode cX3_image 4 = .ok (.iload_n 1, 1) := by decide +kernel
theorem dX3_image_5 : decode cX3_image 5 = .ok (.iconst 2, 1) := by decide +kernel
theorem dX3_image_6 : decode cX3_image 6 = .ok (.if_icmp .lt 6, 3) := by decide +kernel
theorem dX3_image_9 : decode cX3_image 9 = .ok (.bipush (-2), 2) := by decide +kernel
theorem dX3_image_11 : decode cX3_image 11 = .ok (.ireturn, 1) := by decide +kernel
theorem dX3_image_12 : decode cX3_image 12 = .ok (.aload_n 0, 1) := by decide +kernel
theorem dX3_image_13 : decode cX3_image 13 = .ok (.getfield 23, 3) := by decide +kernel
theorem dX3_image_16 : decode cX3_image 16 = .ok (.iload_n 1, 1) := by decide +kernel
theorem dX3_image_17 : decode cX3_image 17 = .ok (.aaload, 1) := by decide +kernel
theorem dX3_image_18 : decode cX3_image 18 = .ok (.aload_n 0, 1) := by decide +kernel
theorem dX3_image_19 : decode cX3_image 19 = .ok (.getfield 19, 3) := by decide +kernel
theorem dX3_image_22 : decode cX3_image 22 = .ok (.invokevirtual 147, 3) := by decide +kernel
theorem dX3_image_25 : decode cX3_image 25 = .ok (.aload_n 0, 1) := by decide +kernel
theorem dX3_image_26 : decode cX3_image 26 = .ok (.dup, 1) := by decide +kernel
theorem dX3_image_27 : decode cX3_image 27 = .ok (.getfield 27, 3) := by decide +kernel
theorem dX3_image_30 : decode cX3_image 30 = .ok (.iconst 1, 1) := by decide +kernel
theorem dX3_image_31 : decode cX3_image 31 = .ok (.iload_n 1, 1) := by decide +kernel
theorem dX3_image_32 : decode cX3_image 32 = .ok (.ishl, 1) := by decide +kernel
theorem dX3_image_33 : decode cX3_image 33 = .ok (.ior, 1) := by decide +kernel
theorem dX3_image_34 : decode cX3_image 34 = .ok (.putfield 27, 3) := by decide +kernel
theorem dX3_image_37 : decode cX3_image 37 = .ok (.iconst 1, 1) := by decide +kernel
theorem dX3_image_38 : decode cX3_image 38 = .ok (.ireturn, 1) := by decide +kernel
set_option maxRecDepth 20000 in
theorem ggX3_restore_X0_copyFrom : GoodIn wsX3_restore wsX0_copyFrom := goodIn_r _ [8, 9, 10, 11, 12, 13, 14, 15, 16, 85, 86, 87, 88] (by decide +kernel) (by decide +kernel)
set_option maxRecDepth 20000 in
theorem gX3_restore_X0_copyFrom : GoodIn wsX3_restore (wsV RX3 147 RX0 yX0_copyFrom wsX0_copyFrom) := goodIn_app (goodIn_of _ (by decide +kernel)) ggX3_restore_X0_copyFrom
set_option maxRecDepth 20000 in
theorem ggX3_restore_X3_layNow : GoodIn wsX3_restore wsX3_layNow := goodIn_r _ [21, 22, 2, 23, 24, 25, 26, 27, 28, 29, 30, 31, 32, 33, 34, 35, 36, 37, 38, 39, 40, 41, 20, 42, 43, 44, 45, 46, 47, 48, 49, 50, 51, 52, 53, 54, 55, 56, 57, 58, 59, 60, 61, 62, 63, 64, 65, 66, 67, 68, 69, 70, 71, 72, 73, 74, 75, 76, 77, 78, 79, 80, 81, 82, 83, 84, 85, 86, 87, 88, 89, 90, 91, 92, 93, 94, 95, 96, 97] (by decide +kernel) (by decide +kernel)
set_option maxRecDepth 20000 in
theorem gX3_restore_X3_layNow : GoodIn wsX3_restore (wsV RX3 56 RX3 yX3_layNow wsX3_layNow) := goodIn_app (goodIn_of _ (by decide +kernel)) ggX3_restore_X3_layNow
theorem dX3_restore_0 : decode cX3_restore 0 = .ok (.iload_n 1, 1) := by decide +kernel
theorem dX3_restore_1 : decode cX3_restore 1 = .ok (.ifCond .lt 8, 3) := by decide +kernel
theorem dX3_restore_4 : decode cX3_restore 4 = .ok (.iload_n 1, 1) := by decide +kernel
theorem dX3_restore_5 : decode cX3_restore 5 = .ok (.iconst 2, 1) := by decide +kernel
theorem dX3_restore_6 : decode cX3_restore 6 = .ok (.if_icmp .lt 6, 3) := by decide +kernel
theorem dX3_restore_9 : decode cX3_restore 9 = .ok (.bipush (-2), 2) := by decide +kernel
theorem dX3_restore_11 : decode cX3_restore 11 = .ok (.ireturn, 1) := by decide +kernel
theorem dX3_restore_12 : decode cX3_restore 12 = .ok (.aload_n 0, 1) := by decide +kernel
theorem dX3_restore_13 : decode cX3_restore 13 = .ok (.getfield 27, 3) := by decide +kernel
theorem dX3_restore_16 : decode cX3_restore 16 = .ok (.iload_n 1, 1) := by decide +kernel
theorem dX3_restore_17 : decode cX3_restore 17 = .ok (.ishr, 1) := by decide +kernel
theorem dX3_restore_18 : decode cX3_restore 18 = .ok (.iconst 1, 1) := by decide +kernel
theorem dX3_restore_19 : decode cX3_restore 19 = .ok (.iand, 1) := by decide +kernel
theorem dX3_restore_20 : decode cX3_restore 20 = .ok (.ifCond .ne 6, 3) := by decide +kernel
theorem dX3_restore_23 : decode cX3_restore 23 = .ok (.bipush (-3), 2) := by decide +kernel
theorem dX3_restore_25 : decode cX3_restore 25 = .ok (.ireturn, 1) := by decide +kernel
theorem dX3_restore_26 : decode cX3_restore 26 = .ok (.aload_n 0, 1) := by decide +kernel
theorem dX3_restore_27 : decode cX3_restore 27 = .ok (.getfield 19, 3) := by decide +kernel
theorem dX3_restore_30 : decode cX3_restore 30 = .ok (.aload_n 0, 1) := by decide +kernel
theorem dX3_restore_31 : decode cX3_restore 31 = .ok (.getfield 23, 3) := by decide +kernel
theorem dX3_restore_34 : decode cX3_restore 34 = .ok (.iload_n 1, 1) := by decide +kernel
theorem dX3_restore_35 : decode cX3_restore 35 = .ok (.aaload, 1) := by decide +kernel
theorem dX3_restore_36 : decode cX3_restore 36 = .ok (.invokevirtual 147, 3) := by decide +kernel
theorem dX3_restore_39 : decode cX3_restore 39 = .ok (.aload_n 0, 1) := by decide +kernel
theorem dX3_restore_40 : decode cX3_restore 40 = .ok (.invokevirtual 56, 3) := by decide +kernel
theorem dX3_restore_43 : decode cX3_restore 43 = .ok (.iconst 1, 1) := by decide +kernel
theorem dX3_restore_44 : decode cX3_restore 44 = .ok (.ireturn, 1) := by decide +kernel
set_option maxRecDepth 20000 in
theorem ggX3_count_X1_countBlank : GoodIn wsX3_count wsX1_countBlank := goodIn_r _ [13, 14, 15, 57, 58, 59, 60, 61, 62, 63, 64, 65] (by decide +kernel) (by decide +kernel)
set_option maxRecDepth 20000 in
theorem gX3_count_X1_countBlank : GoodIn wsX3_count (wsV RX3 151 RX1 yX1_countBlank wsX1_countBlank) := goodIn_app (goodIn_of _ (by decide +kernel)) ggX3_count_X1_countBlank
set_option maxRecDepth 20000 in
theorem ggX3_count_X0_countBreaks : GoodIn wsX3_count wsX0_countBreaks := goodIn_r _ [20, 21, 22, 53, 54, 55, 56] (by decide +kernel) (by decide +kernel)
set_option maxRecDepth 20000 in
theorem gX3_count_X0_countBreaks : GoodIn wsX3_count (wsV RX3 77 RX0 yX0_countBreaks wsX0_countBreaks) := goodIn_app (goodIn_of _ (by decide +kernel)) ggX3_count_X0_countBreaks
set_option maxRecDepth 20000 in
theorem ggX3_count_X1_countChapters : GoodIn wsX3_count wsX1_countChapters := goodIn_r _ [26, 27, 28, 57, 58, 59, 60, 61, 62, 63, 64, 65] (by decide +kernel) (by decide +kernel)
set_option maxRecDepth 20000 in
theorem gX3_count_X1_countChapters : GoodIn wsX3_count (wsV RX3 116 RX1 yX1_countChapters wsX1_countChapters) := goodIn_app (goodIn_of _ (by decide +kernel)) ggX3_count_X1_countChapters
set_option maxRecDepth 20000 in
theorem ggX3_count_X1_countShared : GoodIn wsX3_count wsX1_countShared := goodIn_r _ [32, 14, 33, 34, 35, 12, 36, 15, 37, 28, 38, 39, 40, 41, 57, 58, 59, 60, 61, 62, 63, 64, 65] (by decide +kernel) (by decide +kernel)
set_option maxRecDepth 20000 in
theorem gX3_count_X1_countShared : GoodIn wsX3_count (wsV RX3 154 RX1 yX1_countShared wsX1_countShared) := goodIn_app (goodIn_of _ (by decide +kernel)) ggX3_count_X1_countShared
set_option maxRecDepth 20000 in
theorem ggX3_count_X1_countHeads : GoodIn wsX3_count wsX1_countHeads := goodIn_r _ [45, 14, 46, 57, 58, 59, 60, 61, 62, 63, 64, 65] (by decide +kernel) (by decide +kernel)
set_option maxRecDepth 20000 in
theorem gX3_count_X1_countHeads : GoodIn wsX3_count (wsV RX3 157 RX1 yX1_countHeads wsX1_countHeads) := goodIn_app (goodIn_of _ (by decide +kernel)) ggX3_count_X1_countHeads
theorem dX3_count_0 : decode cX3_count 0 = .ok (.iload_n 1, 1) := by decide +kernel
theorem dX3_count_1 : decode cX3_count 1 = .ok (.bipush 10, 2) := by decide +kernel
theorem dX3_count_3 : decode cX3_count 3 = .ok (.if_icmp .lt 22, 3) := by decide +kernel
theorem dX3_count_6 : decode cX3_count 6 = .ok (.iload_n 1, 1) := by decide +kernel
theorem dX3_count_7 : decode cX3_count 7 = .ok (.bipush 19, 2) := by decide +kernel
theorem dX3_count_9 : decode cX3_count 9 = .ok (.if_icmp .ge 16, 3) := by decide +kernel
theorem dX3_count_12 : decode cX3_count 12 = .ok (.aload_n 0, 1) := by decide +kernel
theorem dX3_count_13 : decode cX3_count 13 = .ok (.getfield 19, 3) := by decide +kernel
theorem dX3_count_16 : decode cX3_count 16 = .ok (.getfield 66, 3) := by decide +kernel
theorem dX3_count_19 : decode cX3_count 19 = .ok (.iload_n 1, 1) := by decide +kernel
theorem dX3_count_20 : decode cX3_count 20 = .ok (.bipush 10, 2) := by decide +kernel
theorem dX3_count_22 : decode cX3_count 22 = .ok (.isub, 1) := by decide +kernel
theorem dX3_count_23 : decode cX3_count 23 = .ok (.iaload, 1) := by decide +kernel
theorem dX3_count_24 : decode cX3_count 24 = .ok (.ireturn, 1) := by decide +kernel
theorem dX3_count_25 : decode cX3_count 25 = .ok (.iload_n 1, 1) := by decide +kernel
theorem dX3_count_26 : decode cX3_count 26 = .ok (.tableswitch 119 0 8 #[50, 58, 66, 74, 82, 90, 98, 106, 114], 50) := by decide +kernel
theorem dX3_count_76 : decode cX3_count 76 = .ok (.aload_n 0, 1) := by decide +kernel
theorem dX3_count_77 : decode cX3_count 77 = .ok (.getfield 19, 3) := by decide +kernel
theorem dX3_count_80 : decode cX3_count 80 = .ok (.getfield 59, 3) := by decide +kernel
theorem dX3_count_83 : decode cX3_count 83 = .ok (.ireturn, 1) := by decide +kernel
theorem dX3_count_84 : decode cX3_count 84 = .ok (.aload_n 0, 1) := by decide +kernel
theorem dX3_count_85 : decode cX3_count 85 = .ok (.getfield 34, 3) := by decide +kernel
theorem dX3_count_88 : decode cX3_count 88 = .ok (.getfield 113, 3) := by decide +kernel
theorem dX3_count_91 : decode cX3_count 91 = .ok (.ireturn, 1) := by decide +kernel
theorem dX3_count_92 : decode cX3_count 92 = .ok (.aload_n 0, 1) := by decide +kernel
theorem dX3_count_93 : decode cX3_count 93 = .ok (.getfield 34, 3) := by decide +kernel
theorem dX3_count_96 : decode cX3_count 96 = .ok (.invokevirtual 151, 3) := by decide +kernel
theorem dX3_count_99 : decode cX3_count 99 = .ok (.ireturn, 1) := by decide +kernel
theorem dX3_count_100 : decode cX3_count 100 = .ok (.aload_n 0, 1) := by decide +kernel
theorem dX3_count_101 : decode cX3_count 101 = .ok (.getfield 19, 3) := by decide +kernel
theorem dX3_count_104 : decode cX3_count 104 = .ok (.invokevirtual 77, 3) := by decide +kernel
theorem dX3_count_107 : decode cX3_count 107 = .ok (.ireturn, 1) := by decide +kernel
theorem dX3_count_108 : decode cX3_count 108 = .ok (.aload_n 0, 1) := by decide +kernel
theorem dX3_count_109 : decode cX3_count 109 = .ok (.getfield 34, 3) := by decide +kernel
theorem dX3_count_112 : decode cX3_count 112 = .ok (.invokevirtual 116, 3) := by decide +kernel
theorem dX3_count_115 : decode cX3_count 115 = .ok (.ireturn, 1) := by decide +kernel
theorem dX3_count_116 : decode cX3_count 116 = .ok (.aload_n 0, 1) := by decide +kernel
theorem dX3_count_117 : decode cX3_count 117 = .ok (.getfield 34, 3) := by decide +kernel
theorem dX3_count_120 : decode cX3_count 120 = .ok (.invokevirtual 154, 3) := by decide +kernel
theorem dX3_count_123 : decode cX3_count 123 = .ok (.ireturn, 1) := by decide +kernel
theorem dX3_count_124 : decode cX3_count 124 = .ok (.aload_n 0, 1) := by decide +kernel
theorem dX3_count_125 : decode cX3_count 125 = .ok (.getfield 34, 3) := by decide +kernel
theorem dX3_count_128 : decode cX3_count 128 = .ok (.invokevirtual 157, 3) := by decide +kernel
theorem dX3_count_131 : decode cX3_count 131 = .ok (.ireturn, 1) := by decide +kernel
theorem dX3_count_132 : decode cX3_count 132 = .ok (.aload_n 0, 1) := by decide +kernel
theorem dX3_count_133 : decode cX3_count 133 = .ok (.getfield 12, 3) := by decide +kernel
theorem dX3_count_136 : decode cX3_count 136 = .ok (.getfield 41, 3) := by decide +kernel
theorem dX3_count_139 : decode cX3_count 139 = .ok (.ireturn, 1) := by decide +kernel
theorem dX3_count_140 : decode cX3_count 140 = .ok (.aload_n 0, 1) := by decide +kernel
theorem dX3_count_141 : decode cX3_count 141 = .ok (.getfield 27, 3) := by decide +kernel
theorem dX3_count_144 : decode cX3_count 144 = .ok (.ireturn, 1) := by decide +kernel
theorem dX3_count_145 : decode cX3_count 145 = .ok (.bipush (-2), 2) := by decide +kernel
theorem dX3_count_147 : decode cX3_count 147 = .ok (.ireturn, 1) := by decide +kernel
set_option maxRecDepth 20000 in
theorem ggX3_layNow_X1_lay : GoodIn wsX3_layNow wsX1_lay := goodIn_r _ [8, 9, 10, 11, 12, 13, 14, 15, 16, 7, 17, 18, 19, 20, 21, 22, 23, 24, 25, 26, 27, 28, 29, 30, 31, 32, 33, 34, 35, 36, 37, 38, 39, 40, 41, 42, 43, 44, 45, 46, 47, 48, 49, 50, 51, 52, 53, 54, 55, 56, 57, 58, 59, 66, 67, 68, 69, 70, 71, 72, 73, 74, 75, 76, 77, 78] (by decide +kernel) (by decide +kernel)
set_option maxRecDepth 20000 in
theorem gX3_layNow_X1_lay : GoodIn wsX3_layNow (wsV RX3 143 RX1 yX1_lay wsX1_lay) := goodIn_app (goodIn_of _ (by decide +kernel)) ggX3_layNow_X1_lay
theorem dX3_layNow_0 : decode cX3_layNow 0 = .ok (.aload_n 0, 1) := by decide +kernel
theorem dX3_layNow_1 : decode cX3_layNow 1 = .ok (.getfield 34, 3) := by decide +kernel
theorem dX3_layNow_4 : decode cX3_layNow 4 = .ok (.aload_n 0, 1) := by decide +kernel
theorem dX3_layNow_5 : decode cX3_layNow 5 = .ok (.getfield 19, 3) := by decide +kernel
theorem dX3_layNow_8 : decode cX3_layNow 8 = .ok (.aload_n 0, 1) := by decide +kernel
theorem dX3_layNow_9 : decode cX3_layNow 9 = .ok (.getfield 19, 3) := by decide +kernel
theorem dX3_layNow_12 : decode cX3_layNow 12 = .ok (.getfield 66, 3) := by decide +kernel
theorem dX3_layNow_15 : decode cX3_layNow 15 = .ok (.iconst 0, 1) := by decide +kernel
theorem dX3_layNow_16 : decode cX3_layNow 16 = .ok (.iaload, 1) := by decide +kernel
theorem dX3_layNow_17 : decode cX3_layNow 17 = .ok (.iconst (-1), 1) := by decide +kernel
theorem dX3_layNow_18 : decode cX3_layNow 18 = .ok (.invokevirtual 143, 3) := by decide +kernel
theorem dX3_layNow_21 : decode cX3_layNow 21 = .ok (.return_, 1) := by decide +kernel
set_option maxRecDepth 20000 in
theorem ggX3_countChanged_X1_lay : GoodIn wsX3_countChanged wsX1_lay := goodIn_r _ [14, 15, 16, 17, 18, 19, 20, 21, 22, 13, 23, 24, 25, 26, 27, 28, 29, 30, 31, 32, 33, 34, 35, 36, 37, 38, 39, 40, 41, 42, 43, 44, 45, 46, 47, 48, 49, 50, 51, 52, 53, 54, 55, 56, 57, 58, 59, 60, 61, 62, 63, 64, 65, 80, 81, 82, 83, 84, 85, 86, 87, 88, 89, 90, 91, 92] (by decide +kernel) (by decide +kernel)
set_option maxRecDepth 20000 in
theorem gX3_countChanged_X1_lay : GoodIn wsX3_countChanged (wsV RX3 143 RX1 yX1_lay wsX1_lay) := goodIn_app (goodIn_of _ (by decide +kernel)) ggX3_countChanged_X1_lay
set_option maxRecDepth 20000 in
theorem ggX3_countChanged_X1_headOrNone : GoodIn wsX3_countChanged wsX1_headOrNone := goodIn_r _ [69, 19, 70, 71, 72, 13, 73, 17, 84, 85, 86, 87, 88, 89, 90, 91, 92] (by decide +kernel) (by decide +kernel)
set_option maxRecDepth 20000 in
theorem gX3_countChanged_X1_headOrNone : GoodIn wsX3_countChanged (wsV RX3 160 RX1 yX1_headOrNone wsX1_headOrNone) := goodIn_app (goodIn_of _ (by decide +kernel)) ggX3_countChanged_X1_headOrNone
theorem dX3_countChanged_0 : decode cX3_countChanged 0 = .ok (.aload_n 0, 1) := by decide +kernel
theorem dX3_countChanged_1 : decode cX3_countChanged 1 = .ok (.getfield 38, 3) := by decide +kernel
theorem dX3_countChanged_4 : decode cX3_countChanged 4 = .ok (.aload_n 0, 1) := by decide +kernel
theorem dX3_countChanged_5 : decode cX3_countChanged 5 = .ok (.getfield 19, 3) := by decide +kernel
theorem dX3_countChanged_8 : decode cX3_countChanged 8 = .ok (.aload_n 0, 1) := by decide +kernel
theorem dX3_countChanged_9 : decode cX3_countChanged 9 = .ok (.getfield 19, 3) := by decide +kernel
theorem dX3_countChanged_12 : decode cX3_countChanged 12 = .ok (.getfield 66, 3) := by decide +kernel
theorem dX3_countChanged_15 : decode cX3_countChanged 15 = .ok (.iconst 0, 1) := by decide +kernel
theorem dX3_countChanged_16 : decode cX3_countChanged 16 = .ok (.iaload, 1) := by decide +kernel
theorem dX3_countChanged_17 : decode cX3_countChanged 17 = .ok (.iload_n 1, 1) := by decide +kernel
theorem dX3_countChanged_18 : decode cX3_countChanged 18 = .ok (.invokevirtual 143, 3) := by decide +kernel
theorem dX3_countChanged_21 : decode cX3_countChanged 21 = .ok (.aload_n 0, 1) := by decide +kernel
theorem dX3_countChanged_22 : decode cX3_countChanged 22 = .ok (.getfield 34, 3) := by decide +kernel
theorem dX3_countChanged_25 : decode cX3_countChanged 25 = .ok (.getfield 113, 3) := by decide +kernel
theorem dX3_countChanged_28 : decode cX3_countChanged 28 = .ok (.aload_n 0, 1) := by decide +kernel
theorem dX3_countChanged_29 : decode cX3_countChanged 29 = .ok (.getfield 38, 3) := by decide +kernel
theorem dX3_countChanged_32 : decode cX3_countChanged 32 = .ok (.getfield 113, 3) := by decide +kernel
theorem dX3_countChanged_35 : decode cX3_countChanged 35 = .ok (.invokestatic 135, 3) := by decide +kernel
theorem dX3_countChanged_38 : decode cX3_countChanged 38 = .ok (.istore_n 2, 1) := by decide +kernel
theorem dX3_countChanged_39 : decode cX3_countChanged 39 = .ok (.iconst 0, 1) := by decide +kernel
theorem dX3_countChanged_40 : decode cX3_countChanged 40 = .ok (.istore_n 3, 1) := by decide +kernel
theorem dX3_countChanged_41 : decode cX3_countChanged 41 = .ok (.iconst 1, 1) := by decide +kernel
theorem dX3_countChanged_42 : decode cX3_countChanged 42 = .ok (.istore 4, 2) := by decide +kernel
theorem dX3_countChanged_44 : decode cX3_countChanged 44 = .ok (.iload 4, 2) := by decide +kernel
theorem dX3_countChanged_46 : decode cX3_countChanged 46 = .ok (.iload_n 2, 1) := by decide +kernel
theorem dX3_countChanged_47 : decode cX3_countChanged 47 = .ok (.if_icmp .gt 33, 3) := by decide +kernel
theorem dX3_countChanged_50 : decode cX3_countChanged 50 = .ok (.aload_n 0, 1) := by decide +kernel
theorem dX3_countChanged_51 : decode cX3_countChanged 51 = .ok (.getfield 34, 3) := by decide +kernel
theorem dX3_countChanged_54 : decode cX3_countChanged 54 = .ok (.iload 4, 2) := by decide +kernel
theorem dX3_countChanged_56 : decode cX3_countChanged 56 = .ok (.invokevirtual 160, 3) := by decide +kernel
theorem dX3_countChanged_59 : decode cX3_countChanged 59 = .ok (.aload_n 0, 1) := by decide +kernel
theorem dX3_countChanged_60 : decode cX3_countChanged 60 = .ok (.getfield 38, 3) := by decide +kernel
theorem dX3_countChanged_63 : decode cX3_countChanged 63 = .ok (.iload 4, 2) := by decide +kernel
theorem dX3_countChanged_65 : decode cX3_countChanged 65 = .ok (.invokevirtual 160, 3) := by decide +kernel
theorem dX3_countChanged_68 : decode cX3_countChanged 68 = .ok (.if_icmp .eq 6, 3) := by decide +kernel
theorem dX3_countChanged_71 : decode cX3_countChanged 71 = .ok (.iinc 3 1, 3) := by decide +kernel
theorem dX3_countChanged_74 : decode cX3_countChanged 74 = .ok (.iinc 4 1, 3) := by decide +kernel
theorem dX3_countChanged_77 : decode cX3_countChanged 77 = .ok (.goto (-33), 3) := by decide +kernel
theorem dX3_countChanged_80 : decode cX3_countChanged 80 = .ok (.iload_n 3, 1) := by decide +kernel
theorem dX3_countChanged_81 : decode cX3_countChanged 81 = .ok (.ireturn, 1) := by decide +kernel
theorem dX3_classOf_0 : decode cX3_classOf 0 = .ok (.iload_n 0, 1) := by decide +kernel
theorem dX3_classOf_1 : decode cX3_classOf 1 = .ok (.bipush 65, 2) := by decide +kernel
theorem dX3_classOf_3 : decode cX3_classOf 3 = .ok (.if_icmp .lt 11, 3) := by decide +kernel
theorem dX3_classOf_6 : decode cX3_classOf 6 = .ok (.iload_n 0, 1) := by decide +kernel
theorem dX3_classOf_7 : decode cX3_classOf 7 = .ok (.bipush 72, 2) := by decide +kernel
theorem dX3_classOf_9 : decode cX3_classOf 9 = .ok (.if_icmp .gt 5, 3) := by decide +kernel
theorem dX3_classOf_12 : decode cX3_classOf 12 = .ok (.iconst 0, 1) := by decide +kernel
theorem dX3_classOf_13 : decode cX3_classOf 13 = .ok (.ireturn, 1) := by decide +kernel
theorem dX3_classOf_14 : decode cX3_classOf 14 = .ok (.iload_n 0, 1) := by decide +kernel
theorem dX3_classOf_15 : decode cX3_classOf 15 = .ok (.bipush 97, 2) := by decide +kernel
theorem dX3_classOf_17 : decode cX3_classOf 17 = .ok (.if_icmp .lt 13, 3) := by decide +kernel
theorem dX3_classOf_20 : decode cX3_classOf 20 = .ok (.iload_n 0, 1) := by decide +kernel
theorem dX3_classOf_21 : decode cX3_classOf 21 = .ok (.bipush 104, 2) := by decide +kernel
theorem dX3_classOf_23 : decode cX3_classOf 23 = .ok (.if_icmp .gt 7, 3) := by decide +kernel
theorem dX3_classOf_26 : decode cX3_classOf 26 = .ok (.iconst 1, 1) := by decide +kernel
theorem dX3_classOf_27 : decode cX3_classOf 27 = .ok (.goto 5, 3) := by decide +kernel
theorem dX3_classOf_30 : decode cX3_classOf 30 = .ok (.bipush (-6), 2) := by decide +kernel
theorem dX3_classOf_32 : decode cX3_classOf 32 = .ok (.ireturn, 1) := by decide +kernel
theorem dX4_init_0 : decode cX4_init 0 = .ok (.aload_n 0, 1) := by decide +kernel
theorem dX4_init_1 : decode cX4_init 1 = .ok (.invokespecial 1, 3) := by decide +kernel
theorem dX4_init_4 : decode cX4_init 4 = .ok (.aload_n 0, 1) := by decide +kernel
theorem dX4_init_5 : decode cX4_init 5 = .ok (.sipush 130, 3) := by decide +kernel
theorem dX4_init_8 : decode cX4_init 8 = .ok (.newarray .int, 2) := by decide +kernel
theorem dX4_init_10 : decode cX4_init 10 = .ok (.putfield 7, 3) := by decide +kernel
theorem dX4_init_13 : decode cX4_init 13 = .ok (.aload_n 0, 1) := by decide +kernel
theorem dX4_init_14 : decode cX4_init 14 = .ok (.sipush 260, 3) := by decide +kernel
theorem dX4_init_17 : decode cX4_init 17 = .ok (.newarray .int, 2) := by decide +kernel
theorem dX4_init_19 : decode cX4_init 19 = .ok (.putfield 13, 3) := by decide +kernel
theorem dX4_init_22 : decode cX4_init 22 = .ok (.aload_n 0, 1) := by decide +kernel
theorem dX4_init_23 : decode cX4_init 23 = .ok (.iconst 2, 1) := by decide +kernel
theorem dX4_init_24 : decode cX4_init 24 = .ok (.newarray .boolean, 2) := by decide +kernel
theorem dX4_init_26 : decode cX4_init 26 = .ok (.putfield 16, 3) := by decide +kernel
theorem dX4_init_29 : decode cX4_init 29 = .ok (.aload_n 0, 1) := by decide +kernel
theorem dX4_init_30 : decode cX4_init 30 = .ok (.bipush 60, 2) := by decide +kernel
theorem dX4_init_32 : decode cX4_init 32 = .ok (.newarray .int, 2) := by decide +kernel
theorem dX4_init_34 : decode cX4_init 34 = .ok (.putfield 20, 3) := by decide +kernel
theorem dX4_init_37 : decode cX4_init 37 = .ok (.aload_n 0, 1) := by decide +kernel
theorem dX4_init_38 : decode cX4_init 38 = .ok (.bipush 60, 2) := by decide +kernel
theorem dX4_init_40 : decode cX4_init 40 = .ok (.newarray .int, 2) := by decide +kernel
theorem dX4_init_42 : decode cX4_init 42 = .ok (.putfield 23, 3) := by decide +kernel
theorem dX4_init_45 : decode cX4_init 45 = .ok (.aload_n 0, 1) := by decide +kernel
theorem dX4_init_46 : decode cX4_init 46 = .ok (.bipush 60, 2) := by decide +kernel
theorem dX4_init_48 : decode cX4_init 48 = .ok (.newarray .int, 2) := by decide +kernel
theorem dX4_init_50 : decode cX4_init 50 = .ok (.putfield 26, 3) := by decide +kernel
theorem dX4_init_53 : decode cX4_init 53 = .ok (.aload_n 0, 1) := by decide +kernel
theorem dX4_init_54 : decode cX4_init 54 = .ok (.bipush 120, 2) := by decide +kernel
theorem dX4_init_56 : decode cX4_init 56 = .ok (.newarray .int, 2) := by decide +kernel
theorem dX4_init_58 : decode cX4_init 58 = .ok (.putfield 29, 3) := by decide +kernel
theorem dX4_init_61 : decode cX4_init 61 = .ok (.aload_n 0, 1) := by decide +kernel
theorem dX4_init_62 : decode cX4_init 62 = .ok (.sipush 130, 3) := by decide +kernel
theorem dX4_init_65 : decode cX4_init 65 = .ok (.newarray .int, 2) := by decide +kernel
theorem dX4_init_67 : decode cX4_init 67 = .ok (.putfield 32, 3) := by decide +kernel
theorem dX4_init_70 : decode cX4_init 70 = .ok (.aload_n 0, 1) := by decide +kernel
theorem dX4_init_71 : decode cX4_init 71 = .ok (.sipush 130, 3) := by decide +kernel
theorem dX4_init_74 : decode cX4_init 74 = .ok (.newarray .int, 2) := by decide +kernel
theorem dX4_init_76 : decode cX4_init 76 = .ok (.putfield 35, 3) := by decide +kernel
theorem dX4_init_79 : decode cX4_init 79 = .ok (.aload_n 0, 1) := by decide +kernel
theorem dX4_init_80 : decode cX4_init 80 = .ok (.sipush 130, 3) := by decide +kernel
theorem dX4_init_83 : decode cX4_init 83 = .ok (.newarray .int, 2) := by decide +kernel
theorem dX4_init_85 : decode cX4_init 85 = .ok (.putfield 38, 3) := by decide +kernel
theorem dX4_init_88 : decode cX4_init 88 = .ok (.aload_n 0, 1) := by decide +kernel
theorem dX4_init_89 : decode cX4_init 89 = .ok (.getfield 7, 3) := by decide +kernel
theorem dX4_init_92 : decode cX4_init 92 = .ok (.bipush 121, 2) := by decide +kernel
theorem dX4_init_94 : decode cX4_init 94 = .ok (.iconst 5, 1) := by decide +kernel
theorem dX4_init_95 : decode cX4_init 95 = .ok (.iastore, 1) := by decide +kernel
theorem dX4_init_96 : decode cX4_init 96 = .ok (.aload_n 0, 1) := by decide +kernel
theorem dX4_init_97 : decode cX4_init 97 = .ok (.getfield 7, 3) := by decide +kernel
theorem dX4_init_100 : decode cX4_init 100 = .ok (.bipush 123, 2) := by decide +kernel
theorem dX4_init_102 : decode cX4_init 102 = .ok (.iconst 1, 1) := by decide +kernel
theorem dX4_init_103 : decode cX4_init 103 = .ok (.iastore, 1) := by decide +kernel
theorem dX4_init_104 : decode cX4_init 104 = .ok (.aload_n 0, 1) := by decide +kernel
theorem dX4_init_105 : decode cX4_init 105 = .ok (.getfield 7, 3) := by decide +kernel
theorem dX4_init_108 : decode cX4_init 108 = .ok (.bipush 124, 2) := by decide +kernel
theorem dX4_init_110 : decode cX4_init 110 = .ok (.iconst 1, 1) := by decide +kernel
theorem dX4_init_111 : decode cX4_init 111 = .ok (.iastore, 1) := by decide +kernel
theorem dX4_init_112 : decode cX4_init 112 = .ok (.aload_n 0, 1) := by decide +kernel
theorem dX4_init_113 : decode cX4_init 113 = .ok (.getfield 7, 3) := by decide +kernel
theorem dX4_init_116 : decode cX4_init 116 = .ok (.bipush 127, 2) := by decide +kernel
theorem dX4_init_118 : decode cX4_init 118 = .ok (.iconst 1, 1) := by decide +kernel
theorem dX4_init_119 : decode cX4_init 119 = .ok (.iastore, 1) := by decide +kernel
theorem dX4_init_120 : decode cX4_init 120 = .ok (.aload_n 0, 1) := by decide +kernel
theorem dX4_init_121 : decode cX4_init 121 = .ok (.getfield 7, 3) := by decide +kernel
theorem dX4_init_124 : decode cX4_init 124 = .ok (.sipush 128, 3) := by decide +kernel
theorem dX4_init_127 : decode cX4_init 127 = .ok (.iconst 1, 1) := by decide +kernel
theorem dX4_init_128 : decode cX4_init 128 = .ok (.iastore, 1) := by decide +kernel
theorem dX4_init_129 : decode cX4_init 129 = .ok (.aload_n 0, 1) := by decide +kernel
theorem dX4_init_130 : decode cX4_init 130 = .ok (.getfield 7, 3) := by decide +kernel
theorem dX4_init_133 : decode cX4_init 133 = .ok (.sipush 129, 3) := by decide +kernel
theorem dX4_init_136 : decode cX4_init 136 = .ok (.iconst 2, 1) := by decide +kernel
theorem dX4_init_137 : decode cX4_init 137 = .ok (.iastore, 1) := by decide +kernel
theorem dX4_init_138 : decode cX4_init 138 = .ok (.return_, 1) := by decide +kernel
theorem dX4_in_0 : decode cX4_in 0 = .ok (.iload_n 0, 1) := by decide +kernel
theorem dX4_in_1 : decode cX4_in 1 = .ok (.iload_n 1, 1) := by decide +kernel
theorem dX4_in_2 : decode cX4_in 2 = .ok (.if_icmp .lt 12, 3) := by decide +kernel
theorem dX4_in_5 : decode cX4_in 5 = .ok (.iload_n 0, 1) := by decide +kernel
theorem dX4_in_6 : decode cX4_in 6 = .ok (.iload_n 2, 1) := by decide +kernel
theorem dX4_in_7 : decode cX4_in 7 = .ok (.if_icmp .gt 7, 3) := by decide +kernel
theorem dX4_in_10 : decode cX4_in 10 = .ok (.iconst 1, 1) := by decide +kernel
theorem dX4_in_11 : decode cX4_in 11 = .ok (.goto 4, 3) := by decide +kernel
theorem dX4_in_14 : decode cX4_in 14 = .ok (.iconst 0, 1) := by decide +kernel
theorem dX4_in_15 : decode cX4_in 15 = .ok (.ireturn, 1) := by decide +kernel
set_option maxRecDepth 20000 in
theorem ggX4_isChapter_X4_in : GoodIn wsX4_isChapter wsX4_in := goodIn_r _ [4] (by decide +kernel) (by decide +kernel)
set_option maxRecDepth 20000 in
theorem gX4_isChapter_X4_in : GoodIn wsX4_isChapter (va_wsS RX4 41 yX4_in wsX4_in) := goodIn_app (goodIn_of _ (by decide +kernel)) ggX4_isChapter_X4_in
theorem dX4_isChapter_0 : decode cX4_isChapter 0 = .ok (.iload_n 0, 1) := by decide +kernel
theorem dX4_isChapter_1 : decode cX4_isChapter 1 = .ok (.bipush 65, 2) := by decide +kernel
theorem dX4_isChapter_3 : decode cX4_isChapter 3 = .ok (.bipush 72, 2) := by decide +kernel
theorem dX4_isChapter_5 : decode cX4_isChapter 5 = .ok (.invokestatic 41, 3) := by decide +kernel
theorem dX4_isChapter_8 : decode cX4_isChapter 8 = .ok (.ireturn, 1) := by decide +kernel
set_option maxRecDepth 20000 in
theorem ggX4_isSection_X4_in : GoodIn wsX4_isSection wsX4_in := goodIn_r _ [4] (by decide +kernel) (by decide +kernel)
set_option maxRecDepth 20000 in
theorem gX4_isSection_X4_in : GoodIn wsX4_isSection (va_wsS RX4 41 yX4_in wsX4_in) := goodIn_app (goodIn_of _ (by decide +kernel)) ggX4_isSection_X4_in
theorem dX4_isSection_0 : decode cX4_isSection 0 = .ok (.iload_n 0, 1) := by decide +kernel
theorem dX4_isSection_1 : decode cX4_isSection 1 = .ok (.bipush 97, 2) := by decide +kernel
theorem dX4_isSection_3 : decode cX4_isSection 3 = .ok (.bipush 104, 2) := by decide +kernel
theorem dX4_isSection_5 : decode cX4_isSection 5 = .ok (.invokestatic 41, 3) := by decide +kernel
theorem dX4_isSection_8 : decode cX4_isSection 8 = .ok (.ireturn, 1) := by decide +kernel
theorem dX4_many_0 : decode cX4_many 0 = .ok (.aload_n 0, 1) := by decide +kernel
theorem dX4_many_1 : decode cX4_many 1 = .ok (.getfield 7, 3) := by decide +kernel
theorem dX4_many_4 : decode cX4_many 4 = .ok (.bipush 120, 2) := by decide +kernel
theorem dX4_many_6 : decode cX4_many 6 = .ok (.iaload, 1) := by decide +kernel
theorem dX4_many_7 : decode cX4_many 7 = .ok (.ireturn, 1) := by decide +kernel
set_option maxRecDepth 20000 in
theorem ggX4_isLine_X4_many : GoodIn wsX4_isLine wsX4_many := goodIn_r _ [5, 6, 10, 11, 12, 13, 14, 15, 16, 17, 18, 19, 20, 21] (by decide +kernel) (by decide +kernel)
set_option maxRecDepth 20000 in
theorem gX4_isLine_X4_many : GoodIn wsX4_isLine (wsV RX4 45 RX4 yX4_many wsX4_many) := goodIn_app (goodIn_of _ (by decide +kernel)) ggX4_isLine_X4_many
set_option maxRecDepth 20000 in
theorem ggX4_isLine_X4_in : GoodIn wsX4_isLine wsX4_in := goodIn_r _ [9] (by decide +kernel) (by decide +kernel)
set_option maxRecDepth 20000 in
theorem gX4_isLine_X4_in : GoodIn wsX4_isLine (va_wsS RX4 41 yX4_in wsX4_in) := goodIn_app (goodIn_of _ (by decide +kernel)) ggX4_isLine_X4_in
theorem dX4_isLine_0 : decode cX4_isLine 0 = .ok (.iload_n 1, 1) := by decide +kernel
theorem dX4_isLine_1 : decode cX4_isLine 1 = .ok (.iconst 0, 1) := by decide +kernel
theorem dX4_isLine_2 : decode cX4_isLine 2 = .ok (.aload_n 0, 1) := by decide +kernel
theorem dX4_isLine_3 : decode cX4_isLine 3 = .ok (.invokevirtual 45, 3) := by decide +kernel
theorem dX4_isLine_6 : decode cX4_isLine 6 = .ok (.iconst 1, 1) := by decide +kernel
theorem dX4_isLine_7 : decode cX4_isLine 7 = .ok (.isub, 1) := by decide +kernel
theorem dX4_isLine_8 : decode cX4_isLine 8 = .ok (.invokestatic 41, 3) := by decide +kernel
theorem dX4_isLine_11 : decode cX4_isLine 11 = .ok (.ireturn, 1) := by decide +kernel
set_option maxRecDepth 20000 in
theorem ggX4_say_X4_in : GoodIn wsX4_say wsX4_in := goodIn_r _ [6] (by decide +kernel) (by decide +kernel)
set_option maxRecDepth 20000 in
theorem gX4_say_X4_in : GoodIn wsX4_say (va_wsS RX4 41 yX4_in wsX4_in) := goodIn_app (goodIn_of _ (by decide +kernel)) ggX4_say_X4_in
theorem dX4_say_0 : decode cX4_say 0 = .ok (.iload_n 1, 1) := by decide +kernel
theorem dX4_say_1 : decode cX4_say 1 = .ok (.bipush 33, 2) := by decide +kernel
theorem dX4_say_3 : decode cX4_say 3 = .ok (.bipush 126, 2) := by decide +kernel
theorem dX4_say_5 : decode cX4_say 5 = .ok (.invokestatic 41, 3) := by decide +kernel
theorem dX4_say_8 : decode cX4_say 8 = .ok (.ifCond .ne 6, 3) := by decide +kernel
theorem dX4_say_11 : decode cX4_say 11 = .ok (.bipush (-2), 2) := by decide +kernel
theorem dX4_say_13 : decode cX4_say 13 = .ok (.ireturn, 1) := by decide +kernel
theorem dX4_say_14 : decode cX4_say 14 = .ok (.aload_n 0, 1) := by decide +kernel
theorem dX4_say_15 : decode cX4_say 15 = .ok (.getfield 49, 3) := by decide +kernel
theorem dX4_say_18 : decode cX4_say 18 = .ok (.bipush 60, 2) := by decide +kernel
theorem dX4_say_20 : decode cX4_say 20 = .ok (.if_icmp .ne 6, 3) := by decide +kernel
theorem dX4_say_23 : decode cX4_say 23 = .ok (.bipush (-4), 2) := by decide +kernel
theorem dX4_say_25 : decode cX4_say 25 = .ok (.ireturn, 1) := by decide +kernel
theorem dX4_say_26 : decode cX4_say 26 = .ok (.aload_n 0, 1) := by decide +kernel
theorem dX4_say_27 : decode cX4_say 27 = .ok (.getfield 20, 3) := by decide +kernel
theorem dX4_say_30 : decode cX4_say 30 = .ok (.aload_n 0, 1) := by decide +kernel
theorem dX4_say_31 : decode cX4_say 31 = .ok (.getfield 49, 3) := by decide +kernel
theorem dX4_say_34 : decode cX4_say 34 = .ok (.iload_n 1, 1) := by decide +kernel
theorem dX4_say_35 : decode cX4_say 35 = .ok (.iastore, 1) := by decide +kernel
theorem dX4_say_36 : decode cX4_say 36 = .ok (.aload_n 0, 1) := by decide +kernel
theorem dX4_say_37 : decode cX4_say 37 = .ok (.dup, 1) := by decide +kernel
theorem dX4_say_38 : decode cX4_say 38 = .ok (.getfield 49, 3) := by decide +kernel
theorem dX4_say_41 : decode cX4_say 41 = .ok (.iconst 1, 1) := by decide +kernel
theorem dX4_say_42 : decode cX4_say 42 = .ok (.iadd, 1) := by decide +kernel
theorem dX4_say_43 : decode cX4_say 43 = .ok (.putfield 49, 3) := by decide +kernel
theorem dX4_say_46 : decode cX4_say 46 = .ok (.aload_n 0, 1) := by decide +kernel
theorem dX4_say_47 : decode cX4_say 47 = .ok (.getfield 49, 3) := by decide +kernel
theorem dX4_say_50 : decode cX4_say 50 = .ok (.ireturn, 1) := by decide +kernel
theorem dX4_wipe_0 : decode cX4_wipe 0 = .ok (.aload_n 0, 1) := by decide +kernel
theorem dX4_wipe_1 : decode cX4_wipe 1 = .ok (.getfield 49, 3) := by decide +kernel
theorem dX4_wipe_4 : decode cX4_wipe 4 = .ok (.istore_n 1, 1) := by decide +kernel
theorem dX4_wipe_5 : decode cX4_wipe 5 = .ok (.aload_n 0, 1) := by decide +kernel
theorem dX4_wipe_6 : decode cX4_wipe 6 = .ok (.iconst 0, 1) := by decide +kernel
theorem dX4_wipe_7 : decode cX4_wipe 7 = .ok (.putfield 49, 3) := by decide +kernel
theorem dX4_wipe_10 : decode cX4_wipe 10 = .ok (.iload_n 1, 1) := by decide +kernel
theorem dX4_wipe_11 : decode cX4_wipe 11 = .ok (.ireturn, 1) := by decide +kernel
set_option maxRecDepth 20000 in
theorem ggX4_canStand_X4_isChapter : GoodIn wsX4_canStand wsX4_isChapter := goodIn_r _ [5, 6, 7, 4, 8] (by decide +kernel) (by decide +kernel)
set_option maxRecDepth 20000 in
theorem gX4_canStand_X4_isChapter : GoodIn wsX4_canStand (va_wsS RX4 53 yX4_isChapter wsX4_isChapter) := goodIn_app (goodIn_of _ (by decide +kernel)) ggX4_canStand_X4_isChapter
set_option maxRecDepth 20000 in
theorem ggX4_canStand_X4_isSection : GoodIn wsX4_canStand wsX4_isSection := goodIn_r _ [11, 6, 7, 4, 8] (by decide +kernel) (by decide +kernel)
set_option maxRecDepth 20000 in
theorem gX4_canStand_X4_isSection : GoodIn wsX4_canStand (va_wsS RX4 57 yX4_isSection wsX4_isSection) := goodIn_app (goodIn_of _ (by decide +kernel)) ggX4_canStand_X4_isSection
theorem dX4_canStand_0 : decode cX4_canStand 0 = .ok (.aload_n 0, 1) := by decide +kernel
theorem dX4_canStand_1 : decode cX4_canStand 1 = .ok (.getfield 20, 3) := by decide +kernel
theorem dX4_canStand_4 : decode cX4_canStand 4 = .ok (.iload_n 1, 1) := by decide +kernel
theorem dX4_canStand_5 : decode cX4_canStand 5 = .ok (.iaload, 1) := by decide +kernel
theorem dX4_canStand_6 : decode cX4_canStand 6 = .ok (.bipush 47, 2) := by decide +kernel
theorem dX4_canStand_8 : decode cX4_canStand 8 = .ok (.if_icmp .ne 26, 3) := by decide +kernel
theorem dX4_canStand_11 : decode cX4_canStand 11 = .ok (.iload_n 1, 1) := by decide +kernel
theorem dX4_canStand_12 : decode cX4_canStand 12 = .ok (.ifCond .le 20, 3) := by decide +kernel
theorem dX4_canStand_15 : decode cX4_canStand 15 = .ok (.aload_n 0, 1) := by decide +kernel
theorem dX4_canStand_16 : decode cX4_canStand 16 = .ok (.getfield 20, 3) := by decide +kernel
theorem dX4_canStand_19 : decode cX4_canStand 19 = .ok (.iload_n 1, 1) := by decide +kernel
theorem dX4_canStand_20 : decode cX4_canStand 20 = .ok (.iconst 1, 1) := by decide +kernel
theorem dX4_canStand_21 : decode cX4_canStand 21 = .ok (.isub, 1) := by decide +kernel
theorem dX4_canStand_22 : decode cX4_canStand 22 = .ok (.iaload, 1) := by decide +kernel
theorem dX4_canStand_23 : decode cX4_canStand 23 = .ok (.bipush 47, 2) := by decide +kernel
theorem dX4_canStand_25 : decode cX4_canStand 25 = .ok (.if_icmp .eq 7, 3) := by decide +kernel
theorem dX4_canStand_28 : decode cX4_canStand 28 = .ok (.iconst 1, 1) := by decide +kernel
theorem dX4_canStand_29 : decode cX4_canStand 29 = .ok (.goto 4, 3) := by decide +kernel
theorem dX4_canStand_32 : decode cX4_canStand 32 = .ok (.iconst 0, 1) := by decide +kernel
theorem dX4_canStand_33 : decode cX4_canStand 33 = .ok (.ireturn, 1) := by decide +kernel
theorem dX4_canStand_34 : decode cX4_canStand 34 = .ok (.aload_n 0, 1) := by decide +kernel
theorem dX4_canStand_35 : decode cX4_canStand 35 = .ok (.getfield 20, 3) := by decide +kernel
theorem dX4_canStand_38 : decode cX4_canStand 38 = .ok (.iload_n 1, 1) := by decide +kernel
theorem dX4_canStand_39 : decode cX4_canStand 39 = .ok (.iaload, 1) := by decide +kernel
theorem dX4_canStand_40 : decode cX4_canStand 40 = .ok (.bipush 46, 2) := by decide +kernel
theorem dX4_canStand_42 : decode cX4_canStand 42 = .ok (.if_icmp .eq 27, 3) := by decide +kernel
theorem dX4_canStand_45 : decode cX4_canStand 45 = .ok (.aload_n 0, 1) := by decide +kernel
theorem dX4_canStand_46 : decode cX4_canStand 46 = .ok (.getfield 20, 3) := by decide +kernel
theorem dX4_canStand_49 : decode cX4_canStand 49 = .ok (.iload_n 1, 1) := by decide +kernel
theorem dX4_canStand_50 : decode cX4_canStand 50 = .ok (.iaload, 1) := by decide +kernel
theorem dX4_canStand_51 : decode cX4_canStand 51 = .ok (.invokestatic 53, 3) := by decide +kernel
theorem dX4_canStand_54 : decode cX4_canStand 54 = .ok (.ifCond .ne 15, 3) := by decide +kernel
theorem dX4_canStand_57 : decode cX4_canStand 57 = .ok (.aload_n 0, 1) := by decide +kernel
theorem dX4_canStand_58 : decode cX4_canStand 58 = .ok (.getfield 20, 3) := by decide +kernel
theorem dX4_canStand_61 : decode cX4_canStand 61 = .ok (.iload_n 1, 1) := by decide +kernel
theorem dX4_canStand_62 : decode cX4_canStand 62 = .ok (.iaload, 1) := by decide +kernel
theorem dX4_canStand_63 : decode cX4_canStand 63 = .ok (.invokestatic 57, 3) := by decide +kernel
theorem dX4_canStand_66 : decode cX4_canStand 66 = .ok (.ifCond .eq 7, 3) := by decide +kernel
theorem dX4_canStand_69 : decode cX4_canStand 69 = .ok (.iconst 1, 1) := by decide +kernel
theorem dX4_canStand_70 : decode cX4_canStand 70 = .ok (.goto 4, 3) := by decide +kernel
theorem dX4_canStand_73 : decode cX4_canStand 73 = .ok (.iconst 0, 1) := by decide +kernel
theorem dX4_canStand_74 : decode cX4_canStand 74 = .ok (.ireturn, 1) := by decide +kernel
set_option maxRecDepth 20000 in
theorem ggX4_fault_X4_canStand : GoodIn wsX4_fault wsX4_canStand := goodIn_r _ [7, 2, 8, 9, 6, 10, 11, 12, 13, 14, 15, 16, 17, 18, 19, 20, 21, 22, 23, 24, 25, 26, 27, 28] (by decide +kernel) (by decide +kernel)
set_option maxRecDepth 20000 in
theorem gX4_fault_X4_canStand : GoodIn wsX4_fault (wsV RX4 60 RX4 yX4_canStand wsX4_canStand) := goodIn_app (goodIn_of _ (by decide +kernel)) ggX4_fault_X4_canStand
theorem dX4_fault_0 : decode cX4_fault 0 = .ok (.iconst 0, 1) := by decide +kernel
theorem dX4_fault_1 : decode cX4_fault 1 = .ok (.istore_n 1, 1) := by decide +kernel
theorem dX4_fault_2 : decode cX4_fault 2 = .ok (.iload_n 1, 1) := by decide +kernel
theorem dX4_fault_3 : decode cX4_fault 3 = .ok (.aload_n 0, 1) := by decide +kernel
theorem dX4_fault_4 : decode cX4_fault 4 = .ok (.getfield 49, 3) := by decide +kernel
theorem dX4_fault_7 : decode cX4_fault 7 = .ok (.if_icmp .ge 19, 3) := by decide +kernel
theorem dX4_fault_10 : decode cX4_fault 10 = .ok (.aload_n 0, 1) := by decide +kernel
theorem dX4_fault_11 : decode cX4_fault 11 = .ok (.iload_n 1, 1) := by decide +kernel
theorem dX4_fault_12 : decode cX4_fault 12 = .ok (.invokevirtual 60, 3) := by decide +kernel
theorem dX4_fault_15 : decode cX4_fault 15 = .ok (.ifCond .ne 5, 3) := by decide +kernel
theorem dX4_fault_18 : decode cX4_fault 18 = .ok (.iload_n 1, 1) := by decide +kernel
theorem dX4_fault_19 : decode cX4_fault 19 = .ok (.ireturn, 1) := by decide +kernel
theorem dX4_fault_20 : decode cX4_fault 20 = .ok (.iinc 1 1, 3) := by decide +kernel
theorem dX4_fault_23 : decode cX4_fault 23 = .ok (.goto (-21), 3) := by decide +kernel
theorem dX4_fault_26 : decode cX4_fault 26 = .ok (.aload_n 0, 1) := by decide +kernel
theorem dX4_fault_27 : decode cX4_fault 27 = .ok (.getfield 49, 3) := by decide +kernel
theorem dX4_fault_30 : decode cX4_fault 30 = .ok (.ifCond .le 26, 3) := by decide +kernel
theorem dX4_fault_33 : decode cX4_fault 33 = .ok (.aload_n 0, 1) := by decide +kernel
theorem dX4_fault_34 : decode cX4_fault 34 = .ok (.getfield 20, 3) := by decide +kernel
theorem dX4_fault_37 : decode cX4_fault 37 = .ok (.aload_n 0, 1) := by decide +kernel
theorem dX4_fault_38 : decode cX4_fault 38 = .ok (.getfield 49, 3) := by decide +kernel
theorem dX4_fault_41 : decode cX4_fault 41 = .ok (.iconst 1, 1) := by decide +kernel
theorem dX4_fault_42 : decode cX4_fault 42 = .ok (.isub, 1) := by decide +kernel
theorem dX4_fault_43 : decode cX4_fault 43 = .ok (.iaload, 1) := by decide +kernel
theorem dX4_fault_44 : decode cX4_fault 44 = .ok (.bipush 47, 2) := by decide +kernel
theorem dX4_fault_46 : decode cX4_fault 46 = .ok (.if_icmp .ne 10, 3) := by decide +kernel
theorem dX4_fault_49 : decode cX4_fault 49 = .ok (.aload_n 0, 1) := by decide +kernel
theorem dX4_fault_50 : decode cX4_fault 50 = .ok (.getfield 49, 3) := by decide +kernel
theorem dX4_fault_53 : decode cX4_fault 53 = .ok (.goto 5, 3) := by decide +kernel
theorem dX4_fault_56 : decode cX4_fault 56 = .ok (.bipush (-6), 2) := by decide +kernel
theorem dX4_fault_58 : decode cX4_fault 58 = .ok (.ireturn, 1) := by decide +kernel
set_option maxRecDepth 20000 in
theorem ggX4_read_X4_fault : GoodIn wsX4_read wsX4_fault := goodIn_r _ [8, 1, 2, 9, 10, 11, 7, 12, 13, 14, 15, 16, 17, 18, 19, 20, 21, 22, 23, 24, 25, 26, 27, 28, 29, 30, 31, 32, 33] (by decide +kernel) (by decide +kernel)
set_option maxRecDepth 20000 in
theorem gX4_read_X4_fault : GoodIn wsX4_read (wsV RX4 63 RX4 yX4_fault wsX4_fault) := goodIn_app (goodIn_of _ (by decide +kernel)) ggX4_read_X4_fault
theorem dX4_read_0 : decode cX4_read 0 = .ok (.aload_n 0, 1) := by decide +kernel
theorem dX4_read_1 : decode cX4_read 1 = .ok (.invokevirtual 63, 3) := by decide +kernel
theorem dX4_read_4 : decode cX4_read 4 = .ok (.ifCond .lt 6, 3) := by decide +kernel
theorem dX4_read_7 : decode cX4_read 7 = .ok (.bipush (-7), 2) := by decide +kernel
theorem dX4_read_9 : decode cX4_read 9 = .ok (.ireturn, 1) := by decide +kernel
theorem dX4_read_10 : decode cX4_read 10 = .ok (.iconst 0, 1) := by decide +kernel
theorem dX4_read_11 : decode cX4_read 11 = .ok (.istore_n 1, 1) := by decide +kernel
theorem dX4_read_12 : decode cX4_read 12 = .ok (.iconst 0, 1) := by decide +kernel
theorem dX4_read_13 : decode cX4_read 13 = .ok (.istore_n 2, 1) := by decide +kernel
theorem dX4_read_14 : decode cX4_read 14 = .ok (.iload_n 2, 1) := by decide +kernel
theorem dX4_read_15 : decode cX4_read 15 = .ok (.aload_n 0, 1) := by decide +kernel
theorem dX4_read_16 : decode cX4_read 16 = .ok (.getfield 49, 3) := by decide +kernel
theorem dX4_read_19 : decode cX4_read 19 = .ok (.if_icmp .ge 83, 3) := by decide +kernel
theorem dX4_read_22 : decode cX4_read 22 = .ok (.aload_n 0, 1) := by decide +kernel
theorem dX4_read_23 : decode cX4_read 23 = .ok (.getfield 20, 3) := by decide +kernel
theorem dX4_read_26 : decode cX4_read 26 = .ok (.iload_n 2, 1) := by decide +kernel
theorem dX4_read_27 : decode cX4_read 27 = .ok (.iaload, 1) := by decide +kernel
theorem dX4_read_28 : decode cX4_read 28 = .ok (.bipush 47, 2) := by decide +kernel
theorem dX4_read_30 : decode cX4_read 30 = .ok (.if_icmp .eq 66, 3) := by decide +kernel
theorem dX4_read_33 : decode cX4_read 33 = .ok (.aload_n 0, 1) := by decide +kernel
theorem dX4_read_34 : decode cX4_read 34 = .ok (.getfield 7, 3) := by decide +kernel
theorem dX4_read_37 : decode cX4_read 37 = .ok (.iconst 0, 1) := by decide +kernel
theorem dX4_read_38 : decode cX4_read 38 = .ok (.iload_n 1, 1) := by decide +kernel
theorem dX4_read_39 : decode cX4_read 39 = .ok (.iadd, 1) := by decide +kernel
theorem dX4_read_40 : decode cX4_read 40 = .ok (.aload_n 0, 1) := by decide +kernel
theorem dX4_read_41 : decode cX4_read 41 = .ok (.getfield 20, 3) := by decide +kernel
theorem dX4_read_44 : decode cX4_read 44 = .ok (.iload_n 2, 1) := by decide +kernel
theorem dX4_read_45 : decode cX4_read 45 = .ok (.iaload, 1) := by decide +kernel
theorem dX4_read_46 : decode cX4_read 46 = .ok (.bipush 46, 2) := by decide +kernel
theorem dX4_read_48 : decode cX4_read 48 = .ok (.if_icmp .ne 7, 3) := by decide +kernel
theorem dX4_read_51 : decode cX4_read 51 = .ok (.iconst 0, 1) := by decide +kernel
theorem dX4_read_52 : decode cX4_read 52 = .ok (.goto 9, 3) := by decide +kernel
theorem dX4_read_55 : decode cX4_read 55 = .ok (.aload_n 0, 1) := by decide +kernel
theorem dX4_read_56 : decode cX4_read 56 = .ok (.getfield 20, 3) := by decide +kernel
theorem dX4_read_59 : decode cX4_read 59 = .ok (.iload_n 2, 1) := by decide +kernel
theorem dX4_read_60 : decode cX4_read 60 = .ok (.iaload, 1) := by decide +kernel
theorem dX4_read_61 : decode cX4_read 61 = .ok (.iastore, 1) := by decide +kernel
theorem dX4_read_62 : decode cX4_read 62 = .ok (.aload_n 0, 1) := by decide +kernel
theorem dX4_read_63 : decode cX4_read 63 = .ok (.getfield 7, 3) := by decide +kernel
theorem dX4_read_66 : decode cX4_read 66 = .ok (.bipush 60, 2) := by decide +kernel
theorem dX4_read_68 : decode cX4_read 68 = .ok (.iload_n 1, 1) := by decide +kernel
theorem dX4_read_69 : decode cX4_read 69 = .ok (.iadd, 1) := by decide +kernel
theorem dX4_read_70 : decode cX4_read 70 = .ok (.iload_n 2, 1) := by decide +kernel
theorem dX4_read_71 : decode cX4_read 71 = .ok (.ifCond .le 20, 3) := by decide +kernel
theorem dX4_read_74 : decode cX4_read 74 = .ok (.aload_n 0, 1) := by decide +kernel
theorem dX4_read_75 : decode cX4_read 75 = .ok (.getfield 20, 3) := by decide +kernel
theorem dX4_read_78 : decode cX4_read 78 = .ok (.iload_n 2, 1) := by decide +kernel
theorem dX4_read_79 : decode cX4_read 79 = .ok (.iconst 1, 1) := by decide +kernel
theorem dX4_read_80 : decode cX4_read 80 = .ok (.isub, 1) := by decide +kernel
theorem dX4_read_81 : decode cX4_read 81 = .ok (.iaload, 1) := by decide +kernel
theorem dX4_read_82 : decode cX4_read 82 = .ok (.bipush 47, 2) := by decide +kernel
theorem dX4_read_84 : decode cX4_read 84 = .ok (.if_icmp .ne 7, 3) := by decide +kernel
theorem dX4_read_87 : decode cX4_read 87 = .ok (.iconst 1, 1) := by decide +kernel
theorem dX4_read_88 : decode cX4_read 88 = .ok (.goto 4, 3) := by decide +kernel
theorem dX4_read_91 : decode cX4_read 91 = .ok (.iconst 0, 1) := by decide +kernel
theorem dX4_read_92 : decode cX4_read 92 = .ok (.iastore, 1) := by decide +kernel
theorem dX4_read_93 : decode cX4_read 93 = .ok (.iinc 1 1, 3) := by decide +kernel
theorem dX4_read_96 : decode cX4_read 96 = .ok (.iinc 2 1, 3) := by decide +kernel
theorem dX4_read_99 : decode cX4_read 99 = .ok (.goto (-85), 3) := by decide +kernel
theorem dX4_read_102 : decode cX4_read 102 = .ok (.aload_n 0, 1) := by decide +kernel
theorem dX4_read_103 : decode cX4_read 103 = .ok (.getfield 7, 3) := by decide +kernel
theorem dX4_read_106 : decode cX4_read 106 = .ok (.bipush 120, 2) := by decide +kernel
theorem dX4_read_108 : decode cX4_read 108 = .ok (.iload_n 1, 1) := by decide +kernel
theorem dX4_read_109 : decode cX4_read 109 = .ok (.iastore, 1) := by decide +kernel
theorem dX4_read_110 : decode cX4_read 110 = .ok (.aload_n 0, 1) := by decide +kernel
theorem dX4_read_111 : decode cX4_read 111 = .ok (.iconst 0, 1) := by decide +kernel
theorem dX4_read_112 : decode cX4_read 112 = .ok (.putfield 49, 3) := by decide +kernel
theorem dX4_read_115 : decode cX4_read 115 = .ok (.iload_n 1, 1) := by decide +kernel
theorem dX4_read_116 : decode cX4_read 116 = .ok (.ireturn, 1) := by decide +kernel
theorem dX4_least_0 : decode cX4_least 0 = .ok (.iload_n 0, 1) := by decide +kernel
theorem dX4_least_1 : decode cX4_least 1 = .ok (.ifCond .ne 7, 3) := by decide +kernel
theorem dX4_least_4 : decode cX4_least 4 = .ok (.iconst 2, 1) := by decide +kernel
theorem dX4_least_5 : decode cX4_least 5 = .ok (.goto 4, 3) := by decide +kernel
theorem dX4_least_8 : decode cX4_least 8 = .ok (.iconst 0, 1) := by decide +kernel
theorem dX4_least_9 : decode cX4_least 9 = .ok (.ireturn, 1) := by decide +kernel
theorem dX4_most_0 : decode cX4_most 0 = .ok (.iload_n 0, 1) := by decide +kernel
theorem dX4_most_1 : decode cX4_most 1 = .ok (.tableswitch 56 0 8 #[51, 54, 54, 56, 56, 56, 56, 54, 54], 51) := by decide +kernel
theorem dX4_most_52 : decode cX4_most 52 = .ok (.bipush 9, 2) := by decide +kernel
theorem dX4_most_54 : decode cX4_most 54 = .ok (.ireturn, 1) := by decide +kernel
theorem dX4_most_55 : decode cX4_most 55 = .ok (.iconst 2, 1) := by decide +kernel
theorem dX4_most_56 : decode cX4_most 56 = .ok (.ireturn, 1) := by decide +kernel
theorem dX4_most_57 : decode cX4_most 57 = .ok (.iconst 1, 1) := by decide +kernel
theorem dX4_most_58 : decode cX4_most 58 = .ok (.ireturn, 1) := by decide +kernel
set_option maxRecDepth 20000 in
theorem ggX4_rule_X4_in : GoodIn wsX4_rule wsX4_in := goodIn_r _ [5] (by decide +kernel) (by decide +kernel)
set_option maxRecDepth 20000 in
theorem gX4_rule_X4_in : GoodIn wsX4_rule (va_wsS RX4 41 yX4_in wsX4_in) := goodIn_app (goodIn_of _ (by decide +kernel)) ggX4_rule_X4_in
end
section
set_option maxRecDepth 20000 in
theorem ggX4_rule_X4_least : GoodIn wsX4_rule wsX4_least := goodIn_r _ [8] (by decide +kernel) (by decide +kernel)
set_option maxRecDepth 20000 in
theorem gX4_rule_X4_least : GoodIn wsX4_rule (va_wsS RX4 66 yX4_least wsX4_least) := goodIn_app (goodIn_of _ (by decide +kernel)) ggX4_rule_X4_least
set_option maxRecDepth 20000 in
theorem ggX4_rule_X4_most : GoodIn wsX4_rule wsX4_most := goodIn_r _ [11] (by decide +kernel) (by decide +kernel)
set_option maxRecDepth 20000 in
theorem gX4_rule_X4_most : GoodIn wsX4_rule (va_wsS RX4 70 yX4_most wsX4_most) := goodIn_app (goodIn_of _ (by decide +kernel)) ggX4_rule_X4_most
theorem dX4_rule_0 : decode cX4_rule 0 = .ok (.iload_n 1, 1) := by decide +kernel
theorem dX4_rule_1 : decode cX4_rule 1 = .ok (.iconst 0, 1) := by decide +kernel
theorem dX4_rule_2 : decode cX4_rule 2 = .ok (.bipush 8, 2) := by decide +kernel
theorem dX4_rule_4 : decode cX4_rule 4 = .ok (.invokestatic 41, 3) := by decide +kernel
theorem dX4_rule_7 : decode cX4_rule 7 = .ok (.ifCond .eq 18, 3) := by decide +kernel
theorem dX4_rule_10 : decode cX4_rule 10 = .ok (.iload_n 2, 1) := by decide +kernel
theorem dX4_rule_11 : decode cX4_rule 11 = .ok (.iload_n 1, 1) := by decide +kernel
theorem dX4_rule_12 : decode cX4_rule 12 = .ok (.invokestatic 66, 3) := by decide +kernel
theorem dX4_rule_15 : decode cX4_rule 15 = .ok (.iload_n 1, 1) := by decide +kernel
theorem dX4_rule_16 : decode cX4_rule 16 = .ok (.invokestatic 70, 3) := by decide +kernel
theorem dX4_rule_19 : decode cX4_rule 19 = .ok (.invokestatic 41, 3) := by decide +kernel
theorem dX4_rule_22 : decode cX4_rule 22 = .ok (.ifCond .ne 6, 3) := by decide +kernel
theorem dX4_rule_25 : decode cX4_rule 25 = .ok (.bipush (-2), 2) := by decide +kernel
theorem dX4_rule_27 : decode cX4_rule 27 = .ok (.ireturn, 1) := by decide +kernel
theorem dX4_rule_28 : decode cX4_rule 28 = .ok (.iload_n 1, 1) := by decide +kernel
theorem dX4_rule_29 : decode cX4_rule 29 = .ok (.ifCond .ne 14, 3) := by decide +kernel
theorem dX4_rule_32 : decode cX4_rule 32 = .ok (.iload_n 2, 1) := by decide +kernel
theorem dX4_rule_33 : decode cX4_rule 33 = .ok (.aload_n 0, 1) := by decide +kernel
theorem dX4_rule_34 : decode cX4_rule 34 = .ok (.getfield 7, 3) := by decide +kernel
theorem dX4_rule_37 : decode cX4_rule 37 = .ok (.bipush 123, 2) := by decide +kernel
theorem dX4_rule_39 : decode cX4_rule 39 = .ok (.iaload, 1) := by decide +kernel
theorem dX4_rule_40 : decode cX4_rule 40 = .ok (.if_icmp .le 19, 3) := by decide +kernel
theorem dX4_rule_43 : decode cX4_rule 43 = .ok (.iload_n 1, 1) := by decide +kernel
theorem dX4_rule_44 : decode cX4_rule 44 = .ok (.iconst 2, 1) := by decide +kernel
theorem dX4_rule_45 : decode cX4_rule 45 = .ok (.if_icmp .ne 17, 3) := by decide +kernel
theorem dX4_rule_48 : decode cX4_rule 48 = .ok (.iload_n 2, 1) := by decide +kernel
theorem dX4_rule_49 : decode cX4_rule 49 = .ok (.aload_n 0, 1) := by decide +kernel
theorem dX4_rule_50 : decode cX4_rule 50 = .ok (.getfield 7, 3) := by decide +kernel
theorem dX4_rule_53 : decode cX4_rule 53 = .ok (.bipush 121, 2) := by decide +kernel
theorem dX4_rule_55 : decode cX4_rule 55 = .ok (.iaload, 1) := by decide +kernel
theorem dX4_rule_56 : decode cX4_rule 56 = .ok (.if_icmp .lt 6, 3) := by decide +kernel
theorem dX4_rule_59 : decode cX4_rule 59 = .ok (.bipush (-2), 2) := by decide +kernel
theorem dX4_rule_61 : decode cX4_rule 61 = .ok (.ireturn, 1) := by decide +kernel
theorem dX4_rule_62 : decode cX4_rule 62 = .ok (.aload_n 0, 1) := by decide +kernel
theorem dX4_rule_63 : decode cX4_rule 63 = .ok (.getfield 7, 3) := by decide +kernel
theorem dX4_rule_66 : decode cX4_rule 66 = .ok (.bipush 121, 2) := by decide +kernel
theorem dX4_rule_68 : decode cX4_rule 68 = .ok (.iload_n 1, 1) := by decide +kernel
theorem dX4_rule_69 : decode cX4_rule 69 = .ok (.iadd, 1) := by decide +kernel
theorem dX4_rule_70 : decode cX4_rule 70 = .ok (.iaload, 1) := by decide +kernel
theorem dX4_rule_71 : decode cX4_rule 71 = .ok (.istore_n 3, 1) := by decide +kernel
theorem dX4_rule_72 : decode cX4_rule 72 = .ok (.aload_n 0, 1) := by decide +kernel
theorem dX4_rule_73 : decode cX4_rule 73 = .ok (.getfield 7, 3) := by decide +kernel
theorem dX4_rule_76 : decode cX4_rule 76 = .ok (.bipush 121, 2) := by decide +kernel
theorem dX4_rule_78 : decode cX4_rule 78 = .ok (.iload_n 1, 1) := by decide +kernel
theorem dX4_rule_79 : decode cX4_rule 79 = .ok (.iadd, 1) := by decide +kernel
theorem dX4_rule_80 : decode cX4_rule 80 = .ok (.iload_n 2, 1) := by decide +kernel
theorem dX4_rule_81 : decode cX4_rule 81 = .ok (.iastore, 1) := by decide +kernel
theorem dX4_rule_82 : decode cX4_rule 82 = .ok (.iload_n 3, 1) := by decide +kernel
theorem dX4_rule_83 : decode cX4_rule 83 = .ok (.ireturn, 1) := by decide +kernel
set_option maxRecDepth 20000 in
theorem ggX4_breaks_X4_many : GoodIn wsX4_breaks wsX4_many := goodIn_r _ [6, 1, 7, 8, 9, 10, 11, 12, 13, 14, 15, 16, 17, 18] (by decide +kernel) (by decide +kernel)
set_option maxRecDepth 20000 in
theorem gX4_breaks_X4_many : GoodIn wsX4_breaks (wsV RX4 45 RX4 yX4_many wsX4_many) := goodIn_app (goodIn_of _ (by decide +kernel)) ggX4_breaks_X4_many
theorem dX4_breaks_0 : decode cX4_breaks 0 = .ok (.iconst 0, 1) := by decide +kernel
theorem dX4_breaks_1 : decode cX4_breaks 1 = .ok (.istore_n 1, 1) := by decide +kernel
theorem dX4_breaks_2 : decode cX4_breaks 2 = .ok (.iconst 0, 1) := by decide +kernel
theorem dX4_breaks_3 : decode cX4_breaks 3 = .ok (.istore_n 2, 1) := by decide +kernel
theorem dX4_breaks_4 : decode cX4_breaks 4 = .ok (.iload_n 2, 1) := by decide +kernel
theorem dX4_breaks_5 : decode cX4_breaks 5 = .ok (.aload_n 0, 1) := by decide +kernel
theorem dX4_breaks_6 : decode cX4_breaks 6 = .ok (.invokevirtual 45, 3) := by decide +kernel
theorem dX4_breaks_9 : decode cX4_breaks 9 = .ok (.if_icmp .ge 21, 3) := by decide +kernel
theorem dX4_breaks_12 : decode cX4_breaks 12 = .ok (.iload_n 1, 1) := by decide +kernel
theorem dX4_breaks_13 : decode cX4_breaks 13 = .ok (.aload_n 0, 1) := by decide +kernel
theorem dX4_breaks_14 : decode cX4_breaks 14 = .ok (.getfield 7, 3) := by decide +kernel
theorem dX4_breaks_17 : decode cX4_breaks 17 = .ok (.bipush 60, 2) := by decide +kernel
theorem dX4_breaks_19 : decode cX4_breaks 19 = .ok (.iload_n 2, 1) := by decide +kernel
theorem dX4_breaks_20 : decode cX4_breaks 20 = .ok (.iadd, 1) := by decide +kernel
theorem dX4_breaks_21 : decode cX4_breaks 21 = .ok (.iaload, 1) := by decide +kernel
theorem dX4_breaks_22 : decode cX4_breaks 22 = .ok (.iadd, 1) := by decide +kernel
theorem dX4_breaks_23 : decode cX4_breaks 23 = .ok (.istore_n 1, 1) := by decide +kernel
theorem dX4_breaks_24 : decode cX4_breaks 24 = .ok (.iinc 2 1, 3) := by decide +kernel
theorem dX4_breaks_27 : decode cX4_breaks 27 = .ok (.goto (-23), 3) := by decide +kernel
theorem dX4_breaks_30 : decode cX4_breaks 30 = .ok (.iload_n 1, 1) := by decide +kernel
theorem dX4_breaks_31 : decode cX4_breaks 31 = .ok (.ireturn, 1) := by decide +kernel
set_option maxRecDepth 20000 in
theorem ggX4_cut_X4_many : GoodIn wsX4_cut wsX4_many := goodIn_r _ [6, 1, 14, 15, 16, 17, 18, 19, 20, 21, 22, 23, 24, 25] (by decide +kernel) (by decide +kernel)
set_option maxRecDepth 20000 in
theorem gX4_cut_X4_many : GoodIn wsX4_cut (wsV RX4 45 RX4 yX4_many wsX4_many) := goodIn_app (goodIn_of _ (by decide +kernel)) ggX4_cut_X4_many
set_option maxRecDepth 20000 in
theorem ggX4_cut_X4_in : GoodIn wsX4_cut wsX4_in := goodIn_r _ [9] (by decide +kernel) (by decide +kernel)
set_option maxRecDepth 20000 in
theorem gX4_cut_X4_in : GoodIn wsX4_cut (va_wsS RX4 41 yX4_in wsX4_in) := goodIn_app (goodIn_of _ (by decide +kernel)) ggX4_cut_X4_in
set_option maxRecDepth 20000 in
theorem ggX4_cut_X4_breaks : GoodIn wsX4_cut wsX4_breaks := goodIn_r _ [13, 1, 2, 3, 4, 5, 6, 14, 15, 16, 17, 18, 19, 20, 21, 22, 23, 24, 25] (by decide +kernel) (by decide +kernel)
set_option maxRecDepth 20000 in
theorem gX4_cut_X4_breaks : GoodIn wsX4_cut (wsV RX4 73 RX4 yX4_breaks wsX4_breaks) := goodIn_app (goodIn_of _ (by decide +kernel)) ggX4_cut_X4_breaks
theorem dX4_cut_0 : decode cX4_cut 0 = .ok (.iload_n 1, 1) := by decide +kernel
theorem dX4_cut_1 : decode cX4_cut 1 = .ok (.iconst 1, 1) := by decide +kernel
theorem dX4_cut_2 : decode cX4_cut 2 = .ok (.aload_n 0, 1) := by decide +kernel
theorem dX4_cut_3 : decode cX4_cut 3 = .ok (.invokevirtual 45, 3) := by decide +kernel
theorem dX4_cut_6 : decode cX4_cut 6 = .ok (.iconst 1, 1) := by decide +kernel
theorem dX4_cut_7 : decode cX4_cut 7 = .ok (.isub, 1) := by decide +kernel
theorem dX4_cut_8 : decode cX4_cut 8 = .ok (.invokestatic 41, 3) := by decide +kernel
theorem dX4_cut_11 : decode cX4_cut 11 = .ok (.ifCond .ne 5, 3) := by decide +kernel
theorem dX4_cut_14 : decode cX4_cut 14 = .ok (.iconst (-1), 1) := by decide +kernel
theorem dX4_cut_15 : decode cX4_cut 15 = .ok (.ireturn, 1) := by decide +kernel
theorem dX4_cut_16 : decode cX4_cut 16 = .ok (.iload_n 2, 1) := by decide +kernel
theorem dX4_cut_17 : decode cX4_cut 17 = .ok (.iconst 0, 1) := by decide +kernel
theorem dX4_cut_18 : decode cX4_cut 18 = .ok (.iconst 1, 1) := by decide +kernel
theorem dX4_cut_19 : decode cX4_cut 19 = .ok (.invokestatic 41, 3) := by decide +kernel
theorem dX4_cut_22 : decode cX4_cut 22 = .ok (.ifCond .ne 6, 3) := by decide +kernel
theorem dX4_cut_25 : decode cX4_cut 25 = .ok (.bipush (-2), 2) := by decide +kernel
theorem dX4_cut_27 : decode cX4_cut 27 = .ok (.ireturn, 1) := by decide +kernel
theorem dX4_cut_28 : decode cX4_cut 28 = .ok (.aload_n 0, 1) := by decide +kernel
theorem dX4_cut_29 : decode cX4_cut 29 = .ok (.getfield 7, 3) := by decide +kernel
theorem dX4_cut_32 : decode cX4_cut 32 = .ok (.bipush 60, 2) := by decide +kernel
theorem dX4_cut_34 : decode cX4_cut 34 = .ok (.iload_n 1, 1) := by decide +kernel
theorem dX4_cut_35 : decode cX4_cut 35 = .ok (.iadd, 1) := by decide +kernel
theorem dX4_cut_36 : decode cX4_cut 36 = .ok (.iload_n 2, 1) := by decide +kernel
theorem dX4_cut_37 : decode cX4_cut 37 = .ok (.iastore, 1) := by decide +kernel
theorem dX4_cut_38 : decode cX4_cut 38 = .ok (.aload_n 0, 1) := by decide +kernel
theorem dX4_cut_39 : decode cX4_cut 39 = .ok (.invokevirtual 73, 3) := by decide +kernel
theorem dX4_cut_42 : decode cX4_cut 42 = .ok (.ireturn, 1) := by decide +kernel
set_option maxRecDepth 20000 in
theorem ggX4_isNew_X4_isChapter : GoodIn wsX4_isNew wsX4_isChapter := goodIn_r _ [5, 6, 7, 4, 8] (by decide +kernel) (by decide +kernel)
set_option maxRecDepth 20000 in
theorem gX4_isNew_X4_isChapter : GoodIn wsX4_isNew (va_wsS RX4 53 yX4_isChapter wsX4_isChapter) := goodIn_app (goodIn_of _ (by decide +kernel)) ggX4_isNew_X4_isChapter
theorem dX4_isNew_0 : decode cX4_isNew 0 = .ok (.aload_n 0, 1) := by decide +kernel
theorem dX4_isNew_1 : decode cX4_isNew 1 = .ok (.getfield 7, 3) := by decide +kernel
theorem dX4_isNew_4 : decode cX4_isNew 4 = .ok (.iconst 0, 1) := by decide +kernel
theorem dX4_isNew_5 : decode cX4_isNew 5 = .ok (.iload_n 1, 1) := by decide +kernel
theorem dX4_isNew_6 : decode cX4_isNew 6 = .ok (.iadd, 1) := by decide +kernel
theorem dX4_isNew_7 : decode cX4_isNew 7 = .ok (.iaload, 1) := by decide +kernel
theorem dX4_isNew_8 : decode cX4_isNew 8 = .ok (.istore_n 3, 1) := by decide +kernel
theorem dX4_isNew_9 : decode cX4_isNew 9 = .ok (.iload_n 2, 1) := by decide +kernel
theorem dX4_isNew_10 : decode cX4_isNew 10 = .ok (.aload_n 0, 1) := by decide +kernel
theorem dX4_isNew_11 : decode cX4_isNew 11 = .ok (.getfield 7, 3) := by decide +kernel
theorem dX4_isNew_14 : decode cX4_isNew 14 = .ok (.bipush 121, 2) := by decide +kernel
theorem dX4_isNew_16 : decode cX4_isNew 16 = .ok (.iaload, 1) := by decide +kernel
theorem dX4_isNew_17 : decode cX4_isNew 17 = .ok (.if_icmp .eq 16, 3) := by decide +kernel
theorem dX4_isNew_20 : decode cX4_isNew 20 = .ok (.aload_n 0, 1) := by decide +kernel
theorem dX4_isNew_21 : decode cX4_isNew 21 = .ok (.getfield 7, 3) := by decide +kernel
theorem dX4_isNew_24 : decode cX4_isNew 24 = .ok (.bipush 60, 2) := by decide +kernel
theorem dX4_isNew_26 : decode cX4_isNew 26 = .ok (.iload_n 1, 1) := by decide +kernel
theorem dX4_isNew_27 : decode cX4_isNew 27 = .ok (.iadd, 1) := by decide +kernel
theorem dX4_isNew_28 : decode cX4_isNew 28 = .ok (.iaload, 1) := by decide +kernel
theorem dX4_isNew_29 : decode cX4_isNew 29 = .ok (.iconst 1, 1) := by decide +kernel
theorem dX4_isNew_30 : decode cX4_isNew 30 = .ok (.if_icmp .ne 5, 3) := by decide +kernel
theorem dX4_isNew_33 : decode cX4_isNew 33 = .ok (.iconst 1, 1) := by decide +kernel
theorem dX4_isNew_34 : decode cX4_isNew 34 = .ok (.ireturn, 1) := by decide +kernel
theorem dX4_isNew_35 : decode cX4_isNew 35 = .ok (.iload_n 3, 1) := by decide +kernel
theorem dX4_isNew_36 : decode cX4_isNew 36 = .ok (.invokestatic 53, 3) := by decide +kernel
theorem dX4_isNew_39 : decode cX4_isNew 39 = .ok (.ifCond .eq 15, 3) := by decide +kernel
theorem dX4_isNew_42 : decode cX4_isNew 42 = .ok (.aload_n 0, 1) := by decide +kernel
theorem dX4_isNew_43 : decode cX4_isNew 43 = .ok (.getfield 7, 3) := by decide +kernel
theorem dX4_isNew_46 : decode cX4_isNew 46 = .ok (.bipush 122, 2) := by decide +kernel
theorem dX4_isNew_48 : decode cX4_isNew 48 = .ok (.iaload, 1) := by decide +kernel
theorem dX4_isNew_49 : decode cX4_isNew 49 = .ok (.ifCond .le 5, 3) := by decide +kernel
theorem dX4_isNew_52 : decode cX4_isNew 52 = .ok (.iconst 1, 1) := by decide +kernel
theorem dX4_isNew_53 : decode cX4_isNew 53 = .ok (.ireturn, 1) := by decide +kernel
theorem dX4_isNew_54 : decode cX4_isNew 54 = .ok (.iload_n 3, 1) := by decide +kernel
theorem dX4_isNew_55 : decode cX4_isNew 55 = .ok (.ifCond .eq 28, 3) := by decide +kernel
theorem dX4_isNew_58 : decode cX4_isNew 58 = .ok (.aload_n 0, 1) := by decide +kernel
theorem dX4_isNew_59 : decode cX4_isNew 59 = .ok (.getfield 7, 3) := by decide +kernel
theorem dX4_isNew_62 : decode cX4_isNew 62 = .ok (.bipush 121, 2) := by decide +kernel
theorem dX4_isNew_64 : decode cX4_isNew 64 = .ok (.iaload, 1) := by decide +kernel
theorem dX4_isNew_65 : decode cX4_isNew 65 = .ok (.iload_n 2, 1) := by decide +kernel
theorem dX4_isNew_66 : decode cX4_isNew 66 = .ok (.isub, 1) := by decide +kernel
theorem dX4_isNew_67 : decode cX4_isNew 67 = .ok (.iconst 1, 1) := by decide +kernel
theorem dX4_isNew_68 : decode cX4_isNew 68 = .ok (.isub, 1) := by decide +kernel
theorem dX4_isNew_69 : decode cX4_isNew 69 = .ok (.aload_n 0, 1) := by decide +kernel
theorem dX4_isNew_70 : decode cX4_isNew 70 = .ok (.getfield 7, 3) := by decide +kernel
theorem dX4_isNew_73 : decode cX4_isNew 73 = .ok (.bipush 123, 2) := by decide +kernel
theorem dX4_isNew_75 : decode cX4_isNew 75 = .ok (.iaload, 1) := by decide +kernel
theorem dX4_isNew_76 : decode cX4_isNew 76 = .ok (.if_icmp .ge 7, 3) := by decide +kernel
theorem dX4_isNew_79 : decode cX4_isNew 79 = .ok (.iconst 1, 1) := by decide +kernel
theorem dX4_isNew_80 : decode cX4_isNew 80 = .ok (.goto 4, 3) := by decide +kernel
theorem dX4_isNew_83 : decode cX4_isNew 83 = .ok (.iconst 0, 1) := by decide +kernel
theorem dX4_isNew_84 : decode cX4_isNew 84 = .ok (.ireturn, 1) := by decide +kernel
theorem dX4_beginPage_0 : decode cX4_beginPage 0 = .ok (.aload_n 0, 1) := by decide +kernel
theorem dX4_beginPage_1 : decode cX4_beginPage 1 = .ok (.dup, 1) := by decide +kernel
theorem dX4_beginPage_2 : decode cX4_beginPage 2 = .ok (.getfield 76, 3) := by decide +kernel
theorem dX4_beginPage_5 : decode cX4_beginPage 5 = .ok (.iconst 1, 1) := by decide +kernel
theorem dX4_beginPage_6 : decode cX4_beginPage 6 = .ok (.iadd, 1) := by decide +kernel
theorem dX4_beginPage_7 : decode cX4_beginPage 7 = .ok (.putfield 76, 3) := by decide +kernel
theorem dX4_beginPage_10 : decode cX4_beginPage 10 = .ok (.aload_n 0, 1) := by decide +kernel
theorem dX4_beginPage_11 : decode cX4_beginPage 11 = .ok (.getfield 32, 3) := by decide +kernel
theorem dX4_beginPage_14 : decode cX4_beginPage 14 = .ok (.aload_n 0, 1) := by decide +kernel
theorem dX4_beginPage_15 : decode cX4_beginPage 15 = .ok (.getfield 76, 3) := by decide +kernel
theorem dX4_beginPage_18 : decode cX4_beginPage 18 = .ok (.bipush (-6), 2) := by decide +kernel
theorem dX4_beginPage_20 : decode cX4_beginPage 20 = .ok (.iastore, 1) := by decide +kernel
theorem dX4_beginPage_21 : decode cX4_beginPage 21 = .ok (.aload_n 0, 1) := by decide +kernel
theorem dX4_beginPage_22 : decode cX4_beginPage 22 = .ok (.getfield 35, 3) := by decide +kernel
theorem dX4_beginPage_25 : decode cX4_beginPage 25 = .ok (.aload_n 0, 1) := by decide +kernel
theorem dX4_beginPage_26 : decode cX4_beginPage 26 = .ok (.getfield 76, 3) := by decide +kernel
theorem dX4_beginPage_29 : decode cX4_beginPage 29 = .ok (.iconst 0, 1) := by decide +kernel
theorem dX4_beginPage_30 : decode cX4_beginPage 30 = .ok (.iastore, 1) := by decide +kernel
theorem dX4_beginPage_31 : decode cX4_beginPage 31 = .ok (.return_, 1) := by decide +kernel
set_option maxRecDepth 20000 in
theorem ggX4_layForce_X4_isChapter : GoodIn wsX4_layForce wsX4_isChapter := goodIn_r _ [6, 7, 8, 5, 9] (by decide +kernel) (by decide +kernel)
set_option maxRecDepth 20000 in
theorem gX4_layForce_X4_isChapter : GoodIn wsX4_layForce (va_wsS RX4 53 yX4_isChapter wsX4_isChapter) := goodIn_app (goodIn_of _ (by decide +kernel)) ggX4_layForce_X4_isChapter
theorem dX4_layForce_0 : decode cX4_layForce 0 = .ok (.aload_n 0, 1) := by decide +kernel
theorem dX4_layForce_1 : decode cX4_layForce 1 = .ok (.getfield 7, 3) := by decide +kernel
theorem dX4_layForce_4 : decode cX4_layForce 4 = .ok (.iconst 0, 1) := by decide +kernel
theorem dX4_layForce_5 : decode cX4_layForce 5 = .ok (.iload_n 1, 1) := by decide +kernel
theorem dX4_layForce_6 : decode cX4_layForce 6 = .ok (.iadd, 1) := by decide +kernel
theorem dX4_layForce_7 : decode cX4_layForce 7 = .ok (.iaload, 1) := by decide +kernel
theorem dX4_layForce_8 : decode cX4_layForce 8 = .ok (.istore_n 2, 1) := by decide +kernel
theorem dX4_layForce_9 : decode cX4_layForce 9 = .ok (.iconst 0, 1) := by decide +kernel
theorem dX4_layForce_10 : decode cX4_layForce 10 = .ok (.istore_n 3, 1) := by decide +kernel
theorem dX4_layForce_11 : decode cX4_layForce 11 = .ok (.iload_n 3, 1) := by decide +kernel
theorem dX4_layForce_12 : decode cX4_layForce 12 = .ok (.iconst 2, 1) := by decide +kernel
theorem dX4_layForce_13 : decode cX4_layForce 13 = .ok (.if_icmp .ge 40, 3) := by decide +kernel
theorem dX4_layForce_16 : decode cX4_layForce 16 = .ok (.aload_n 0, 1) := by decide +kernel
theorem dX4_layForce_17 : decode cX4_layForce 17 = .ok (.getfield 29, 3) := by decide +kernel
theorem dX4_layForce_20 : decode cX4_layForce 20 = .ok (.iconst 2, 1) := by decide +kernel
theorem dX4_layForce_21 : decode cX4_layForce 21 = .ok (.iload_n 1, 1) := by decide +kernel
theorem dX4_layForce_22 : decode cX4_layForce 22 = .ok (.imul, 1) := by decide +kernel
theorem dX4_layForce_23 : decode cX4_layForce 23 = .ok (.iload_n 3, 1) := by decide +kernel
theorem dX4_layForce_24 : decode cX4_layForce 24 = .ok (.iadd, 1) := by decide +kernel
theorem dX4_layForce_25 : decode cX4_layForce 25 = .ok (.iload_n 1, 1) := by decide +kernel
theorem dX4_layForce_26 : decode cX4_layForce 26 = .ok (.ifCond .le 18, 3) := by decide +kernel
theorem dX4_layForce_29 : decode cX4_layForce 29 = .ok (.aload_n 0, 1) := by decide +kernel
theorem dX4_layForce_30 : decode cX4_layForce 30 = .ok (.getfield 29, 3) := by decide +kernel
theorem dX4_layForce_33 : decode cX4_layForce 33 = .ok (.iconst 2, 1) := by decide +kernel
theorem dX4_layForce_34 : decode cX4_layForce 34 = .ok (.iload_n 1, 1) := by decide +kernel
theorem dX4_layForce_35 : decode cX4_layForce 35 = .ok (.imul, 1) := by decide +kernel
theorem dX4_layForce_36 : decode cX4_layForce 36 = .ok (.iconst 2, 1) := by decide +kernel
theorem dX4_layForce_37 : decode cX4_layForce 37 = .ok (.isub, 1) := by decide +kernel
theorem dX4_layForce_38 : decode cX4_layForce 38 = .ok (.iload_n 3, 1) := by decide +kernel
theorem dX4_layForce_39 : decode cX4_layForce 39 = .ok (.iadd, 1) := by decide +kernel
theorem dX4_layForce_40 : decode cX4_layForce 40 = .ok (.iaload, 1) := by decide +kernel
theorem dX4_layForce_41 : decode cX4_layForce 41 = .ok (.goto 5, 3) := by decide +kernel
theorem dX4_layForce_44 : decode cX4_layForce 44 = .ok (.bipush (-6), 2) := by decide +kernel
theorem dX4_layForce_46 : decode cX4_layForce 46 = .ok (.iastore, 1) := by decide +kernel
theorem dX4_layForce_47 : decode cX4_layForce 47 = .ok (.iinc 3 1, 3) := by decide +kernel
theorem dX4_layForce_50 : decode cX4_layForce 50 = .ok (.goto (-39), 3) := by decide +kernel
theorem dX4_layForce_53 : decode cX4_layForce 53 = .ok (.iload_n 2, 1) := by decide +kernel
theorem dX4_layForce_54 : decode cX4_layForce 54 = .ok (.invokestatic 53, 3) := by decide +kernel
theorem dX4_layForce_57 : decode cX4_layForce 57 = .ok (.ifCond .eq 51, 3) := by decide +kernel
theorem dX4_layForce_60 : decode cX4_layForce 60 = .ok (.aload_n 0, 1) := by decide +kernel
theorem dX4_layForce_61 : decode cX4_layForce 61 = .ok (.getfield 29, 3) := by decide +kernel
theorem dX4_layForce_64 : decode cX4_layForce 64 = .ok (.iconst 2, 1) := by decide +kernel
theorem dX4_layForce_65 : decode cX4_layForce 65 = .ok (.iload_n 1, 1) := by decide +kernel
theorem dX4_layForce_66 : decode cX4_layForce 66 = .ok (.imul, 1) := by decide +kernel
theorem dX4_layForce_67 : decode cX4_layForce 67 = .ok (.iload_n 2, 1) := by decide +kernel
theorem dX4_layForce_68 : decode cX4_layForce 68 = .ok (.iastore, 1) := by decide +kernel
theorem dX4_layForce_69 : decode cX4_layForce 69 = .ok (.aload_n 0, 1) := by decide +kernel
theorem dX4_layForce_70 : decode cX4_layForce 70 = .ok (.getfield 29, 3) := by decide +kernel
theorem dX4_layForce_73 : decode cX4_layForce 73 = .ok (.iconst 2, 1) := by decide +kernel
theorem dX4_layForce_74 : decode cX4_layForce 74 = .ok (.iload_n 1, 1) := by decide +kernel
theorem dX4_layForce_75 : decode cX4_layForce 75 = .ok (.imul, 1) := by decide +kernel
theorem dX4_layForce_76 : decode cX4_layForce 76 = .ok (.iconst 1, 1) := by decide +kernel
theorem dX4_layForce_77 : decode cX4_layForce 77 = .ok (.iadd, 1) := by decide +kernel
theorem dX4_layForce_78 : decode cX4_layForce 78 = .ok (.aload_n 0, 1) := by decide +kernel
theorem dX4_layForce_79 : decode cX4_layForce 79 = .ok (.getfield 7, 3) := by decide +kernel
theorem dX4_layForce_82 : decode cX4_layForce 82 = .ok (.bipush 124, 2) := by decide +kernel
theorem dX4_layForce_84 : decode cX4_layForce 84 = .ok (.iaload, 1) := by decide +kernel
theorem dX4_layForce_85 : decode cX4_layForce 85 = .ok (.iconst 1, 1) := by decide +kernel
theorem dX4_layForce_86 : decode cX4_layForce 86 = .ok (.if_icmp .ne 8, 3) := by decide +kernel
theorem dX4_layForce_89 : decode cX4_layForce 89 = .ok (.bipush (-6), 2) := by decide +kernel
theorem dX4_layForce_91 : decode cX4_layForce 91 = .ok (.goto 13, 3) := by decide +kernel
theorem dX4_layForce_94 : decode cX4_layForce 94 = .ok (.aload_n 0, 1) := by decide +kernel
theorem dX4_layForce_95 : decode cX4_layForce 95 = .ok (.getfield 29, 3) := by decide +kernel
theorem dX4_layForce_98 : decode cX4_layForce 98 = .ok (.iconst 2, 1) := by decide +kernel
theorem dX4_layForce_99 : decode cX4_layForce 99 = .ok (.iload_n 1, 1) := by decide +kernel
theorem dX4_layForce_100 : decode cX4_layForce 100 = .ok (.imul, 1) := by decide +kernel
theorem dX4_layForce_101 : decode cX4_layForce 101 = .ok (.iconst 1, 1) := by decide +kernel
theorem dX4_layForce_102 : decode cX4_layForce 102 = .ok (.iadd, 1) := by decide +kernel
theorem dX4_layForce_103 : decode cX4_layForce 103 = .ok (.iaload, 1) := by decide +kernel
theorem dX4_layForce_104 : decode cX4_layForce 104 = .ok (.iastore, 1) := by decide +kernel
theorem dX4_layForce_105 : decode cX4_layForce 105 = .ok (.goto 18, 3) := by decide +kernel
theorem dX4_layForce_108 : decode cX4_layForce 108 = .ok (.iload_n 2, 1) := by decide +kernel
theorem dX4_layForce_109 : decode cX4_layForce 109 = .ok (.ifCond .eq 14, 3) := by decide +kernel
theorem dX4_layForce_112 : decode cX4_layForce 112 = .ok (.aload_n 0, 1) := by decide +kernel
theorem dX4_layForce_113 : decode cX4_layForce 113 = .ok (.getfield 29, 3) := by decide +kernel
theorem dX4_layForce_116 : decode cX4_layForce 116 = .ok (.iconst 2, 1) := by decide +kernel
theorem dX4_layForce_117 : decode cX4_layForce 117 = .ok (.iload_n 1, 1) := by decide +kernel
theorem dX4_layForce_118 : decode cX4_layForce 118 = .ok (.imul, 1) := by decide +kernel
theorem dX4_layForce_119 : decode cX4_layForce 119 = .ok (.iconst 1, 1) := by decide +kernel
theorem dX4_layForce_120 : decode cX4_layForce 120 = .ok (.iadd, 1) := by decide +kernel
theorem dX4_layForce_121 : decode cX4_layForce 121 = .ok (.iload_n 2, 1) := by decide +kernel
theorem dX4_layForce_122 : decode cX4_layForce 122 = .ok (.iastore, 1) := by decide +kernel
theorem dX4_layForce_123 : decode cX4_layForce 123 = .ok (.return_, 1) := by decide +kernel
set_option maxRecDepth 20000 in
theorem ggX4_layPages_X4_many : GoodIn wsX4_layPages wsX4_many := goodIn_r _ [11, 3, 31, 32, 33, 34, 35, 36, 37, 38, 39, 40, 41, 42] (by decide +kernel) (by decide +kernel)
set_option maxRecDepth 20000 in
theorem gX4_layPages_X4_many : GoodIn wsX4_layPages (wsV RX4 45 RX4 yX4_many wsX4_many) := goodIn_app (goodIn_of _ (by decide +kernel)) ggX4_layPages_X4_many
set_option maxRecDepth 20000 in
theorem ggX4_layPages_X4_beginPage : GoodIn wsX4_layPages wsX4_beginPage := goodIn_r _ [15, 1, 6, 2, 31, 32, 33, 34, 35, 36, 37, 38, 39, 40, 41, 42] (by decide +kernel) (by decide +kernel)
set_option maxRecDepth 20000 in
theorem gX4_layPages_X4_beginPage : GoodIn wsX4_layPages (wsV RX4 79 RX4 yX4_beginPage wsX4_beginPage) := goodIn_app (goodIn_of _ (by decide +kernel)) ggX4_layPages_X4_beginPage
set_option maxRecDepth 20000 in
theorem ggX4_layPages_X4_isNew : GoodIn wsX4_layPages wsX4_isNew := goodIn_r _ [19, 3, 20, 21, 10, 22, 23, 24, 25, 31, 32, 33, 34, 35, 36, 37, 38, 39, 40, 41, 42] (by decide +kernel) (by decide +kernel)
set_option maxRecDepth 20000 in
theorem gX4_layPages_X4_isNew : GoodIn wsX4_layPages (wsV RX4 82 RX4 yX4_isNew wsX4_isNew) := goodIn_app (goodIn_of _ (by decide +kernel)) ggX4_layPages_X4_isNew
set_option maxRecDepth 20000 in
theorem ggX4_layPages_X4_isChapter : GoodIn wsX4_layPages wsX4_isChapter := goodIn_r _ [22, 23, 24, 10, 25] (by decide +kernel) (by decide +kernel)
set_option maxRecDepth 20000 in
theorem gX4_layPages_X4_isChapter : GoodIn wsX4_layPages (va_wsS RX4 53 yX4_isChapter wsX4_isChapter) := goodIn_app (goodIn_of _ (by decide +kernel)) ggX4_layPages_X4_isChapter
set_option maxRecDepth 20000 in
theorem ggX4_layPages_X4_layForce : GoodIn wsX4_layPages wsX4_layForce := goodIn_r _ [29, 3, 30, 20, 21, 10, 22, 23, 24, 25, 31, 32, 33, 34, 35, 36, 37, 38, 39, 40, 41, 42] (by decide +kernel) (by decide +kernel)
set_option maxRecDepth 20000 in
theorem gX4_layPages_X4_layForce : GoodIn wsX4_layPages (wsV RX4 86 RX4 yX4_layForce wsX4_layForce) := goodIn_app (goodIn_of _ (by decide +kernel)) ggX4_layPages_X4_layForce
theorem dX4_layPages_0 : decode cX4_layPages 0 = .ok (.aload_n 0, 1) := by decide +kernel
theorem dX4_layPages_1 : decode cX4_layPages 1 = .ok (.iconst 0, 1) := by decide +kernel
theorem dX4_layPages_2 : decode cX4_layPages 2 = .ok (.putfield 76, 3) := by decide +kernel
theorem dX4_layPages_5 : decode cX4_layPages 5 = .ok (.iconst 0, 1) := by decide +kernel
theorem dX4_layPages_6 : decode cX4_layPages 6 = .ok (.istore_n 1, 1) := by decide +kernel
theorem dX4_layPages_7 : decode cX4_layPages 7 = .ok (.iload_n 1, 1) := by decide +kernel
theorem dX4_layPages_8 : decode cX4_layPages 8 = .ok (.aload_n 0, 1) := by decide +kernel
theorem dX4_layPages_9 : decode cX4_layPages 9 = .ok (.invokevirtual 45, 3) := by decide +kernel
theorem dX4_layPages_12 : decode cX4_layPages 12 = .ok (.if_icmp .ge 156, 3) := by decide +kernel
theorem dX4_layPages_15 : decode cX4_layPages 15 = .ok (.iload_n 1, 1) := by decide +kernel
theorem dX4_layPages_16 : decode cX4_layPages 16 = .ok (.ifCond .ne 10, 3) := by decide +kernel
theorem dX4_layPages_19 : decode cX4_layPages 19 = .ok (.aload_n 0, 1) := by decide +kernel
theorem dX4_layPages_20 : decode cX4_layPages 20 = .ok (.invokevirtual 79, 3) := by decide +kernel
theorem dX4_layPages_23 : decode cX4_layPages 23 = .ok (.goto 62, 3) := by decide +kernel
theorem dX4_layPages_26 : decode cX4_layPages 26 = .ok (.aload_n 0, 1) := by decide +kernel
theorem dX4_layPages_27 : decode cX4_layPages 27 = .ok (.iload_n 1, 1) := by decide +kernel
theorem dX4_layPages_28 : decode cX4_layPages 28 = .ok (.aload_n 0, 1) := by decide +kernel
theorem dX4_layPages_29 : decode cX4_layPages 29 = .ok (.getfield 35, 3) := by decide +kernel
theorem dX4_layPages_32 : decode cX4_layPages 32 = .ok (.aload_n 0, 1) := by decide +kernel
theorem dX4_layPages_33 : decode cX4_layPages 33 = .ok (.getfield 76, 3) := by decide +kernel
theorem dX4_layPages_36 : decode cX4_layPages 36 = .ok (.iaload, 1) := by decide +kernel
theorem dX4_layPages_37 : decode cX4_layPages 37 = .ok (.invokevirtual 82, 3) := by decide +kernel
theorem dX4_layPages_40 : decode cX4_layPages 40 = .ok (.ifCond .eq 45, 3) := by decide +kernel
theorem dX4_layPages_43 : decode cX4_layPages 43 = .ok (.aload_n 0, 1) := by decide +kernel
theorem dX4_layPages_44 : decode cX4_layPages 44 = .ok (.invokevirtual 79, 3) := by decide +kernel
theorem dX4_layPages_47 : decode cX4_layPages 47 = .ok (.aload_n 0, 1) := by decide +kernel
theorem dX4_layPages_48 : decode cX4_layPages 48 = .ok (.getfield 7, 3) := by decide +kernel
theorem dX4_layPages_51 : decode cX4_layPages 51 = .ok (.bipush 122, 2) := by decide +kernel
theorem dX4_layPages_53 : decode cX4_layPages 53 = .ok (.iaload, 1) := by decide +kernel
theorem dX4_layPages_54 : decode cX4_layPages 54 = .ok (.iconst 2, 1) := by decide +kernel
theorem dX4_layPages_55 : decode cX4_layPages 55 = .ok (.if_icmp .ne 30, 3) := by decide +kernel
theorem dX4_layPages_58 : decode cX4_layPages 58 = .ok (.aload_n 0, 1) := by decide +kernel
theorem dX4_layPages_59 : decode cX4_layPages 59 = .ok (.getfield 7, 3) := by decide +kernel
theorem dX4_layPages_62 : decode cX4_layPages 62 = .ok (.iconst 0, 1) := by decide +kernel
theorem dX4_layPages_63 : decode cX4_layPages 63 = .ok (.iload_n 1, 1) := by decide +kernel
theorem dX4_layPages_64 : decode cX4_layPages 64 = .ok (.iadd, 1) := by decide +kernel
theorem dX4_layPages_65 : decode cX4_layPages 65 = .ok (.iaload, 1) := by decide +kernel
theorem dX4_layPages_66 : decode cX4_layPages 66 = .ok (.invokestatic 53, 3) := by decide +kernel
theorem dX4_layPages_69 : decode cX4_layPages 69 = .ok (.ifCond .eq 16, 3) := by decide +kernel
theorem dX4_layPages_72 : decode cX4_layPages 72 = .ok (.aload_n 0, 1) := by decide +kernel
theorem dX4_layPages_73 : decode cX4_layPages 73 = .ok (.getfield 76, 3) := by decide +kernel
theorem dX4_layPages_76 : decode cX4_layPages 76 = .ok (.iconst 2, 1) := by decide +kernel
theorem dX4_layPages_77 : decode cX4_layPages 77 = .ok (.irem, 1) := by decide +kernel
theorem dX4_layPages_78 : decode cX4_layPages 78 = .ok (.ifCond .ne 7, 3) := by decide +kernel
theorem dX4_layPages_81 : decode cX4_layPages 81 = .ok (.aload_n 0, 1) := by decide +kernel
theorem dX4_layPages_82 : decode cX4_layPages 82 = .ok (.invokevirtual 79, 3) := by decide +kernel
theorem dX4_layPages_85 : decode cX4_layPages 85 = .ok (.aload_n 0, 1) := by decide +kernel
theorem dX4_layPages_86 : decode cX4_layPages 86 = .ok (.getfield 23, 3) := by decide +kernel
theorem dX4_layPages_89 : decode cX4_layPages 89 = .ok (.iload_n 1, 1) := by decide +kernel
theorem dX4_layPages_90 : decode cX4_layPages 90 = .ok (.aload_n 0, 1) := by decide +kernel
theorem dX4_layPages_91 : decode cX4_layPages 91 = .ok (.getfield 76, 3) := by decide +kernel
theorem dX4_layPages_94 : decode cX4_layPages 94 = .ok (.iastore, 1) := by decide +kernel
theorem dX4_layPages_95 : decode cX4_layPages 95 = .ok (.aload_n 0, 1) := by decide +kernel
theorem dX4_layPages_96 : decode cX4_layPages 96 = .ok (.getfield 26, 3) := by decide +kernel
theorem dX4_layPages_99 : decode cX4_layPages 99 = .ok (.iload_n 1, 1) := by decide +kernel
theorem dX4_layPages_100 : decode cX4_layPages 100 = .ok (.aload_n 0, 1) := by decide +kernel
theorem dX4_layPages_101 : decode cX4_layPages 101 = .ok (.getfield 35, 3) := by decide +kernel
theorem dX4_layPages_104 : decode cX4_layPages 104 = .ok (.aload_n 0, 1) := by decide +kernel
theorem dX4_layPages_105 : decode cX4_layPages 105 = .ok (.getfield 76, 3) := by decide +kernel
theorem dX4_layPages_108 : decode cX4_layPages 108 = .ok (.iaload, 1) := by decide +kernel
theorem dX4_layPages_109 : decode cX4_layPages 109 = .ok (.iastore, 1) := by decide +kernel
theorem dX4_layPages_110 : decode cX4_layPages 110 = .ok (.aload_n 0, 1) := by decide +kernel
theorem dX4_layPages_111 : decode cX4_layPages 111 = .ok (.getfield 32, 3) := by decide +kernel
theorem dX4_layPages_114 : decode cX4_layPages 114 = .ok (.aload_n 0, 1) := by decide +kernel
theorem dX4_layPages_115 : decode cX4_layPages 115 = .ok (.getfield 76, 3) := by decide +kernel
theorem dX4_layPages_118 : decode cX4_layPages 118 = .ok (.aload_n 0, 1) := by decide +kernel
theorem dX4_layPages_119 : decode cX4_layPages 119 = .ok (.getfield 35, 3) := by decide +kernel
theorem dX4_layPages_122 : decode cX4_layPages 122 = .ok (.aload_n 0, 1) := by decide +kernel
theorem dX4_layPages_123 : decode cX4_layPages 123 = .ok (.getfield 76, 3) := by decide +kernel
theorem dX4_layPages_126 : decode cX4_layPages 126 = .ok (.iaload, 1) := by decide +kernel
theorem dX4_layPages_127 : decode cX4_layPages 127 = .ok (.ifCond .ne 7, 3) := by decide +kernel
theorem dX4_layPages_130 : decode cX4_layPages 130 = .ok (.iload_n 1, 1) := by decide +kernel
theorem dX4_layPages_131 : decode cX4_layPages 131 = .ok (.goto 12, 3) := by decide +kernel
theorem dX4_layPages_134 : decode cX4_layPages 134 = .ok (.aload_n 0, 1) := by decide +kernel
theorem dX4_layPages_135 : decode cX4_layPages 135 = .ok (.getfield 32, 3) := by decide +kernel
theorem dX4_layPages_138 : decode cX4_layPages 138 = .ok (.aload_n 0, 1) := by decide +kernel
theorem dX4_layPages_139 : decode cX4_layPages 139 = .ok (.getfield 76, 3) := by decide +kernel
theorem dX4_layPages_142 : decode cX4_layPages 142 = .ok (.iaload, 1) := by decide +kernel
theorem dX4_layPages_143 : decode cX4_layPages 143 = .ok (.iastore, 1) := by decide +kernel
theorem dX4_layPages_144 : decode cX4_layPages 144 = .ok (.aload_n 0, 1) := by decide +kernel
theorem dX4_layPages_145 : decode cX4_layPages 145 = .ok (.getfield 35, 3) := by decide +kernel
theorem dX4_layPages_148 : decode cX4_layPages 148 = .ok (.aload_n 0, 1) := by decide +kernel
theorem dX4_layPages_149 : decode cX4_layPages 149 = .ok (.getfield 76, 3) := by decide +kernel
theorem dX4_layPages_152 : decode cX4_layPages 152 = .ok (.dup2, 1) := by decide +kernel
theorem dX4_layPages_153 : decode cX4_layPages 153 = .ok (.iaload, 1) := by decide +kernel
theorem dX4_layPages_154 : decode cX4_layPages 154 = .ok (.iconst 1, 1) := by decide +kernel
theorem dX4_layPages_155 : decode cX4_layPages 155 = .ok (.iadd, 1) := by decide +kernel
theorem dX4_layPages_156 : decode cX4_layPages 156 = .ok (.iastore, 1) := by decide +kernel
theorem dX4_layPages_157 : decode cX4_layPages 157 = .ok (.aload_n 0, 1) := by decide +kernel
theorem dX4_layPages_158 : decode cX4_layPages 158 = .ok (.iload_n 1, 1) := by decide +kernel
theorem dX4_layPages_159 : decode cX4_layPages 159 = .ok (.invokevirtual 86, 3) := by decide +kernel
theorem dX4_layPages_162 : decode cX4_layPages 162 = .ok (.iinc 1 1, 3) := by decide +kernel
theorem dX4_layPages_165 : decode cX4_layPages 165 = .ok (.goto (-158), 3) := by decide +kernel
theorem dX4_layPages_168 : decode cX4_layPages 168 = .ok (.return_, 1) := by decide +kernel
set_option maxRecDepth 20000 in
theorem ggX4_isPage_X4_in : GoodIn wsX4_isPage wsX4_in := goodIn_r _ [5] (by decide +kernel) (by decide +kernel)
set_option maxRecDepth 20000 in
theorem gX4_isPage_X4_in : GoodIn wsX4_isPage (va_wsS RX4 41 yX4_in wsX4_in) := goodIn_app (goodIn_of _ (by decide +kernel)) ggX4_isPage_X4_in
theorem dX4_isPage_0 : decode cX4_isPage 0 = .ok (.iload_n 1, 1) := by decide +kernel
theorem dX4_isPage_1 : decode cX4_isPage 1 = .ok (.iconst 1, 1) := by decide +kernel
theorem dX4_isPage_2 : decode cX4_isPage 2 = .ok (.aload_n 0, 1) := by decide +kernel
theorem dX4_isPage_3 : decode cX4_isPage 3 = .ok (.getfield 76, 3) := by decide +kernel
theorem dX4_isPage_6 : decode cX4_isPage 6 = .ok (.invokestatic 41, 3) := by decide +kernel
theorem dX4_isPage_9 : decode cX4_isPage 9 = .ok (.ireturn, 1) := by decide +kernel
theorem dX4_breakMark_0 : decode cX4_breakMark 0 = .ok (.iload_n 1, 1) := by decide +kernel
theorem dX4_breakMark_1 : decode cX4_breakMark 1 = .ok (.ifCond .ge 8, 3) := by decide +kernel
theorem dX4_breakMark_4 : decode cX4_breakMark 4 = .ok (.bipush (-6), 2) := by decide +kernel
theorem dX4_breakMark_6 : decode cX4_breakMark 6 = .ok (.goto 13, 3) := by decide +kernel
theorem dX4_breakMark_9 : decode cX4_breakMark 9 = .ok (.aload_n 0, 1) := by decide +kernel
theorem dX4_breakMark_10 : decode cX4_breakMark 10 = .ok (.getfield 29, 3) := by decide +kernel
theorem dX4_breakMark_13 : decode cX4_breakMark 13 = .ok (.iconst 2, 1) := by decide +kernel
theorem dX4_breakMark_14 : decode cX4_breakMark 14 = .ok (.iload_n 1, 1) := by decide +kernel
theorem dX4_breakMark_15 : decode cX4_breakMark 15 = .ok (.imul, 1) := by decide +kernel
theorem dX4_breakMark_16 : decode cX4_breakMark 16 = .ok (.iload_n 2, 1) := by decide +kernel
theorem dX4_breakMark_17 : decode cX4_breakMark 17 = .ok (.iadd, 1) := by decide +kernel
theorem dX4_breakMark_18 : decode cX4_breakMark 18 = .ok (.iaload, 1) := by decide +kernel
theorem dX4_breakMark_19 : decode cX4_breakMark 19 = .ok (.ireturn, 1) := by decide +kernel
set_option maxRecDepth 20000 in
theorem ggX4_lineAhead_X4_many : GoodIn wsX4_lineAhead wsX4_many := goodIn_r _ [6, 7, 8, 9, 10, 11, 12, 13, 14, 15, 16, 17, 18, 19] (by decide +kernel) (by decide +kernel)
set_option maxRecDepth 20000 in
theorem gX4_lineAhead_X4_many : GoodIn wsX4_lineAhead (wsV RX4 45 RX4 yX4_many wsX4_many) := goodIn_app (goodIn_of _ (by decide +kernel)) ggX4_lineAhead_X4_many
theorem dX4_lineAhead_0 : decode cX4_lineAhead 0 = .ok (.iconst (-1), 1) := by decide +kernel
theorem dX4_lineAhead_1 : decode cX4_lineAhead 1 = .ok (.istore_n 2, 1) := by decide +kernel
theorem dX4_lineAhead_2 : decode cX4_lineAhead 2 = .ok (.iconst 0, 1) := by decide +kernel
theorem dX4_lineAhead_3 : decode cX4_lineAhead 3 = .ok (.istore_n 3, 1) := by decide +kernel
theorem dX4_lineAhead_4 : decode cX4_lineAhead 4 = .ok (.iload_n 3, 1) := by decide +kernel
theorem dX4_lineAhead_5 : decode cX4_lineAhead 5 = .ok (.aload_n 0, 1) := by decide +kernel
theorem dX4_lineAhead_6 : decode cX4_lineAhead 6 = .ok (.invokevirtual 45, 3) := by decide +kernel
theorem dX4_lineAhead_9 : decode cX4_lineAhead 9 = .ok (.if_icmp .ge 25, 3) := by decide +kernel
theorem dX4_lineAhead_12 : decode cX4_lineAhead 12 = .ok (.aload_n 0, 1) := by decide +kernel
theorem dX4_lineAhead_13 : decode cX4_lineAhead 13 = .ok (.getfield 23, 3) := by decide +kernel
theorem dX4_lineAhead_16 : decode cX4_lineAhead 16 = .ok (.iload_n 3, 1) := by decide +kernel
theorem dX4_lineAhead_17 : decode cX4_lineAhead 17 = .ok (.iaload, 1) := by decide +kernel
theorem dX4_lineAhead_18 : decode cX4_lineAhead 18 = .ok (.iload_n 1, 1) := by decide +kernel
theorem dX4_lineAhead_19 : decode cX4_lineAhead 19 = .ok (.if_icmp .ge 7, 3) := by decide +kernel
theorem dX4_lineAhead_22 : decode cX4_lineAhead 22 = .ok (.iload_n 3, 1) := by decide +kernel
theorem dX4_lineAhead_23 : decode cX4_lineAhead 23 = .ok (.goto 4, 3) := by decide +kernel
theorem dX4_lineAhead_26 : decode cX4_lineAhead 26 = .ok (.iload_n 2, 1) := by decide +kernel
theorem dX4_lineAhead_27 : decode cX4_lineAhead 27 = .ok (.istore_n 2, 1) := by decide +kernel
theorem dX4_lineAhead_28 : decode cX4_lineAhead 28 = .ok (.iinc 3 1, 3) := by decide +kernel
theorem dX4_lineAhead_31 : decode cX4_lineAhead 31 = .ok (.goto (-27), 3) := by decide +kernel
theorem dX4_lineAhead_34 : decode cX4_lineAhead 34 = .ok (.iload_n 2, 1) := by decide +kernel
theorem dX4_lineAhead_35 : decode cX4_lineAhead 35 = .ok (.ireturn, 1) := by decide +kernel
set_option maxRecDepth 20000 in
theorem ggX4_firstMark_X4_isChapter : GoodIn wsX4_firstMark wsX4_isChapter := goodIn_r _ [7, 8, 9, 6, 10] (by decide +kernel) (by decide +kernel)
set_option maxRecDepth 20000 in
theorem gX4_firstMark_X4_isChapter : GoodIn wsX4_firstMark (va_wsS RX4 53 yX4_isChapter wsX4_isChapter) := goodIn_app (goodIn_of _ (by decide +kernel)) ggX4_firstMark_X4_isChapter
set_option maxRecDepth 20000 in
theorem ggX4_firstMark_X4_isSection : GoodIn wsX4_firstMark wsX4_isSection := goodIn_r _ [13, 8, 9, 6, 10] (by decide +kernel) (by decide +kernel)
set_option maxRecDepth 20000 in
theorem gX4_firstMark_X4_isSection : GoodIn wsX4_firstMark (va_wsS RX4 57 yX4_isSection wsX4_isSection) := goodIn_app (goodIn_of _ (by decide +kernel)) ggX4_firstMark_X4_isSection
theorem dX4_firstMark_0 : decode cX4_firstMark 0 = .ok (.iconst 0, 1) := by decide +kernel
theorem dX4_firstMark_1 : decode cX4_firstMark 1 = .ok (.istore_n 3, 1) := by decide +kernel
theorem dX4_firstMark_2 : decode cX4_firstMark 2 = .ok (.iload_n 3, 1) := by decide +kernel
theorem dX4_firstMark_3 : decode cX4_firstMark 3 = .ok (.aload_n 0, 1) := by decide +kernel
theorem dX4_firstMark_4 : decode cX4_firstMark 4 = .ok (.getfield 35, 3) := by decide +kernel
theorem dX4_firstMark_7 : decode cX4_firstMark 7 = .ok (.iload_n 1, 1) := by decide +kernel
theorem dX4_firstMark_8 : decode cX4_firstMark 8 = .ok (.iaload, 1) := by decide +kernel
theorem dX4_firstMark_9 : decode cX4_firstMark 9 = .ok (.if_icmp .ge 52, 3) := by decide +kernel
theorem dX4_firstMark_12 : decode cX4_firstMark 12 = .ok (.aload_n 0, 1) := by decide +kernel
theorem dX4_firstMark_13 : decode cX4_firstMark 13 = .ok (.getfield 7, 3) := by decide +kernel
theorem dX4_firstMark_16 : decode cX4_firstMark 16 = .ok (.iconst 0, 1) := by decide +kernel
theorem dX4_firstMark_17 : decode cX4_firstMark 17 = .ok (.aload_n 0, 1) := by decide +kernel
theorem dX4_firstMark_18 : decode cX4_firstMark 18 = .ok (.getfield 32, 3) := by decide +kernel
theorem dX4_firstMark_21 : decode cX4_firstMark 21 = .ok (.iload_n 1, 1) := by decide +kernel
theorem dX4_firstMark_22 : decode cX4_firstMark 22 = .ok (.iaload, 1) := by decide +kernel
theorem dX4_firstMark_23 : decode cX4_firstMark 23 = .ok (.iadd, 1) := by decide +kernel
theorem dX4_firstMark_24 : decode cX4_firstMark 24 = .ok (.iload_n 3, 1) := by decide +kernel
theorem dX4_firstMark_25 : decode cX4_firstMark 25 = .ok (.iadd, 1) := by decide +kernel
theorem dX4_firstMark_26 : decode cX4_firstMark 26 = .ok (.iaload, 1) := by decide +kernel
theorem dX4_firstMark_27 : decode cX4_firstMark 27 = .ok (.istore 4, 2) := by decide +kernel
theorem dX4_firstMark_29 : decode cX4_firstMark 29 = .ok (.iload_n 2, 1) := by decide +kernel
theorem dX4_firstMark_30 : decode cX4_firstMark 30 = .ok (.ifCond .ne 14, 3) := by decide +kernel
theorem dX4_firstMark_33 : decode cX4_firstMark 33 = .ok (.iload 4, 2) := by decide +kernel
theorem dX4_firstMark_35 : decode cX4_firstMark 35 = .ok (.invokestatic 53, 3) := by decide +kernel
theorem dX4_firstMark_38 : decode cX4_firstMark 38 = .ok (.ifCond .eq 17, 3) := by decide +kernel
theorem dX4_firstMark_41 : decode cX4_firstMark 41 = .ok (.goto 11, 3) := by decide +kernel
theorem dX4_firstMark_44 : decode cX4_firstMark 44 = .ok (.iload 4, 2) := by decide +kernel
theorem dX4_firstMark_46 : decode cX4_firstMark 46 = .ok (.invokestatic 57, 3) := by decide +kernel
theorem dX4_firstMark_49 : decode cX4_firstMark 49 = .ok (.ifCond .eq 6, 3) := by decide +kernel
theorem dX4_firstMark_52 : decode cX4_firstMark 52 = .ok (.iload 4, 2) := by decide +kernel
theorem dX4_firstMark_54 : decode cX4_firstMark 54 = .ok (.ireturn, 1) := by decide +kernel
theorem dX4_firstMark_55 : decode cX4_firstMark 55 = .ok (.iinc 3 1, 3) := by decide +kernel
theorem dX4_firstMark_58 : decode cX4_firstMark 58 = .ok (.goto (-56), 3) := by decide +kernel
theorem dX4_firstMark_61 : decode cX4_firstMark 61 = .ok (.bipush (-6), 2) := by decide +kernel
theorem dX4_firstMark_63 : decode cX4_firstMark 63 = .ok (.ireturn, 1) := by decide +kernel
set_option maxRecDepth 20000 in
theorem ggX4_markOf_X4_lineAhead : GoodIn wsX4_markOf wsX4_lineAhead := goodIn_r _ [6, 7, 8, 9, 10, 5, 11, 12, 32, 33, 34, 35, 36, 37, 38, 39, 40, 41, 42, 43] (by decide +kernel) (by decide +kernel)
set_option maxRecDepth 20000 in
theorem gX4_markOf_X4_lineAhead : GoodIn wsX4_markOf (wsV RX4 90 RX4 yX4_lineAhead wsX4_lineAhead) := goodIn_app (goodIn_of _ (by decide +kernel)) ggX4_markOf_X4_lineAhead
set_option maxRecDepth 20000 in
theorem ggX4_markOf_X4_breakMark : GoodIn wsX4_markOf wsX4_breakMark := goodIn_r _ [16, 17, 32, 33, 34, 35, 36, 37, 38, 39, 40, 41, 42, 43] (by decide +kernel) (by decide +kernel)
set_option maxRecDepth 20000 in
theorem gX4_markOf_X4_breakMark : GoodIn wsX4_markOf (wsV RX4 93 RX4 yX4_breakMark wsX4_breakMark) := goodIn_app (goodIn_of _ (by decide +kernel)) ggX4_markOf_X4_breakMark
set_option maxRecDepth 20000 in
theorem ggX4_markOf_X4_firstMark : GoodIn wsX4_markOf wsX4_firstMark := goodIn_r _ [21, 1, 12, 22, 23, 24, 5, 25, 26, 27, 28, 29, 30, 31, 32, 33, 34, 35, 36, 37, 38, 39, 40, 41, 42, 43] (by decide +kernel) (by decide +kernel)
set_option maxRecDepth 20000 in
theorem gX4_markOf_X4_firstMark : GoodIn wsX4_markOf (wsV RX4 97 RX4 yX4_firstMark wsX4_firstMark) := goodIn_app (goodIn_of _ (by decide +kernel)) ggX4_markOf_X4_firstMark
theorem dX4_markOf_0 : decode cX4_markOf 0 = .ok (.aload_n 0, 1) := by decide +kernel
theorem dX4_markOf_1 : decode cX4_markOf 1 = .ok (.iload_n 1, 1) := by decide +kernel
theorem dX4_markOf_2 : decode cX4_markOf 2 = .ok (.invokevirtual 90, 3) := by decide +kernel
theorem dX4_markOf_5 : decode cX4_markOf 5 = .ok (.istore 4, 2) := by decide +kernel
theorem dX4_markOf_7 : decode cX4_markOf 7 = .ok (.iload_n 3, 1) := by decide +kernel
theorem dX4_markOf_8 : decode cX4_markOf 8 = .ok (.iconst 2, 1) := by decide +kernel
theorem dX4_markOf_9 : decode cX4_markOf 9 = .ok (.if_icmp .ne 18, 3) := by decide +kernel
theorem dX4_markOf_12 : decode cX4_markOf 12 = .ok (.aload_n 0, 1) := by decide +kernel
theorem dX4_markOf_13 : decode cX4_markOf 13 = .ok (.iload 4, 2) := by decide +kernel
theorem dX4_markOf_15 : decode cX4_markOf 15 = .ok (.aload_n 0, 1) := by decide +kernel
theorem dX4_markOf_16 : decode cX4_markOf 16 = .ok (.getfield 35, 3) := by decide +kernel
theorem dX4_markOf_19 : decode cX4_markOf 19 = .ok (.iload_n 1, 1) := by decide +kernel
theorem dX4_markOf_20 : decode cX4_markOf 20 = .ok (.iaload, 1) := by decide +kernel
theorem dX4_markOf_21 : decode cX4_markOf 21 = .ok (.iadd, 1) := by decide +kernel
theorem dX4_markOf_22 : decode cX4_markOf 22 = .ok (.iload_n 2, 1) := by decide +kernel
theorem dX4_markOf_23 : decode cX4_markOf 23 = .ok (.invokevirtual 93, 3) := by decide +kernel
theorem dX4_markOf_26 : decode cX4_markOf 26 = .ok (.ireturn, 1) := by decide +kernel
theorem dX4_markOf_27 : decode cX4_markOf 27 = .ok (.iload_n 3, 1) := by decide +kernel
theorem dX4_markOf_28 : decode cX4_markOf 28 = .ok (.iconst 1, 1) := by decide +kernel
theorem dX4_markOf_29 : decode cX4_markOf 29 = .ok (.if_icmp .ne 12, 3) := by decide +kernel
theorem dX4_markOf_32 : decode cX4_markOf 32 = .ok (.aload_n 0, 1) := by decide +kernel
theorem dX4_markOf_33 : decode cX4_markOf 33 = .ok (.iload_n 1, 1) := by decide +kernel
theorem dX4_markOf_34 : decode cX4_markOf 34 = .ok (.iload_n 2, 1) := by decide +kernel
theorem dX4_markOf_35 : decode cX4_markOf 35 = .ok (.invokevirtual 97, 3) := by decide +kernel
theorem dX4_markOf_38 : decode cX4_markOf 38 = .ok (.goto 5, 3) := by decide +kernel
theorem dX4_markOf_41 : decode cX4_markOf 41 = .ok (.bipush (-6), 2) := by decide +kernel
theorem dX4_markOf_43 : decode cX4_markOf 43 = .ok (.istore 5, 2) := by decide +kernel
theorem dX4_markOf_45 : decode cX4_markOf 45 = .ok (.iload 5, 2) := by decide +kernel
theorem dX4_markOf_47 : decode cX4_markOf 47 = .ok (.bipush (-6), 2) := by decide +kernel
theorem dX4_markOf_49 : decode cX4_markOf 49 = .ok (.if_icmp .ne 13, 3) := by decide +kernel
theorem dX4_markOf_52 : decode cX4_markOf 52 = .ok (.aload_n 0, 1) := by decide +kernel
theorem dX4_markOf_53 : decode cX4_markOf 53 = .ok (.iload 4, 2) := by decide +kernel
theorem dX4_markOf_55 : decode cX4_markOf 55 = .ok (.iload_n 2, 1) := by decide +kernel
theorem dX4_markOf_56 : decode cX4_markOf 56 = .ok (.invokevirtual 93, 3) := by decide +kernel
theorem dX4_markOf_59 : decode cX4_markOf 59 = .ok (.goto 5, 3) := by decide +kernel
theorem dX4_markOf_62 : decode cX4_markOf 62 = .ok (.iload 5, 2) := by decide +kernel
theorem dX4_markOf_64 : decode cX4_markOf 64 = .ok (.ireturn, 1) := by decide +kernel
set_option maxRecDepth 20000 in
theorem ggX4_headOf_X4_isChapter : GoodIn wsX4_headOf wsX4_isChapter := goodIn_r _ [7, 8, 9, 6, 10] (by decide +kernel) (by decide +kernel)
set_option maxRecDepth 20000 in
theorem gX4_headOf_X4_isChapter : GoodIn wsX4_headOf (va_wsS RX4 53 yX4_isChapter wsX4_isChapter) := goodIn_app (goodIn_of _ (by decide +kernel)) ggX4_headOf_X4_isChapter
set_option maxRecDepth 20000 in
theorem ggX4_headOf_X4_markOf : GoodIn wsX4_headOf wsX4_markOf := goodIn_r _ [14, 1, 15, 16, 17, 6, 18, 19, 20, 21, 22, 23, 2, 24, 25, 26, 27, 28, 29, 30, 31, 32, 3, 4, 5, 7, 8, 9, 10, 33, 34, 35, 36, 37, 38, 39, 40, 41, 42, 43, 44, 45, 46, 47] (by decide +kernel) (by decide +kernel)
set_option maxRecDepth 20000 in
theorem gX4_headOf_X4_markOf : GoodIn wsX4_headOf (wsV RX4 100 RX4 yX4_markOf wsX4_markOf) := goodIn_app (goodIn_of _ (by decide +kernel)) ggX4_headOf_X4_markOf
theorem dX4_headOf_0 : decode cX4_headOf 0 = .ok (.aload_n 0, 1) := by decide +kernel
theorem dX4_headOf_1 : decode cX4_headOf 1 = .ok (.getfield 35, 3) := by decide +kernel
theorem dX4_headOf_4 : decode cX4_headOf 4 = .ok (.iload_n 1, 1) := by decide +kernel
theorem dX4_headOf_5 : decode cX4_headOf 5 = .ok (.iaload, 1) := by decide +kernel
theorem dX4_headOf_6 : decode cX4_headOf 6 = .ok (.ifCond .eq 33, 3) := by decide +kernel
theorem dX4_headOf_9 : decode cX4_headOf 9 = .ok (.aload_n 0, 1) := by decide +kernel
theorem dX4_headOf_10 : decode cX4_headOf 10 = .ok (.getfield 7, 3) := by decide +kernel
theorem dX4_headOf_13 : decode cX4_headOf 13 = .ok (.bipush 125, 2) := by decide +kernel
theorem dX4_headOf_15 : decode cX4_headOf 15 = .ok (.iaload, 1) := by decide +kernel
theorem dX4_headOf_16 : decode cX4_headOf 16 = .ok (.iconst 1, 1) := by decide +kernel
theorem dX4_headOf_17 : decode cX4_headOf 17 = .ok (.if_icmp .ne 25, 3) := by decide +kernel
theorem dX4_headOf_20 : decode cX4_headOf 20 = .ok (.aload_n 0, 1) := by decide +kernel
theorem dX4_headOf_21 : decode cX4_headOf 21 = .ok (.getfield 7, 3) := by decide +kernel
theorem dX4_headOf_24 : decode cX4_headOf 24 = .ok (.iconst 0, 1) := by decide +kernel
theorem dX4_headOf_25 : decode cX4_headOf 25 = .ok (.aload_n 0, 1) := by decide +kernel
theorem dX4_headOf_26 : decode cX4_headOf 26 = .ok (.getfield 32, 3) := by decide +kernel
theorem dX4_headOf_29 : decode cX4_headOf 29 = .ok (.iload_n 1, 1) := by decide +kernel
theorem dX4_headOf_30 : decode cX4_headOf 30 = .ok (.iaload, 1) := by decide +kernel
theorem dX4_headOf_31 : decode cX4_headOf 31 = .ok (.iadd, 1) := by decide +kernel
theorem dX4_headOf_32 : decode cX4_headOf 32 = .ok (.iaload, 1) := by decide +kernel
theorem dX4_headOf_33 : decode cX4_headOf 33 = .ok (.invokestatic 53, 3) := by decide +kernel
theorem dX4_headOf_36 : decode cX4_headOf 36 = .ok (.ifCond .eq 6, 3) := by decide +kernel
theorem dX4_headOf_39 : decode cX4_headOf 39 = .ok (.bipush (-6), 2) := by decide +kernel
theorem dX4_headOf_41 : decode cX4_headOf 41 = .ok (.ireturn, 1) := by decide +kernel
theorem dX4_headOf_42 : decode cX4_headOf 42 = .ok (.iload_n 1, 1) := by decide +kernel
theorem dX4_headOf_43 : decode cX4_headOf 43 = .ok (.iconst 2, 1) := by decide +kernel
theorem dX4_headOf_44 : decode cX4_headOf 44 = .ok (.irem, 1) := by decide +kernel
theorem dX4_headOf_45 : decode cX4_headOf 45 = .ok (.istore_n 2, 1) := by decide +kernel
theorem dX4_headOf_46 : decode cX4_headOf 46 = .ok (.aload_n 0, 1) := by decide +kernel
theorem dX4_headOf_47 : decode cX4_headOf 47 = .ok (.iload_n 1, 1) := by decide +kernel
theorem dX4_headOf_48 : decode cX4_headOf 48 = .ok (.aload_n 0, 1) := by decide +kernel
theorem dX4_headOf_49 : decode cX4_headOf 49 = .ok (.getfield 7, 3) := by decide +kernel
theorem dX4_headOf_52 : decode cX4_headOf 52 = .ok (.bipush 126, 2) := by decide +kernel
theorem dX4_headOf_54 : decode cX4_headOf 54 = .ok (.iload_n 2, 1) := by decide +kernel
theorem dX4_headOf_55 : decode cX4_headOf 55 = .ok (.iadd, 1) := by decide +kernel
theorem dX4_headOf_56 : decode cX4_headOf 56 = .ok (.iaload, 1) := by decide +kernel
theorem dX4_headOf_57 : decode cX4_headOf 57 = .ok (.aload_n 0, 1) := by decide +kernel
theorem dX4_headOf_58 : decode cX4_headOf 58 = .ok (.getfield 7, 3) := by decide +kernel
theorem dX4_headOf_61 : decode cX4_headOf 61 = .ok (.sipush 128, 3) := by decide +kernel
theorem dX4_headOf_64 : decode cX4_headOf 64 = .ok (.iload_n 2, 1) := by decide +kernel
theorem dX4_headOf_65 : decode cX4_headOf 65 = .ok (.iadd, 1) := by decide +kernel
theorem dX4_headOf_66 : decode cX4_headOf 66 = .ok (.iaload, 1) := by decide +kernel
theorem dX4_headOf_67 : decode cX4_headOf 67 = .ok (.invokevirtual 100, 3) := by decide +kernel
theorem dX4_headOf_70 : decode cX4_headOf 70 = .ok (.ireturn, 1) := by decide +kernel
set_option maxRecDepth 20000 in
theorem ggX4_line_X4_isLine : GoodIn wsX4_line wsX4_isLine := goodIn_r _ [9, 10, 11, 12, 8, 13, 1, 14, 15, 16, 39, 40, 41, 42, 43, 44, 45, 46, 47, 48, 49, 50] (by decide +kernel) (by decide +kernel)
set_option maxRecDepth 20000 in
theorem gX4_line_X4_isLine : GoodIn wsX4_line (wsV RX4 104 RX4 yX4_isLine wsX4_isLine) := goodIn_app (goodIn_of _ (by decide +kernel)) ggX4_line_X4_isLine
set_option maxRecDepth 20000 in
theorem ggX4_line_X4_layPages : GoodIn wsX4_line wsX4_layPages := goodIn_r _ [20, 21, 22, 1, 2, 3, 23, 10, 11, 12, 8, 13, 24, 25, 26, 27, 28, 29, 30, 31, 32, 33, 34, 14, 15, 16, 35, 36, 37, 38, 4, 39, 40, 41, 42, 43, 44, 45, 46, 47, 48, 49, 50] (by decide +kernel) (by decide +kernel)
set_option maxRecDepth 20000 in
theorem gX4_line_X4_layPages : GoodIn wsX4_line (wsV RX4 107 RX4 yX4_layPages wsX4_layPages) := goodIn_app (goodIn_of _ (by decide +kernel)) ggX4_line_X4_layPages
theorem dX4_line_0 : decode cX4_line 0 = .ok (.aload_n 0, 1) := by decide +kernel
theorem dX4_line_1 : decode cX4_line 1 = .ok (.iload_n 1, 1) := by decide +kernel
theorem dX4_line_2 : decode cX4_line 2 = .ok (.invokevirtual 104, 3) := by decide +kernel
theorem dX4_line_5 : decode cX4_line 5 = .ok (.ifCond .ne 5, 3) := by decide +kernel
theorem dX4_line_8 : decode cX4_line 8 = .ok (.iconst (-1), 1) := by decide +kernel
theorem dX4_line_9 : decode cX4_line 9 = .ok (.ireturn, 1) := by decide +kernel
theorem dX4_line_10 : decode cX4_line 10 = .ok (.aload_n 0, 1) := by decide +kernel
theorem dX4_line_11 : decode cX4_line 11 = .ok (.invokevirtual 107, 3) := by decide +kernel
theorem dX4_line_14 : decode cX4_line 14 = .ok (.iload_n 2, 1) := by decide +kernel
theorem dX4_line_15 : decode cX4_line 15 = .ok (.tableswitch 99 0 5 #[37, 62, 69, 76, 86, 86], 37) := by decide +kernel
theorem dX4_line_52 : decode cX4_line 52 = .ok (.aload_n 0, 1) := by decide +kernel
theorem dX4_line_53 : decode cX4_line 53 = .ok (.getfield 7, 3) := by decide +kernel
theorem dX4_line_56 : decode cX4_line 56 = .ok (.iconst 0, 1) := by decide +kernel
theorem dX4_line_57 : decode cX4_line 57 = .ok (.iload_n 1, 1) := by decide +kernel
theorem dX4_line_58 : decode cX4_line 58 = .ok (.iadd, 1) := by decide +kernel
theorem dX4_line_59 : decode cX4_line 59 = .ok (.iaload, 1) := by decide +kernel
theorem dX4_line_60 : decode cX4_line 60 = .ok (.ifCond .ne 8, 3) := by decide +kernel
theorem dX4_line_63 : decode cX4_line 63 = .ok (.bipush (-6), 2) := by decide +kernel
theorem dX4_line_65 : decode cX4_line 65 = .ok (.goto 11, 3) := by decide +kernel
theorem dX4_line_68 : decode cX4_line 68 = .ok (.aload_n 0, 1) := by decide +kernel
theorem dX4_line_69 : decode cX4_line 69 = .ok (.getfield 7, 3) := by decide +kernel
theorem dX4_line_72 : decode cX4_line 72 = .ok (.iconst 0, 1) := by decide +kernel
theorem dX4_line_73 : decode cX4_line 73 = .ok (.iload_n 1, 1) := by decide +kernel
theorem dX4_line_74 : decode cX4_line 74 = .ok (.iadd, 1) := by decide +kernel
theorem dX4_line_75 : decode cX4_line 75 = .ok (.iaload, 1) := by decide +kernel
theorem dX4_line_76 : decode cX4_line 76 = .ok (.ireturn, 1) := by decide +kernel
theorem dX4_line_77 : decode cX4_line 77 = .ok (.aload_n 0, 1) := by decide +kernel
theorem dX4_line_78 : decode cX4_line 78 = .ok (.getfield 23, 3) := by decide +kernel
theorem dX4_line_81 : decode cX4_line 81 = .ok (.iload_n 1, 1) := by decide +kernel
theorem dX4_line_82 : decode cX4_line 82 = .ok (.iaload, 1) := by decide +kernel
theorem dX4_line_83 : decode cX4_line 83 = .ok (.ireturn, 1) := by decide +kernel
theorem dX4_line_84 : decode cX4_line 84 = .ok (.aload_n 0, 1) := by decide +kernel
theorem dX4_line_85 : decode cX4_line 85 = .ok (.getfield 26, 3) := by decide +kernel
theorem dX4_line_88 : decode cX4_line 88 = .ok (.iload_n 1, 1) := by decide +kernel
theorem dX4_line_89 : decode cX4_line 89 = .ok (.iaload, 1) := by decide +kernel
theorem dX4_line_90 : decode cX4_line 90 = .ok (.ireturn, 1) := by decide +kernel
theorem dX4_line_91 : decode cX4_line 91 = .ok (.aload_n 0, 1) := by decide +kernel
theorem dX4_line_92 : decode cX4_line 92 = .ok (.getfield 7, 3) := by decide +kernel
theorem dX4_line_95 : decode cX4_line 95 = .ok (.bipush 60, 2) := by decide +kernel
theorem dX4_line_97 : decode cX4_line 97 = .ok (.iload_n 1, 1) := by decide +kernel
theorem dX4_line_98 : decode cX4_line 98 = .ok (.iadd, 1) := by decide +kernel
theorem dX4_line_99 : decode cX4_line 99 = .ok (.iaload, 1) := by decide +kernel
theorem dX4_line_100 : decode cX4_line 100 = .ok (.ireturn, 1) := by decide +kernel
theorem dX4_line_101 : decode cX4_line 101 = .ok (.aload_n 0, 1) := by decide +kernel
theorem dX4_line_102 : decode cX4_line 102 = .ok (.getfield 29, 3) := by decide +kernel
theorem dX4_line_105 : decode cX4_line 105 = .ok (.iconst 2, 1) := by decide +kernel
theorem dX4_line_106 : decode cX4_line 106 = .ok (.iload_n 1, 1) := by decide +kernel
theorem dX4_line_107 : decode cX4_line 107 = .ok (.imul, 1) := by decide +kernel
theorem dX4_line_108 : decode cX4_line 108 = .ok (.iload_n 2, 1) := by decide +kernel
theorem dX4_line_109 : decode cX4_line 109 = .ok (.iadd, 1) := by decide +kernel
theorem dX4_line_110 : decode cX4_line 110 = .ok (.iconst 4, 1) := by decide +kernel
theorem dX4_line_111 : decode cX4_line 111 = .ok (.isub, 1) := by decide +kernel
theorem dX4_line_112 : decode cX4_line 112 = .ok (.iaload, 1) := by decide +kernel
theorem dX4_line_113 : decode cX4_line 113 = .ok (.ireturn, 1) := by decide +kernel
theorem dX4_line_114 : decode cX4_line 114 = .ok (.bipush (-2), 2) := by decide +kernel
theorem dX4_line_116 : decode cX4_line 116 = .ok (.ireturn, 1) := by decide +kernel
set_option maxRecDepth 20000 in
theorem ggX4_chapterOf_X4_isChapter : GoodIn wsX4_chapterOf wsX4_isChapter := goodIn_r _ [5, 6, 7, 4, 8] (by decide +kernel) (by decide +kernel)
set_option maxRecDepth 20000 in
theorem gX4_chapterOf_X4_isChapter : GoodIn wsX4_chapterOf (va_wsS RX4 53 yX4_isChapter wsX4_isChapter) := goodIn_app (goodIn_of _ (by decide +kernel)) ggX4_chapterOf_X4_isChapter
theorem dX4_chapterOf_0 : decode cX4_chapterOf 0 = .ok (.bipush (-6), 2) := by decide +kernel
theorem dX4_chapterOf_2 : decode cX4_chapterOf 2 = .ok (.istore_n 2, 1) := by decide +kernel
theorem dX4_chapterOf_3 : decode cX4_chapterOf 3 = .ok (.iconst 0, 1) := by decide +kernel
theorem dX4_chapterOf_4 : decode cX4_chapterOf 4 = .ok (.istore_n 3, 1) := by decide +kernel
theorem dX4_chapterOf_5 : decode cX4_chapterOf 5 = .ok (.iload_n 3, 1) := by decide +kernel
theorem dX4_chapterOf_6 : decode cX4_chapterOf 6 = .ok (.iload_n 1, 1) := by decide +kernel
theorem dX4_chapterOf_7 : decode cX4_chapterOf 7 = .ok (.if_icmp .gt 39, 3) := by decide +kernel
theorem dX4_chapterOf_10 : decode cX4_chapterOf 10 = .ok (.aload_n 0, 1) := by decide +kernel
theorem dX4_chapterOf_11 : decode cX4_chapterOf 11 = .ok (.getfield 7, 3) := by decide +kernel
theorem dX4_chapterOf_14 : decode cX4_chapterOf 14 = .ok (.iconst 0, 1) := by decide +kernel
theorem dX4_chapterOf_15 : decode cX4_chapterOf 15 = .ok (.iload_n 3, 1) := by decide +kernel
theorem dX4_chapterOf_16 : decode cX4_chapterOf 16 = .ok (.iadd, 1) := by decide +kernel
theorem dX4_chapterOf_17 : decode cX4_chapterOf 17 = .ok (.iaload, 1) := by decide +kernel
theorem dX4_chapterOf_18 : decode cX4_chapterOf 18 = .ok (.invokestatic 53, 3) := by decide +kernel
theorem dX4_chapterOf_21 : decode cX4_chapterOf 21 = .ok (.ifCond .eq 17, 3) := by decide +kernel
theorem dX4_chapterOf_24 : decode cX4_chapterOf 24 = .ok (.iload_n 2, 1) := by decide +kernel
theorem dX4_chapterOf_25 : decode cX4_chapterOf 25 = .ok (.ifCond .ge 7, 3) := by decide +kernel
theorem dX4_chapterOf_28 : decode cX4_chapterOf 28 = .ok (.iconst 0, 1) := by decide +kernel
theorem dX4_chapterOf_29 : decode cX4_chapterOf 29 = .ok (.goto 10, 3) := by decide +kernel
theorem dX4_chapterOf_32 : decode cX4_chapterOf 32 = .ok (.iload_n 2, 1) := by decide +kernel
theorem dX4_chapterOf_33 : decode cX4_chapterOf 33 = .ok (.iconst 1, 1) := by decide +kernel
theorem dX4_chapterOf_34 : decode cX4_chapterOf 34 = .ok (.iadd, 1) := by decide +kernel
theorem dX4_chapterOf_35 : decode cX4_chapterOf 35 = .ok (.goto 4, 3) := by decide +kernel
theorem dX4_chapterOf_38 : decode cX4_chapterOf 38 = .ok (.iload_n 2, 1) := by decide +kernel
theorem dX4_chapterOf_39 : decode cX4_chapterOf 39 = .ok (.istore_n 2, 1) := by decide +kernel
theorem dX4_chapterOf_40 : decode cX4_chapterOf 40 = .ok (.iinc 3 1, 3) := by decide +kernel
theorem dX4_chapterOf_43 : decode cX4_chapterOf 43 = .ok (.goto (-38), 3) := by decide +kernel
theorem dX4_chapterOf_46 : decode cX4_chapterOf 46 = .ok (.iload_n 2, 1) := by decide +kernel
theorem dX4_chapterOf_47 : decode cX4_chapterOf 47 = .ok (.ireturn, 1) := by decide +kernel
set_option maxRecDepth 20000 in
theorem ggX4_isShared_X4_chapterOf : GoodIn wsX4_isShared wsX4_chapterOf := goodIn_r _ [7, 8, 9, 10, 6, 11, 12, 13, 14, 15, 16, 17, 18, 19, 20, 21, 22, 23, 24, 25, 26] (by decide +kernel) (by decide +kernel)
set_option maxRecDepth 20000 in
theorem gX4_isShared_X4_chapterOf : GoodIn wsX4_isShared (wsV RX4 110 RX4 yX4_chapterOf wsX4_chapterOf) := goodIn_app (goodIn_of _ (by decide +kernel)) ggX4_isShared_X4_chapterOf
theorem dX4_isShared_0 : decode cX4_isShared 0 = .ok (.bipush (-6), 2) := by decide +kernel
theorem dX4_isShared_2 : decode cX4_isShared 2 = .ok (.istore_n 2, 1) := by decide +kernel
theorem dX4_isShared_3 : decode cX4_isShared 3 = .ok (.iconst 0, 1) := by decide +kernel
theorem dX4_isShared_4 : decode cX4_isShared 4 = .ok (.istore_n 3, 1) := by decide +kernel
theorem dX4_isShared_5 : decode cX4_isShared 5 = .ok (.iconst 0, 1) := by decide +kernel
theorem dX4_isShared_6 : decode cX4_isShared 6 = .ok (.istore 4, 2) := by decide +kernel
theorem dX4_isShared_8 : decode cX4_isShared 8 = .ok (.iload 4, 2) := by decide +kernel
theorem dX4_isShared_10 : decode cX4_isShared 10 = .ok (.aload_n 0, 1) := by decide +kernel
theorem dX4_isShared_11 : decode cX4_isShared 11 = .ok (.getfield 35, 3) := by decide +kernel
end
section
theorem dX4_isShared_14 : decode cX4_isShared 14 = .ok (.iload_n 1, 1) := by decide +kernel
theorem dX4_isShared_15 : decode cX4_isShared 15 = .ok (.iaload, 1) := by decide +kernel
theorem dX4_isShared_16 : decode cX4_isShared 16 = .ok (.if_icmp .ge 46, 3) := by decide +kernel
theorem dX4_isShared_19 : decode cX4_isShared 19 = .ok (.aload_n 0, 1) := by decide +kernel
theorem dX4_isShared_20 : decode cX4_isShared 20 = .ok (.aload_n 0, 1) := by decide +kernel
theorem dX4_isShared_21 : decode cX4_isShared 21 = .ok (.getfield 32, 3) := by decide +kernel
theorem dX4_isShared_24 : decode cX4_isShared 24 = .ok (.iload_n 1, 1) := by decide +kernel
theorem dX4_isShared_25 : decode cX4_isShared 25 = .ok (.iaload, 1) := by decide +kernel
theorem dX4_isShared_26 : decode cX4_isShared 26 = .ok (.iload 4, 2) := by decide +kernel
theorem dX4_isShared_28 : decode cX4_isShared 28 = .ok (.iadd, 1) := by decide +kernel
theorem dX4_isShared_29 : decode cX4_isShared 29 = .ok (.invokevirtual 110, 3) := by decide +kernel
theorem dX4_isShared_32 : decode cX4_isShared 32 = .ok (.istore 5, 2) := by decide +kernel
theorem dX4_isShared_34 : decode cX4_isShared 34 = .ok (.iload_n 3, 1) := by decide +kernel
theorem dX4_isShared_35 : decode cX4_isShared 35 = .ok (.iload 5, 2) := by decide +kernel
theorem dX4_isShared_37 : decode cX4_isShared 37 = .ok (.ifCond .lt 13, 3) := by decide +kernel
theorem dX4_isShared_40 : decode cX4_isShared 40 = .ok (.iload 5, 2) := by decide +kernel
theorem dX4_isShared_42 : decode cX4_isShared 42 = .ok (.iload_n 2, 1) := by decide +kernel
theorem dX4_isShared_43 : decode cX4_isShared 43 = .ok (.if_icmp .eq 7, 3) := by decide +kernel
theorem dX4_isShared_46 : decode cX4_isShared 46 = .ok (.iconst 1, 1) := by decide +kernel
theorem dX4_isShared_47 : decode cX4_isShared 47 = .ok (.goto 4, 3) := by decide +kernel
theorem dX4_isShared_50 : decode cX4_isShared 50 = .ok (.iconst 0, 1) := by decide +kernel
theorem dX4_isShared_51 : decode cX4_isShared 51 = .ok (.iadd, 1) := by decide +kernel
theorem dX4_isShared_52 : decode cX4_isShared 52 = .ok (.istore_n 3, 1) := by decide +kernel
theorem dX4_isShared_53 : decode cX4_isShared 53 = .ok (.iload 5, 2) := by decide +kernel
theorem dX4_isShared_55 : decode cX4_isShared 55 = .ok (.istore_n 2, 1) := by decide +kernel
theorem dX4_isShared_56 : decode cX4_isShared 56 = .ok (.iinc 4 1, 3) := by decide +kernel
theorem dX4_isShared_59 : decode cX4_isShared 59 = .ok (.goto (-51), 3) := by decide +kernel
theorem dX4_isShared_62 : decode cX4_isShared 62 = .ok (.iload_n 3, 1) := by decide +kernel
theorem dX4_isShared_63 : decode cX4_isShared 63 = .ok (.iconst 1, 1) := by decide +kernel
theorem dX4_isShared_64 : decode cX4_isShared 64 = .ok (.if_icmp .le 7, 3) := by decide +kernel
theorem dX4_isShared_67 : decode cX4_isShared 67 = .ok (.iconst 1, 1) := by decide +kernel
theorem dX4_isShared_68 : decode cX4_isShared 68 = .ok (.goto 4, 3) := by decide +kernel
theorem dX4_isShared_71 : decode cX4_isShared 71 = .ok (.iconst 0, 1) := by decide +kernel
theorem dX4_isShared_72 : decode cX4_isShared 72 = .ok (.ireturn, 1) := by decide +kernel
set_option maxRecDepth 20000 in
theorem ggX4_page_X4_layPages : GoodIn wsX4_page wsX4_layPages := goodIn_r _ [7, 8, 1, 9, 10, 11, 2, 12, 13, 14, 6, 15, 16, 17, 18, 19, 20, 21, 22, 23, 24, 25, 26, 27, 28, 29, 30, 31, 32, 33, 34, 70, 71, 72, 73, 74, 75, 76, 77, 78, 79, 80, 81] (by decide +kernel) (by decide +kernel)
set_option maxRecDepth 20000 in
theorem gX4_page_X4_layPages : GoodIn wsX4_page (wsV RX4 107 RX4 yX4_layPages wsX4_layPages) := goodIn_app (goodIn_of _ (by decide +kernel)) ggX4_page_X4_layPages
set_option maxRecDepth 20000 in
theorem ggX4_page_X4_isPage : GoodIn wsX4_page wsX4_isPage := goodIn_r _ [38, 8, 27, 28, 6, 29, 70, 71, 72, 73, 74, 75, 76, 77, 78, 79, 80, 81] (by decide +kernel) (by decide +kernel)
set_option maxRecDepth 20000 in
theorem gX4_page_X4_isPage : GoodIn wsX4_page (wsV RX4 113 RX4 yX4_isPage wsX4_isPage) := goodIn_app (goodIn_of _ (by decide +kernel)) ggX4_page_X4_isPage
set_option maxRecDepth 20000 in
theorem ggX4_page_X4_headOf : GoodIn wsX4_page wsX4_headOf := goodIn_r _ [42, 1, 9, 2, 24, 25, 6, 26, 27, 28, 29, 43, 44, 45, 46, 47, 48, 49, 50, 10, 12, 13, 14, 15, 51, 52, 53, 54, 34, 55, 56, 57, 58, 59, 60, 61, 70, 71, 72, 73, 74, 75, 76, 77, 78, 79, 80, 81] (by decide +kernel) (by decide +kernel)
set_option maxRecDepth 20000 in
theorem gX4_page_X4_headOf : GoodIn wsX4_page (wsV RX4 116 RX4 yX4_headOf wsX4_headOf) := goodIn_app (goodIn_of _ (by decide +kernel)) ggX4_page_X4_headOf
set_option maxRecDepth 20000 in
theorem ggX4_page_X4_isShared : GoodIn wsX4_page wsX4_isShared := goodIn_r _ [65, 1, 2, 66, 67, 68, 6, 69, 9, 24, 25, 26, 27, 28, 29, 70, 71, 72, 73, 74, 75, 76, 77, 78, 79, 80, 81] (by decide +kernel) (by decide +kernel)
set_option maxRecDepth 20000 in
theorem gX4_page_X4_isShared : GoodIn wsX4_page (wsV RX4 119 RX4 yX4_isShared wsX4_isShared) := goodIn_app (goodIn_of _ (by decide +kernel)) ggX4_page_X4_isShared
theorem dX4_page_0 : decode cX4_page 0 = .ok (.aload_n 0, 1) := by decide +kernel
theorem dX4_page_1 : decode cX4_page 1 = .ok (.invokevirtual 107, 3) := by decide +kernel
theorem dX4_page_4 : decode cX4_page 4 = .ok (.aload_n 0, 1) := by decide +kernel
theorem dX4_page_5 : decode cX4_page 5 = .ok (.iload_n 1, 1) := by decide +kernel
theorem dX4_page_6 : decode cX4_page 6 = .ok (.invokevirtual 113, 3) := by decide +kernel
theorem dX4_page_9 : decode cX4_page 9 = .ok (.ifCond .ne 5, 3) := by decide +kernel
theorem dX4_page_12 : decode cX4_page 12 = .ok (.iconst (-1), 1) := by decide +kernel
theorem dX4_page_13 : decode cX4_page 13 = .ok (.ireturn, 1) := by decide +kernel
theorem dX4_page_14 : decode cX4_page 14 = .ok (.iload_n 2, 1) := by decide +kernel
theorem dX4_page_15 : decode cX4_page 15 = .ok (.tableswitch 63 0 3 #[29, 36, 43, 49], 29) := by decide +kernel
theorem dX4_page_44 : decode cX4_page 44 = .ok (.aload_n 0, 1) := by decide +kernel
theorem dX4_page_45 : decode cX4_page 45 = .ok (.getfield 35, 3) := by decide +kernel
theorem dX4_page_48 : decode cX4_page 48 = .ok (.iload_n 1, 1) := by decide +kernel
theorem dX4_page_49 : decode cX4_page 49 = .ok (.iaload, 1) := by decide +kernel
theorem dX4_page_50 : decode cX4_page 50 = .ok (.ireturn, 1) := by decide +kernel
theorem dX4_page_51 : decode cX4_page 51 = .ok (.aload_n 0, 1) := by decide +kernel
theorem dX4_page_52 : decode cX4_page 52 = .ok (.getfield 32, 3) := by decide +kernel
theorem dX4_page_55 : decode cX4_page 55 = .ok (.iload_n 1, 1) := by decide +kernel
theorem dX4_page_56 : decode cX4_page 56 = .ok (.iaload, 1) := by decide +kernel
theorem dX4_page_57 : decode cX4_page 57 = .ok (.ireturn, 1) := by decide +kernel
theorem dX4_page_58 : decode cX4_page 58 = .ok (.aload_n 0, 1) := by decide +kernel
theorem dX4_page_59 : decode cX4_page 59 = .ok (.iload_n 1, 1) := by decide +kernel
theorem dX4_page_60 : decode cX4_page 60 = .ok (.invokevirtual 116, 3) := by decide +kernel
theorem dX4_page_63 : decode cX4_page 63 = .ok (.ireturn, 1) := by decide +kernel
theorem dX4_page_64 : decode cX4_page 64 = .ok (.aload_n 0, 1) := by decide +kernel
theorem dX4_page_65 : decode cX4_page 65 = .ok (.iload_n 1, 1) := by decide +kernel
theorem dX4_page_66 : decode cX4_page 66 = .ok (.invokevirtual 119, 3) := by decide +kernel
theorem dX4_page_69 : decode cX4_page 69 = .ok (.ifCond .eq 7, 3) := by decide +kernel
theorem dX4_page_72 : decode cX4_page 72 = .ok (.iconst 1, 1) := by decide +kernel
theorem dX4_page_73 : decode cX4_page 73 = .ok (.goto 4, 3) := by decide +kernel
theorem dX4_page_76 : decode cX4_page 76 = .ok (.iconst 0, 1) := by decide +kernel
theorem dX4_page_77 : decode cX4_page 77 = .ok (.ireturn, 1) := by decide +kernel
theorem dX4_page_78 : decode cX4_page 78 = .ok (.bipush (-2), 2) := by decide +kernel
theorem dX4_page_80 : decode cX4_page 80 = .ok (.ireturn, 1) := by decide +kernel
set_option maxRecDepth 20000 in
theorem ggX4_mark_X4_layPages : GoodIn wsX4_mark wsX4_layPages := goodIn_r _ [5, 6, 7, 8, 9, 10, 11, 12, 13, 14, 4, 15, 16, 17, 18, 19, 20, 21, 22, 23, 24, 25, 26, 27, 28, 29, 30, 31, 32, 33, 34, 58, 59, 60, 61, 62, 63, 64, 65, 66, 67, 68, 69] (by decide +kernel) (by decide +kernel)
set_option maxRecDepth 20000 in
theorem gX4_mark_X4_layPages : GoodIn wsX4_mark (wsV RX4 107 RX4 yX4_layPages wsX4_layPages) := goodIn_app (goodIn_of _ (by decide +kernel)) ggX4_mark_X4_layPages
set_option maxRecDepth 20000 in
theorem ggX4_mark_X4_isPage : GoodIn wsX4_mark wsX4_isPage := goodIn_r _ [38, 6, 27, 28, 4, 29, 58, 59, 60, 61, 62, 63, 64, 65, 66, 67, 68, 69] (by decide +kernel) (by decide +kernel)
set_option maxRecDepth 20000 in
theorem gX4_mark_X4_isPage : GoodIn wsX4_mark (wsV RX4 113 RX4 yX4_isPage wsX4_isPage) := goodIn_app (goodIn_of _ (by decide +kernel)) ggX4_mark_X4_isPage
set_option maxRecDepth 20000 in
theorem ggX4_mark_X4_in : GoodIn wsX4_mark wsX4_in := goodIn_r _ [29] (by decide +kernel) (by decide +kernel)
set_option maxRecDepth 20000 in
theorem gX4_mark_X4_in : GoodIn wsX4_mark (va_wsS RX4 41 yX4_in wsX4_in) := goodIn_app (goodIn_of _ (by decide +kernel)) ggX4_mark_X4_in
set_option maxRecDepth 20000 in
theorem ggX4_mark_X4_markOf : GoodIn wsX4_mark wsX4_markOf := goodIn_r _ [42, 7, 43, 44, 45, 4, 46, 9, 12, 13, 14, 15, 8, 47, 48, 49, 50, 34, 51, 52, 53, 54, 11, 24, 25, 26, 27, 28, 29, 55, 56, 57, 58, 59, 60, 61, 62, 63, 64, 65, 66, 67, 68, 69] (by decide +kernel) (by decide +kernel)
set_option maxRecDepth 20000 in
theorem gX4_mark_X4_markOf : GoodIn wsX4_mark (wsV RX4 100 RX4 yX4_markOf wsX4_markOf) := goodIn_app (goodIn_of _ (by decide +kernel)) ggX4_mark_X4_markOf
theorem dX4_mark_0 : decode cX4_mark 0 = .ok (.aload_n 0, 1) := by decide +kernel
theorem dX4_mark_1 : decode cX4_mark 1 = .ok (.invokevirtual 107, 3) := by decide +kernel
theorem dX4_mark_4 : decode cX4_mark 4 = .ok (.aload_n 0, 1) := by decide +kernel
theorem dX4_mark_5 : decode cX4_mark 5 = .ok (.iload_n 1, 1) := by decide +kernel
theorem dX4_mark_6 : decode cX4_mark 6 = .ok (.invokevirtual 113, 3) := by decide +kernel
theorem dX4_mark_9 : decode cX4_mark 9 = .ok (.ifCond .ne 5, 3) := by decide +kernel
theorem dX4_mark_12 : decode cX4_mark 12 = .ok (.iconst (-1), 1) := by decide +kernel
theorem dX4_mark_13 : decode cX4_mark 13 = .ok (.ireturn, 1) := by decide +kernel
theorem dX4_mark_14 : decode cX4_mark 14 = .ok (.iload_n 2, 1) := by decide +kernel
theorem dX4_mark_15 : decode cX4_mark 15 = .ok (.iconst 0, 1) := by decide +kernel
theorem dX4_mark_16 : decode cX4_mark 16 = .ok (.iconst 1, 1) := by decide +kernel
theorem dX4_mark_17 : decode cX4_mark 17 = .ok (.invokestatic 41, 3) := by decide +kernel
theorem dX4_mark_20 : decode cX4_mark 20 = .ok (.ifCond .eq 22, 3) := by decide +kernel
theorem dX4_mark_23 : decode cX4_mark 23 = .ok (.iload_n 3, 1) := by decide +kernel
theorem dX4_mark_24 : decode cX4_mark 24 = .ok (.iconst 0, 1) := by decide +kernel
theorem dX4_mark_25 : decode cX4_mark 25 = .ok (.iconst 2, 1) := by decide +kernel
theorem dX4_mark_26 : decode cX4_mark 26 = .ok (.invokestatic 41, 3) := by decide +kernel
theorem dX4_mark_29 : decode cX4_mark 29 = .ok (.ifCond .eq 13, 3) := by decide +kernel
theorem dX4_mark_32 : decode cX4_mark 32 = .ok (.aload_n 0, 1) := by decide +kernel
theorem dX4_mark_33 : decode cX4_mark 33 = .ok (.iload_n 1, 1) := by decide +kernel
theorem dX4_mark_34 : decode cX4_mark 34 = .ok (.iload_n 2, 1) := by decide +kernel
theorem dX4_mark_35 : decode cX4_mark 35 = .ok (.iload_n 3, 1) := by decide +kernel
theorem dX4_mark_36 : decode cX4_mark 36 = .ok (.invokevirtual 100, 3) := by decide +kernel
theorem dX4_mark_39 : decode cX4_mark 39 = .ok (.goto 5, 3) := by decide +kernel
theorem dX4_mark_42 : decode cX4_mark 42 = .ok (.bipush (-2), 2) := by decide +kernel
theorem dX4_mark_44 : decode cX4_mark 44 = .ok (.ireturn, 1) := by decide +kernel
set_option maxRecDepth 20000 in
theorem ggX4_headed_X4_isChapter : GoodIn wsX4_headed wsX4_isChapter := goodIn_r _ [5, 6, 7, 4, 8] (by decide +kernel) (by decide +kernel)
set_option maxRecDepth 20000 in
theorem gX4_headed_X4_isChapter : GoodIn wsX4_headed (va_wsS RX4 53 yX4_isChapter wsX4_isChapter) := goodIn_app (goodIn_of _ (by decide +kernel)) ggX4_headed_X4_isChapter
set_option maxRecDepth 20000 in
theorem ggX4_headed_X4_isSection : GoodIn wsX4_headed wsX4_isSection := goodIn_r _ [11, 6, 7, 4, 8] (by decide +kernel) (by decide +kernel)
set_option maxRecDepth 20000 in
theorem gX4_headed_X4_isSection : GoodIn wsX4_headed (va_wsS RX4 57 yX4_isSection wsX4_isSection) := goodIn_app (goodIn_of _ (by decide +kernel)) ggX4_headed_X4_isSection
set_option maxRecDepth 20000 in
theorem ggX4_headed_X4_layPages : GoodIn wsX4_headed wsX4_layPages := goodIn_r _ [15, 1, 16, 17, 18, 19, 20, 21, 22, 23, 4, 24, 25, 26, 27, 28, 29, 30, 31, 32, 2, 3, 5, 6, 7, 8, 33, 34, 35, 36, 37, 58, 59, 60, 61, 62, 63, 64, 65, 66, 67, 68, 69] (by decide +kernel) (by decide +kernel)
set_option maxRecDepth 20000 in
theorem gX4_headed_X4_layPages : GoodIn wsX4_headed (wsV RX4 107 RX4 yX4_layPages wsX4_layPages) := goodIn_app (goodIn_of _ (by decide +kernel)) ggX4_headed_X4_layPages
set_option maxRecDepth 20000 in
theorem ggX4_headed_X4_headOf : GoodIn wsX4_headed wsX4_headOf := goodIn_r _ [41, 16, 17, 20, 2, 3, 4, 5, 6, 7, 8, 42, 43, 44, 45, 46, 47, 48, 49, 18, 21, 22, 23, 24, 50, 51, 52, 53, 37, 54, 55, 56, 57, 9, 10, 11, 58, 59, 60, 61, 62, 63, 64, 65, 66, 67, 68, 69] (by decide +kernel) (by decide +kernel)
set_option maxRecDepth 20000 in
theorem gX4_headed_X4_headOf : GoodIn wsX4_headed (wsV RX4 116 RX4 yX4_headOf wsX4_headOf) := goodIn_app (goodIn_of _ (by decide +kernel)) ggX4_headed_X4_headOf
theorem dX4_headed_0 : decode cX4_headed 0 = .ok (.iload_n 1, 1) := by decide +kernel
theorem dX4_headed_1 : decode cX4_headed 1 = .ok (.invokestatic 53, 3) := by decide +kernel
theorem dX4_headed_4 : decode cX4_headed 4 = .ok (.ifCond .ne 13, 3) := by decide +kernel
theorem dX4_headed_7 : decode cX4_headed 7 = .ok (.iload_n 1, 1) := by decide +kernel
theorem dX4_headed_8 : decode cX4_headed 8 = .ok (.invokestatic 57, 3) := by decide +kernel
theorem dX4_headed_11 : decode cX4_headed 11 = .ok (.ifCond .ne 6, 3) := by decide +kernel
theorem dX4_headed_14 : decode cX4_headed 14 = .ok (.bipush (-2), 2) := by decide +kernel
theorem dX4_headed_16 : decode cX4_headed 16 = .ok (.ireturn, 1) := by decide +kernel
theorem dX4_headed_17 : decode cX4_headed 17 = .ok (.aload_n 0, 1) := by decide +kernel
theorem dX4_headed_18 : decode cX4_headed 18 = .ok (.invokevirtual 107, 3) := by decide +kernel
theorem dX4_headed_21 : decode cX4_headed 21 = .ok (.iconst 0, 1) := by decide +kernel
theorem dX4_headed_22 : decode cX4_headed 22 = .ok (.istore_n 3, 1) := by decide +kernel
theorem dX4_headed_23 : decode cX4_headed 23 = .ok (.iconst 1, 1) := by decide +kernel
theorem dX4_headed_24 : decode cX4_headed 24 = .ok (.istore 4, 2) := by decide +kernel
theorem dX4_headed_26 : decode cX4_headed 26 = .ok (.iload 4, 2) := by decide +kernel
theorem dX4_headed_28 : decode cX4_headed 28 = .ok (.aload_n 0, 1) := by decide +kernel
theorem dX4_headed_29 : decode cX4_headed 29 = .ok (.getfield 76, 3) := by decide +kernel
theorem dX4_headed_32 : decode cX4_headed 32 = .ok (.if_icmp .gt 30, 3) := by decide +kernel
theorem dX4_headed_35 : decode cX4_headed 35 = .ok (.aload_n 0, 1) := by decide +kernel
theorem dX4_headed_36 : decode cX4_headed 36 = .ok (.iload 4, 2) := by decide +kernel
theorem dX4_headed_38 : decode cX4_headed 38 = .ok (.invokevirtual 116, 3) := by decide +kernel
theorem dX4_headed_41 : decode cX4_headed 41 = .ok (.iload_n 1, 1) := by decide +kernel
theorem dX4_headed_42 : decode cX4_headed 42 = .ok (.if_icmp .ne 14, 3) := by decide +kernel
theorem dX4_headed_45 : decode cX4_headed 45 = .ok (.iload_n 3, 1) := by decide +kernel
theorem dX4_headed_46 : decode cX4_headed 46 = .ok (.iload_n 2, 1) := by decide +kernel
theorem dX4_headed_47 : decode cX4_headed 47 = .ok (.if_icmp .ne 6, 3) := by decide +kernel
theorem dX4_headed_50 : decode cX4_headed 50 = .ok (.iload 4, 2) := by decide +kernel
theorem dX4_headed_52 : decode cX4_headed 52 = .ok (.ireturn, 1) := by decide +kernel
theorem dX4_headed_53 : decode cX4_headed 53 = .ok (.iinc 3 1, 3) := by decide +kernel
theorem dX4_headed_56 : decode cX4_headed 56 = .ok (.iinc 4 1, 3) := by decide +kernel
theorem dX4_headed_59 : decode cX4_headed 59 = .ok (.goto (-33), 3) := by decide +kernel
theorem dX4_headed_62 : decode cX4_headed 62 = .ok (.iload_n 2, 1) := by decide +kernel
theorem dX4_headed_63 : decode cX4_headed 63 = .ok (.iconst (-1), 1) := by decide +kernel
theorem dX4_headed_64 : decode cX4_headed 64 = .ok (.if_icmp .ne 7, 3) := by decide +kernel
theorem dX4_headed_67 : decode cX4_headed 67 = .ok (.iload_n 3, 1) := by decide +kernel
theorem dX4_headed_68 : decode cX4_headed 68 = .ok (.goto 5, 3) := by decide +kernel
theorem dX4_headed_71 : decode cX4_headed 71 = .ok (.bipush (-6), 2) := by decide +kernel
theorem dX4_headed_73 : decode cX4_headed 73 = .ok (.ireturn, 1) := by decide +kernel
set_option maxRecDepth 20000 in
theorem ggX4_chapters_X4_many : GoodIn wsX4_chapters wsX4_many := goodIn_r _ [5, 6, 17, 18, 19, 20, 21, 22, 23, 24, 25, 26, 27, 28] (by decide +kernel) (by decide +kernel)
set_option maxRecDepth 20000 in
theorem gX4_chapters_X4_many : GoodIn wsX4_chapters (wsV RX4 45 RX4 yX4_many wsX4_many) := goodIn_app (goodIn_of _ (by decide +kernel)) ggX4_chapters_X4_many
set_option maxRecDepth 20000 in
theorem ggX4_chapters_X4_chapterOf : GoodIn wsX4_chapters wsX4_chapterOf := goodIn_r _ [10, 6, 11, 12, 4, 13, 14, 15, 16, 17, 18, 19, 20, 21, 22, 23, 24, 25, 26, 27, 28] (by decide +kernel) (by decide +kernel)
set_option maxRecDepth 20000 in
theorem gX4_chapters_X4_chapterOf : GoodIn wsX4_chapters (wsV RX4 110 RX4 yX4_chapterOf wsX4_chapterOf) := goodIn_app (goodIn_of _ (by decide +kernel)) ggX4_chapters_X4_chapterOf
theorem dX4_chapters_0 : decode cX4_chapters 0 = .ok (.aload_n 0, 1) := by decide +kernel
theorem dX4_chapters_1 : decode cX4_chapters 1 = .ok (.invokevirtual 45, 3) := by decide +kernel
theorem dX4_chapters_4 : decode cX4_chapters 4 = .ok (.ifCond .ne 7, 3) := by decide +kernel
theorem dX4_chapters_7 : decode cX4_chapters 7 = .ok (.iconst 0, 1) := by decide +kernel
theorem dX4_chapters_8 : decode cX4_chapters 8 = .ok (.goto 32, 3) := by decide +kernel
theorem dX4_chapters_11 : decode cX4_chapters 11 = .ok (.aload_n 0, 1) := by decide +kernel
theorem dX4_chapters_12 : decode cX4_chapters 12 = .ok (.aload_n 0, 1) := by decide +kernel
theorem dX4_chapters_13 : decode cX4_chapters 13 = .ok (.invokevirtual 45, 3) := by decide +kernel
theorem dX4_chapters_16 : decode cX4_chapters 16 = .ok (.iconst 1, 1) := by decide +kernel
theorem dX4_chapters_17 : decode cX4_chapters 17 = .ok (.isub, 1) := by decide +kernel
theorem dX4_chapters_18 : decode cX4_chapters 18 = .ok (.invokevirtual 110, 3) := by decide +kernel
theorem dX4_chapters_21 : decode cX4_chapters 21 = .ok (.ifCond .ge 7, 3) := by decide +kernel
theorem dX4_chapters_24 : decode cX4_chapters 24 = .ok (.iconst 0, 1) := by decide +kernel
theorem dX4_chapters_25 : decode cX4_chapters 25 = .ok (.goto 15, 3) := by decide +kernel
theorem dX4_chapters_28 : decode cX4_chapters 28 = .ok (.aload_n 0, 1) := by decide +kernel
theorem dX4_chapters_29 : decode cX4_chapters 29 = .ok (.aload_n 0, 1) := by decide +kernel
theorem dX4_chapters_30 : decode cX4_chapters 30 = .ok (.invokevirtual 45, 3) := by decide +kernel
theorem dX4_chapters_33 : decode cX4_chapters 33 = .ok (.iconst 1, 1) := by decide +kernel
theorem dX4_chapters_34 : decode cX4_chapters 34 = .ok (.isub, 1) := by decide +kernel
theorem dX4_chapters_35 : decode cX4_chapters 35 = .ok (.invokevirtual 110, 3) := by decide +kernel
theorem dX4_chapters_38 : decode cX4_chapters 38 = .ok (.iconst 1, 1) := by decide +kernel
theorem dX4_chapters_39 : decode cX4_chapters 39 = .ok (.iadd, 1) := by decide +kernel
theorem dX4_chapters_40 : decode cX4_chapters 40 = .ok (.ireturn, 1) := by decide +kernel
set_option maxRecDepth 20000 in
theorem ggX4_titleLine_X4_many : GoodIn wsX4_titleLine wsX4_many := goodIn_r _ [5, 6, 17, 18, 19, 20, 21, 22, 23, 24, 25, 26, 27, 28] (by decide +kernel) (by decide +kernel)
set_option maxRecDepth 20000 in
theorem gX4_titleLine_X4_many : GoodIn wsX4_titleLine (wsV RX4 45 RX4 yX4_many wsX4_many) := goodIn_app (goodIn_of _ (by decide +kernel)) ggX4_titleLine_X4_many
set_option maxRecDepth 20000 in
theorem ggX4_titleLine_X4_chapterOf : GoodIn wsX4_titleLine wsX4_chapterOf := goodIn_r _ [10, 6, 11, 12, 4, 13, 14, 15, 16, 17, 18, 19, 20, 21, 22, 23, 24, 25, 26, 27, 28] (by decide +kernel) (by decide +kernel)
set_option maxRecDepth 20000 in
theorem gX4_titleLine_X4_chapterOf : GoodIn wsX4_titleLine (wsV RX4 110 RX4 yX4_chapterOf wsX4_chapterOf) := goodIn_app (goodIn_of _ (by decide +kernel)) ggX4_titleLine_X4_chapterOf
theorem dX4_titleLine_0 : decode cX4_titleLine 0 = .ok (.bipush (-6), 2) := by decide +kernel
theorem dX4_titleLine_2 : decode cX4_titleLine 2 = .ok (.istore_n 2, 1) := by decide +kernel
theorem dX4_titleLine_3 : decode cX4_titleLine 3 = .ok (.aload_n 0, 1) := by decide +kernel
theorem dX4_titleLine_4 : decode cX4_titleLine 4 = .ok (.invokevirtual 45, 3) := by decide +kernel
theorem dX4_titleLine_7 : decode cX4_titleLine 7 = .ok (.iconst 1, 1) := by decide +kernel
theorem dX4_titleLine_8 : decode cX4_titleLine 8 = .ok (.isub, 1) := by decide +kernel
theorem dX4_titleLine_9 : decode cX4_titleLine 9 = .ok (.istore_n 3, 1) := by decide +kernel
theorem dX4_titleLine_10 : decode cX4_titleLine 10 = .ok (.iload_n 3, 1) := by decide +kernel
theorem dX4_titleLine_11 : decode cX4_titleLine 11 = .ok (.ifCond .lt 24, 3) := by decide +kernel
theorem dX4_titleLine_14 : decode cX4_titleLine 14 = .ok (.aload_n 0, 1) := by decide +kernel
theorem dX4_titleLine_15 : decode cX4_titleLine 15 = .ok (.iload_n 3, 1) := by decide +kernel
theorem dX4_titleLine_16 : decode cX4_titleLine 16 = .ok (.invokevirtual 110, 3) := by decide +kernel
theorem dX4_titleLine_19 : decode cX4_titleLine 19 = .ok (.iload_n 1, 1) := by decide +kernel
theorem dX4_titleLine_20 : decode cX4_titleLine 20 = .ok (.if_icmp .ne 7, 3) := by decide +kernel
theorem dX4_titleLine_23 : decode cX4_titleLine 23 = .ok (.iload_n 3, 1) := by decide +kernel
theorem dX4_titleLine_24 : decode cX4_titleLine 24 = .ok (.goto 4, 3) := by decide +kernel
theorem dX4_titleLine_27 : decode cX4_titleLine 27 = .ok (.iload_n 2, 1) := by decide +kernel
theorem dX4_titleLine_28 : decode cX4_titleLine 28 = .ok (.istore_n 2, 1) := by decide +kernel
theorem dX4_titleLine_29 : decode cX4_titleLine 29 = .ok (.iinc 3 (-1), 3) := by decide +kernel
theorem dX4_titleLine_32 : decode cX4_titleLine 32 = .ok (.goto (-22), 3) := by decide +kernel
theorem dX4_titleLine_35 : decode cX4_titleLine 35 = .ok (.iload_n 2, 1) := by decide +kernel
theorem dX4_titleLine_36 : decode cX4_titleLine 36 = .ok (.ireturn, 1) := by decide +kernel
set_option maxRecDepth 20000 in
theorem ggX4_linesOf_X4_many : GoodIn wsX4_linesOf wsX4_many := goodIn_r _ [6, 1, 20, 21, 22, 23, 24, 25, 26, 27, 28, 29, 30, 31] (by decide +kernel) (by decide +kernel)
set_option maxRecDepth 20000 in
theorem gX4_linesOf_X4_many : GoodIn wsX4_linesOf (wsV RX4 45 RX4 yX4_many wsX4_many) := goodIn_app (goodIn_of _ (by decide +kernel)) ggX4_linesOf_X4_many
set_option maxRecDepth 20000 in
theorem ggX4_linesOf_X4_chapterOf : GoodIn wsX4_linesOf wsX4_chapterOf := goodIn_r _ [10, 1, 11, 12, 5, 13, 14, 15, 16, 20, 21, 22, 23, 24, 25, 26, 27, 28, 29, 30, 31] (by decide +kernel) (by decide +kernel)
set_option maxRecDepth 20000 in
theorem gX4_linesOf_X4_chapterOf : GoodIn wsX4_linesOf (wsV RX4 110 RX4 yX4_chapterOf wsX4_chapterOf) := goodIn_app (goodIn_of _ (by decide +kernel)) ggX4_linesOf_X4_chapterOf
set_option maxRecDepth 20000 in
theorem ggX4_linesOf_X4_isSection : GoodIn wsX4_linesOf wsX4_isSection := goodIn_r _ [19, 14, 15, 5, 16] (by decide +kernel) (by decide +kernel)
set_option maxRecDepth 20000 in
theorem gX4_linesOf_X4_isSection : GoodIn wsX4_linesOf (va_wsS RX4 57 yX4_isSection wsX4_isSection) := goodIn_app (goodIn_of _ (by decide +kernel)) ggX4_linesOf_X4_isSection
theorem dX4_linesOf_0 : decode cX4_linesOf 0 = .ok (.iconst 0, 1) := by decide +kernel
theorem dX4_linesOf_1 : decode cX4_linesOf 1 = .ok (.istore_n 3, 1) := by decide +kernel
theorem dX4_linesOf_2 : decode cX4_linesOf 2 = .ok (.iconst 0, 1) := by decide +kernel
theorem dX4_linesOf_3 : decode cX4_linesOf 3 = .ok (.istore 4, 2) := by decide +kernel
theorem dX4_linesOf_5 : decode cX4_linesOf 5 = .ok (.iload 4, 2) := by decide +kernel
theorem dX4_linesOf_7 : decode cX4_linesOf 7 = .ok (.aload_n 0, 1) := by decide +kernel
theorem dX4_linesOf_8 : decode cX4_linesOf 8 = .ok (.invokevirtual 45, 3) := by decide +kernel
theorem dX4_linesOf_11 : decode cX4_linesOf 11 = .ok (.if_icmp .ge 46, 3) := by decide +kernel
theorem dX4_linesOf_14 : decode cX4_linesOf 14 = .ok (.iload_n 3, 1) := by decide +kernel
theorem dX4_linesOf_15 : decode cX4_linesOf 15 = .ok (.aload_n 0, 1) := by decide +kernel
theorem dX4_linesOf_16 : decode cX4_linesOf 16 = .ok (.iload 4, 2) := by decide +kernel
theorem dX4_linesOf_18 : decode cX4_linesOf 18 = .ok (.invokevirtual 110, 3) := by decide +kernel
theorem dX4_linesOf_21 : decode cX4_linesOf 21 = .ok (.iload_n 1, 1) := by decide +kernel
theorem dX4_linesOf_22 : decode cX4_linesOf 22 = .ok (.if_icmp .ne 26, 3) := by decide +kernel
theorem dX4_linesOf_25 : decode cX4_linesOf 25 = .ok (.iload_n 2, 1) := by decide +kernel
theorem dX4_linesOf_26 : decode cX4_linesOf 26 = .ok (.ifCond .eq 18, 3) := by decide +kernel
theorem dX4_linesOf_29 : decode cX4_linesOf 29 = .ok (.aload_n 0, 1) := by decide +kernel
theorem dX4_linesOf_30 : decode cX4_linesOf 30 = .ok (.getfield 7, 3) := by decide +kernel
theorem dX4_linesOf_33 : decode cX4_linesOf 33 = .ok (.iconst 0, 1) := by decide +kernel
theorem dX4_linesOf_34 : decode cX4_linesOf 34 = .ok (.iload 4, 2) := by decide +kernel
theorem dX4_linesOf_36 : decode cX4_linesOf 36 = .ok (.iadd, 1) := by decide +kernel
theorem dX4_linesOf_37 : decode cX4_linesOf 37 = .ok (.iaload, 1) := by decide +kernel
theorem dX4_linesOf_38 : decode cX4_linesOf 38 = .ok (.invokestatic 57, 3) := by decide +kernel
theorem dX4_linesOf_41 : decode cX4_linesOf 41 = .ok (.ifCond .eq 7, 3) := by decide +kernel
theorem dX4_linesOf_44 : decode cX4_linesOf 44 = .ok (.iconst 1, 1) := by decide +kernel
theorem dX4_linesOf_45 : decode cX4_linesOf 45 = .ok (.goto 4, 3) := by decide +kernel
theorem dX4_linesOf_48 : decode cX4_linesOf 48 = .ok (.iconst 0, 1) := by decide +kernel
theorem dX4_linesOf_49 : decode cX4_linesOf 49 = .ok (.iadd, 1) := by decide +kernel
theorem dX4_linesOf_50 : decode cX4_linesOf 50 = .ok (.istore_n 3, 1) := by decide +kernel
theorem dX4_linesOf_51 : decode cX4_linesOf 51 = .ok (.iinc 4 1, 3) := by decide +kernel
theorem dX4_linesOf_54 : decode cX4_linesOf 54 = .ok (.goto (-49), 3) := by decide +kernel
theorem dX4_linesOf_57 : decode cX4_linesOf 57 = .ok (.iload_n 3, 1) := by decide +kernel
theorem dX4_linesOf_58 : decode cX4_linesOf 58 = .ok (.ireturn, 1) := by decide +kernel
set_option maxRecDepth 20000 in
theorem ggX4_chapter_X4_in : GoodIn wsX4_chapter wsX4_in := goodIn_r _ [6] (by decide +kernel) (by decide +kernel)
set_option maxRecDepth 20000 in
theorem gX4_chapter_X4_in : GoodIn wsX4_chapter (va_wsS RX4 41 yX4_in wsX4_in) := goodIn_app (goodIn_of _ (by decide +kernel)) ggX4_chapter_X4_in
set_option maxRecDepth 20000 in
theorem ggX4_chapter_X4_chapters : GoodIn wsX4_chapter wsX4_chapters := goodIn_r _ [10, 11, 12, 13, 5, 14, 1, 15, 16, 17, 18, 19, 20, 21, 3, 4, 6, 54, 55, 56, 57, 58, 59, 60, 61, 62, 63, 64, 65] (by decide +kernel) (by decide +kernel)
set_option maxRecDepth 20000 in
theorem gX4_chapter_X4_chapters : GoodIn wsX4_chapter (wsV RX4 122 RX4 yX4_chapters wsX4_chapters) := goodIn_app (goodIn_of _ (by decide +kernel)) ggX4_chapter_X4_chapters
set_option maxRecDepth 20000 in
theorem ggX4_chapter_X4_layPages : GoodIn wsX4_chapter wsX4_layPages := goodIn_r _ [25, 26, 27, 1, 2, 28, 29, 11, 12, 13, 5, 14, 30, 31, 32, 33, 34, 35, 36, 37, 19, 20, 21, 3, 4, 6, 38, 39, 40, 41, 42, 54, 55, 56, 57, 58, 59, 60, 61, 62, 63, 64, 65] (by decide +kernel) (by decide +kernel)
set_option maxRecDepth 20000 in
theorem gX4_chapter_X4_layPages : GoodIn wsX4_chapter (wsV RX4 107 RX4 yX4_layPages wsX4_layPages) := goodIn_app (goodIn_of _ (by decide +kernel)) ggX4_chapter_X4_layPages
set_option maxRecDepth 20000 in
theorem ggX4_chapter_X4_titleLine : GoodIn wsX4_chapter wsX4_titleLine := goodIn_r _ [46, 11, 12, 13, 5, 14, 1, 15, 16, 17, 18, 19, 20, 21, 3, 4, 6, 54, 55, 56, 57, 58, 59, 60, 61, 62, 63, 64, 65] (by decide +kernel) (by decide +kernel)
set_option maxRecDepth 20000 in
theorem gX4_chapter_X4_titleLine : GoodIn wsX4_chapter (wsV RX4 125 RX4 yX4_titleLine wsX4_titleLine) := goodIn_app (goodIn_of _ (by decide +kernel)) ggX4_chapter_X4_titleLine
set_option maxRecDepth 20000 in
theorem ggX4_chapter_X4_linesOf : GoodIn wsX4_chapter wsX4_linesOf := goodIn_r _ [50, 1, 11, 12, 13, 5, 14, 15, 16, 17, 18, 19, 20, 21, 3, 4, 6, 51, 52, 53, 54, 55, 56, 57, 58, 59, 60, 61, 62, 63, 64, 65] (by decide +kernel) (by decide +kernel)
set_option maxRecDepth 20000 in
theorem gX4_chapter_X4_linesOf : GoodIn wsX4_chapter (wsV RX4 128 RX4 yX4_linesOf wsX4_linesOf) := goodIn_app (goodIn_of _ (by decide +kernel)) ggX4_chapter_X4_linesOf
theorem dX4_chapter_0 : decode cX4_chapter 0 = .ok (.iload_n 2, 1) := by decide +kernel
theorem dX4_chapter_1 : decode cX4_chapter 1 = .ok (.iconst 0, 1) := by decide +kernel
theorem dX4_chapter_2 : decode cX4_chapter 2 = .ok (.iconst 4, 1) := by decide +kernel
theorem dX4_chapter_3 : decode cX4_chapter 3 = .ok (.invokestatic 41, 3) := by decide +kernel
theorem dX4_chapter_6 : decode cX4_chapter 6 = .ok (.ifCond .ne 6, 3) := by decide +kernel
theorem dX4_chapter_9 : decode cX4_chapter 9 = .ok (.bipush (-2), 2) := by decide +kernel
theorem dX4_chapter_11 : decode cX4_chapter 11 = .ok (.ireturn, 1) := by decide +kernel
theorem dX4_chapter_12 : decode cX4_chapter 12 = .ok (.iload_n 1, 1) := by decide +kernel
theorem dX4_chapter_13 : decode cX4_chapter 13 = .ok (.iconst 0, 1) := by decide +kernel
theorem dX4_chapter_14 : decode cX4_chapter 14 = .ok (.aload_n 0, 1) := by decide +kernel
theorem dX4_chapter_15 : decode cX4_chapter 15 = .ok (.invokevirtual 122, 3) := by decide +kernel
theorem dX4_chapter_18 : decode cX4_chapter 18 = .ok (.iconst 1, 1) := by decide +kernel
theorem dX4_chapter_19 : decode cX4_chapter 19 = .ok (.isub, 1) := by decide +kernel
theorem dX4_chapter_20 : decode cX4_chapter 20 = .ok (.invokestatic 41, 3) := by decide +kernel
theorem dX4_chapter_23 : decode cX4_chapter 23 = .ok (.ifCond .ne 6, 3) := by decide +kernel
theorem dX4_chapter_26 : decode cX4_chapter 26 = .ok (.bipush (-6), 2) := by decide +kernel
theorem dX4_chapter_28 : decode cX4_chapter 28 = .ok (.ireturn, 1) := by decide +kernel
theorem dX4_chapter_29 : decode cX4_chapter 29 = .ok (.aload_n 0, 1) := by decide +kernel
theorem dX4_chapter_30 : decode cX4_chapter 30 = .ok (.invokevirtual 107, 3) := by decide +kernel
theorem dX4_chapter_33 : decode cX4_chapter 33 = .ok (.aload_n 0, 1) := by decide +kernel
theorem dX4_chapter_34 : decode cX4_chapter 34 = .ok (.iload_n 1, 1) := by decide +kernel
theorem dX4_chapter_35 : decode cX4_chapter 35 = .ok (.invokevirtual 125, 3) := by decide +kernel
theorem dX4_chapter_38 : decode cX4_chapter 38 = .ok (.istore_n 3, 1) := by decide +kernel
theorem dX4_chapter_39 : decode cX4_chapter 39 = .ok (.iload_n 2, 1) := by decide +kernel
theorem dX4_chapter_40 : decode cX4_chapter 40 = .ok (.tableswitch 71 0 3 #[32, 41, 48, 64], 32) := by decide +kernel
theorem dX4_chapter_72 : decode cX4_chapter 72 = .ok (.aload_n 0, 1) := by decide +kernel
theorem dX4_chapter_73 : decode cX4_chapter 73 = .ok (.getfield 7, 3) := by decide +kernel
theorem dX4_chapter_76 : decode cX4_chapter 76 = .ok (.iconst 0, 1) := by decide +kernel
theorem dX4_chapter_77 : decode cX4_chapter 77 = .ok (.iload_n 3, 1) := by decide +kernel
theorem dX4_chapter_78 : decode cX4_chapter 78 = .ok (.iadd, 1) := by decide +kernel
theorem dX4_chapter_79 : decode cX4_chapter 79 = .ok (.iaload, 1) := by decide +kernel
theorem dX4_chapter_80 : decode cX4_chapter 80 = .ok (.ireturn, 1) := by decide +kernel
theorem dX4_chapter_81 : decode cX4_chapter 81 = .ok (.aload_n 0, 1) := by decide +kernel
theorem dX4_chapter_82 : decode cX4_chapter 82 = .ok (.getfield 23, 3) := by decide +kernel
theorem dX4_chapter_85 : decode cX4_chapter 85 = .ok (.iload_n 3, 1) := by decide +kernel
theorem dX4_chapter_86 : decode cX4_chapter 86 = .ok (.iaload, 1) := by decide +kernel
theorem dX4_chapter_87 : decode cX4_chapter 87 = .ok (.ireturn, 1) := by decide +kernel
theorem dX4_chapter_88 : decode cX4_chapter 88 = .ok (.aload_n 0, 1) := by decide +kernel
theorem dX4_chapter_89 : decode cX4_chapter 89 = .ok (.getfield 23, 3) := by decide +kernel
theorem dX4_chapter_92 : decode cX4_chapter 92 = .ok (.iload_n 3, 1) := by decide +kernel
theorem dX4_chapter_93 : decode cX4_chapter 93 = .ok (.aload_n 0, 1) := by decide +kernel
theorem dX4_chapter_94 : decode cX4_chapter 94 = .ok (.iload_n 1, 1) := by decide +kernel
theorem dX4_chapter_95 : decode cX4_chapter 95 = .ok (.iconst 0, 1) := by decide +kernel
theorem dX4_chapter_96 : decode cX4_chapter 96 = .ok (.invokevirtual 128, 3) := by decide +kernel
theorem dX4_chapter_99 : decode cX4_chapter 99 = .ok (.iadd, 1) := by decide +kernel
theorem dX4_chapter_100 : decode cX4_chapter 100 = .ok (.iconst 1, 1) := by decide +kernel
theorem dX4_chapter_101 : decode cX4_chapter 101 = .ok (.isub, 1) := by decide +kernel
theorem dX4_chapter_102 : decode cX4_chapter 102 = .ok (.iaload, 1) := by decide +kernel
theorem dX4_chapter_103 : decode cX4_chapter 103 = .ok (.ireturn, 1) := by decide +kernel
theorem dX4_chapter_104 : decode cX4_chapter 104 = .ok (.aload_n 0, 1) := by decide +kernel
theorem dX4_chapter_105 : decode cX4_chapter 105 = .ok (.iload_n 1, 1) := by decide +kernel
theorem dX4_chapter_106 : decode cX4_chapter 106 = .ok (.iconst 0, 1) := by decide +kernel
theorem dX4_chapter_107 : decode cX4_chapter 107 = .ok (.invokevirtual 128, 3) := by decide +kernel
theorem dX4_chapter_110 : decode cX4_chapter 110 = .ok (.ireturn, 1) := by decide +kernel
theorem dX4_chapter_111 : decode cX4_chapter 111 = .ok (.aload_n 0, 1) := by decide +kernel
theorem dX4_chapter_112 : decode cX4_chapter 112 = .ok (.iload_n 1, 1) := by decide +kernel
theorem dX4_chapter_113 : decode cX4_chapter 113 = .ok (.iconst 1, 1) := by decide +kernel
theorem dX4_chapter_114 : decode cX4_chapter 114 = .ok (.invokevirtual 128, 3) := by decide +kernel
theorem dX4_chapter_117 : decode cX4_chapter 117 = .ok (.ireturn, 1) := by decide +kernel
set_option maxRecDepth 20000 in
theorem ggX4_layHeads_X4_layPages : GoodIn wsX4_layHeads wsX4_layPages := goodIn_r _ [7, 2, 8, 9, 10, 11, 12, 13, 14, 15, 6, 16, 17, 18, 19, 20, 21, 22, 23, 24, 25, 26, 27, 28, 29, 30, 31, 32, 33, 34, 35, 59, 60, 61, 62, 63, 64, 65, 66, 67, 68, 69, 70] (by decide +kernel) (by decide +kernel)
set_option maxRecDepth 20000 in
theorem gX4_layHeads_X4_layPages : GoodIn wsX4_layHeads (wsV RX4 107 RX4 yX4_layPages wsX4_layPages) := goodIn_app (goodIn_of _ (by decide +kernel)) ggX4_layHeads_X4_layPages
set_option maxRecDepth 20000 in
theorem ggX4_layHeads_X4_headOf : GoodIn wsX4_layHeads wsX4_headOf := goodIn_r _ [39, 8, 9, 12, 25, 26, 6, 27, 28, 29, 30, 40, 41, 42, 43, 44, 45, 46, 47, 10, 13, 14, 15, 16, 48, 49, 50, 51, 35, 52, 53, 54, 55, 56, 57, 58, 59, 60, 61, 62, 63, 64, 65, 66, 67, 68, 69, 70] (by decide +kernel) (by decide +kernel)
set_option maxRecDepth 20000 in
theorem gX4_layHeads_X4_headOf : GoodIn wsX4_layHeads (wsV RX4 116 RX4 yX4_headOf wsX4_headOf) := goodIn_app (goodIn_of _ (by decide +kernel)) ggX4_layHeads_X4_headOf
theorem dX4_layHeads_0 : decode cX4_layHeads 0 = .ok (.aload_n 0, 1) := by decide +kernel
theorem dX4_layHeads_1 : decode cX4_layHeads 1 = .ok (.invokevirtual 107, 3) := by decide +kernel
theorem dX4_layHeads_4 : decode cX4_layHeads 4 = .ok (.iconst 1, 1) := by decide +kernel
theorem dX4_layHeads_5 : decode cX4_layHeads 5 = .ok (.istore_n 1, 1) := by decide +kernel
theorem dX4_layHeads_6 : decode cX4_layHeads 6 = .ok (.iload_n 1, 1) := by decide +kernel
theorem dX4_layHeads_7 : decode cX4_layHeads 7 = .ok (.sipush 130, 3) := by decide +kernel
theorem dX4_layHeads_10 : decode cX4_layHeads 10 = .ok (.if_icmp .ge 33, 3) := by decide +kernel
theorem dX4_layHeads_13 : decode cX4_layHeads 13 = .ok (.aload_n 0, 1) := by decide +kernel
theorem dX4_layHeads_14 : decode cX4_layHeads 14 = .ok (.getfield 38, 3) := by decide +kernel
theorem dX4_layHeads_17 : decode cX4_layHeads 17 = .ok (.iload_n 1, 1) := by decide +kernel
theorem dX4_layHeads_18 : decode cX4_layHeads 18 = .ok (.iload_n 1, 1) := by decide +kernel
theorem dX4_layHeads_19 : decode cX4_layHeads 19 = .ok (.aload_n 0, 1) := by decide +kernel
theorem dX4_layHeads_20 : decode cX4_layHeads 20 = .ok (.getfield 76, 3) := by decide +kernel
theorem dX4_layHeads_23 : decode cX4_layHeads 23 = .ok (.if_icmp .gt 11, 3) := by decide +kernel
theorem dX4_layHeads_26 : decode cX4_layHeads 26 = .ok (.aload_n 0, 1) := by decide +kernel
theorem dX4_layHeads_27 : decode cX4_layHeads 27 = .ok (.iload_n 1, 1) := by decide +kernel
theorem dX4_layHeads_28 : decode cX4_layHeads 28 = .ok (.invokevirtual 116, 3) := by decide +kernel
theorem dX4_layHeads_31 : decode cX4_layHeads 31 = .ok (.goto 5, 3) := by decide +kernel
theorem dX4_layHeads_34 : decode cX4_layHeads 34 = .ok (.bipush (-6), 2) := by decide +kernel
theorem dX4_layHeads_36 : decode cX4_layHeads 36 = .ok (.iastore, 1) := by decide +kernel
theorem dX4_layHeads_37 : decode cX4_layHeads 37 = .ok (.iinc 1 1, 3) := by decide +kernel
theorem dX4_layHeads_40 : decode cX4_layHeads 40 = .ok (.goto (-34), 3) := by decide +kernel
theorem dX4_layHeads_43 : decode cX4_layHeads 43 = .ok (.return_, 1) := by decide +kernel
set_option maxRecDepth 20000 in
theorem ggX4_changedBy_X4_layPages : GoodIn wsX4_changedBy wsX4_layPages := goodIn_r _ [8, 3, 9, 1, 10, 11, 12, 13, 14, 15, 7, 16, 17, 18, 19, 20, 21, 22, 23, 24, 25, 26, 27, 28, 29, 30, 31, 32, 33, 34, 35, 59, 60, 61, 62, 63, 64, 65, 66, 67, 68, 69, 70] (by decide +kernel) (by decide +kernel)
set_option maxRecDepth 20000 in
theorem gX4_changedBy_X4_layPages : GoodIn wsX4_changedBy (wsV RX4 107 RX4 yX4_layPages wsX4_layPages) := goodIn_app (goodIn_of _ (by decide +kernel)) ggX4_changedBy_X4_layPages
set_option maxRecDepth 20000 in
theorem ggX4_changedBy_X4_headOf : GoodIn wsX4_changedBy wsX4_headOf := goodIn_r _ [39, 9, 1, 12, 25, 26, 7, 27, 28, 29, 30, 40, 41, 42, 43, 44, 45, 46, 47, 10, 13, 14, 15, 16, 48, 49, 50, 51, 35, 52, 53, 54, 55, 56, 57, 58, 59, 60, 61, 62, 63, 64, 65, 66, 67, 68, 69, 70] (by decide +kernel) (by decide +kernel)
set_option maxRecDepth 20000 in
theorem gX4_changedBy_X4_headOf : GoodIn wsX4_changedBy (wsV RX4 116 RX4 yX4_headOf wsX4_headOf) := goodIn_app (goodIn_of _ (by decide +kernel)) ggX4_changedBy_X4_headOf
theorem dX4_changedBy_0 : decode cX4_changedBy 0 = .ok (.aload_n 0, 1) := by decide +kernel
theorem dX4_changedBy_1 : decode cX4_changedBy 1 = .ok (.getfield 7, 3) := by decide +kernel
theorem dX4_changedBy_4 : decode cX4_changedBy 4 = .ok (.bipush 60, 2) := by decide +kernel
theorem dX4_changedBy_6 : decode cX4_changedBy 6 = .ok (.iload_n 1, 1) := by decide +kernel
theorem dX4_changedBy_7 : decode cX4_changedBy 7 = .ok (.iadd, 1) := by decide +kernel
theorem dX4_changedBy_8 : decode cX4_changedBy 8 = .ok (.iconst 1, 1) := by decide +kernel
theorem dX4_changedBy_9 : decode cX4_changedBy 9 = .ok (.aload_n 0, 1) := by decide +kernel
theorem dX4_changedBy_10 : decode cX4_changedBy 10 = .ok (.getfield 7, 3) := by decide +kernel
theorem dX4_changedBy_13 : decode cX4_changedBy 13 = .ok (.bipush 60, 2) := by decide +kernel
theorem dX4_changedBy_15 : decode cX4_changedBy 15 = .ok (.iload_n 1, 1) := by decide +kernel
theorem dX4_changedBy_16 : decode cX4_changedBy 16 = .ok (.iadd, 1) := by decide +kernel
theorem dX4_changedBy_17 : decode cX4_changedBy 17 = .ok (.iaload, 1) := by decide +kernel
theorem dX4_changedBy_18 : decode cX4_changedBy 18 = .ok (.isub, 1) := by decide +kernel
theorem dX4_changedBy_19 : decode cX4_changedBy 19 = .ok (.iastore, 1) := by decide +kernel
theorem dX4_changedBy_20 : decode cX4_changedBy 20 = .ok (.aload_n 0, 1) := by decide +kernel
theorem dX4_changedBy_21 : decode cX4_changedBy 21 = .ok (.invokevirtual 107, 3) := by decide +kernel
theorem dX4_changedBy_24 : decode cX4_changedBy 24 = .ok (.iconst 0, 1) := by decide +kernel
theorem dX4_changedBy_25 : decode cX4_changedBy 25 = .ok (.istore_n 2, 1) := by decide +kernel
theorem dX4_changedBy_26 : decode cX4_changedBy 26 = .ok (.iconst 1, 1) := by decide +kernel
theorem dX4_changedBy_27 : decode cX4_changedBy 27 = .ok (.istore_n 3, 1) := by decide +kernel
theorem dX4_changedBy_28 : decode cX4_changedBy 28 = .ok (.iload_n 3, 1) := by decide +kernel
theorem dX4_changedBy_29 : decode cX4_changedBy 29 = .ok (.sipush 130, 3) := by decide +kernel
theorem dX4_changedBy_32 : decode cX4_changedBy 32 = .ok (.if_icmp .ge 44, 3) := by decide +kernel
theorem dX4_changedBy_35 : decode cX4_changedBy 35 = .ok (.iload_n 2, 1) := by decide +kernel
theorem dX4_changedBy_36 : decode cX4_changedBy 36 = .ok (.aload_n 0, 1) := by decide +kernel
theorem dX4_changedBy_37 : decode cX4_changedBy 37 = .ok (.getfield 38, 3) := by decide +kernel
theorem dX4_changedBy_40 : decode cX4_changedBy 40 = .ok (.iload_n 3, 1) := by decide +kernel
theorem dX4_changedBy_41 : decode cX4_changedBy 41 = .ok (.iaload, 1) := by decide +kernel
theorem dX4_changedBy_42 : decode cX4_changedBy 42 = .ok (.iload_n 3, 1) := by decide +kernel
theorem dX4_changedBy_43 : decode cX4_changedBy 43 = .ok (.aload_n 0, 1) := by decide +kernel
theorem dX4_changedBy_44 : decode cX4_changedBy 44 = .ok (.getfield 76, 3) := by decide +kernel
theorem dX4_changedBy_47 : decode cX4_changedBy 47 = .ok (.if_icmp .gt 11, 3) := by decide +kernel
theorem dX4_changedBy_50 : decode cX4_changedBy 50 = .ok (.aload_n 0, 1) := by decide +kernel
theorem dX4_changedBy_51 : decode cX4_changedBy 51 = .ok (.iload_n 3, 1) := by decide +kernel
theorem dX4_changedBy_52 : decode cX4_changedBy 52 = .ok (.invokevirtual 116, 3) := by decide +kernel
theorem dX4_changedBy_55 : decode cX4_changedBy 55 = .ok (.goto 5, 3) := by decide +kernel
theorem dX4_changedBy_58 : decode cX4_changedBy 58 = .ok (.bipush (-6), 2) := by decide +kernel
theorem dX4_changedBy_60 : decode cX4_changedBy 60 = .ok (.if_icmp .ne 7, 3) := by decide +kernel
theorem dX4_changedBy_63 : decode cX4_changedBy 63 = .ok (.iconst 0, 1) := by decide +kernel
theorem dX4_changedBy_64 : decode cX4_changedBy 64 = .ok (.goto 4, 3) := by decide +kernel
theorem dX4_changedBy_67 : decode cX4_changedBy 67 = .ok (.iconst 1, 1) := by decide +kernel
theorem dX4_changedBy_68 : decode cX4_changedBy 68 = .ok (.iadd, 1) := by decide +kernel
theorem dX4_changedBy_69 : decode cX4_changedBy 69 = .ok (.istore_n 2, 1) := by decide +kernel
theorem dX4_changedBy_70 : decode cX4_changedBy 70 = .ok (.iinc 3 1, 3) := by decide +kernel
theorem dX4_changedBy_73 : decode cX4_changedBy 73 = .ok (.goto (-45), 3) := by decide +kernel
theorem dX4_changedBy_76 : decode cX4_changedBy 76 = .ok (.aload_n 0, 1) := by decide +kernel
theorem dX4_changedBy_77 : decode cX4_changedBy 77 = .ok (.getfield 7, 3) := by decide +kernel
theorem dX4_changedBy_80 : decode cX4_changedBy 80 = .ok (.bipush 60, 2) := by decide +kernel
theorem dX4_changedBy_82 : decode cX4_changedBy 82 = .ok (.iload_n 1, 1) := by decide +kernel
theorem dX4_changedBy_83 : decode cX4_changedBy 83 = .ok (.iadd, 1) := by decide +kernel
theorem dX4_changedBy_84 : decode cX4_changedBy 84 = .ok (.iconst 1, 1) := by decide +kernel
theorem dX4_changedBy_85 : decode cX4_changedBy 85 = .ok (.aload_n 0, 1) := by decide +kernel
theorem dX4_changedBy_86 : decode cX4_changedBy 86 = .ok (.getfield 7, 3) := by decide +kernel
theorem dX4_changedBy_89 : decode cX4_changedBy 89 = .ok (.bipush 60, 2) := by decide +kernel
theorem dX4_changedBy_91 : decode cX4_changedBy 91 = .ok (.iload_n 1, 1) := by decide +kernel
theorem dX4_changedBy_92 : decode cX4_changedBy 92 = .ok (.iadd, 1) := by decide +kernel
theorem dX4_changedBy_93 : decode cX4_changedBy 93 = .ok (.iaload, 1) := by decide +kernel
theorem dX4_changedBy_94 : decode cX4_changedBy 94 = .ok (.isub, 1) := by decide +kernel
theorem dX4_changedBy_95 : decode cX4_changedBy 95 = .ok (.iastore, 1) := by decide +kernel
theorem dX4_changedBy_96 : decode cX4_changedBy 96 = .ok (.iload_n 2, 1) := by decide +kernel
theorem dX4_changedBy_97 : decode cX4_changedBy 97 = .ok (.ireturn, 1) := by decide +kernel
set_option maxRecDepth 20000 in
theorem ggX4_changed_X4_many : GoodIn wsX4_changed wsX4_many := goodIn_r _ [5, 6, 67, 68, 69, 70, 71, 72, 73, 74, 75, 76, 77, 78] (by decide +kernel) (by decide +kernel)
set_option maxRecDepth 20000 in
theorem gX4_changed_X4_many : GoodIn wsX4_changed (wsV RX4 45 RX4 yX4_many wsX4_many) := goodIn_app (goodIn_of _ (by decide +kernel)) ggX4_changed_X4_many
set_option maxRecDepth 20000 in
theorem ggX4_changed_X4_in : GoodIn wsX4_changed wsX4_in := goodIn_r _ [9] (by decide +kernel) (by decide +kernel)
set_option maxRecDepth 20000 in
theorem gX4_changed_X4_in : GoodIn wsX4_changed (va_wsS RX4 41 yX4_in wsX4_in) := goodIn_app (goodIn_of _ (by decide +kernel)) ggX4_changed_X4_in
set_option maxRecDepth 20000 in
theorem ggX4_changed_X4_layHeads : GoodIn wsX4_changed wsX4_layHeads := goodIn_r _ [13, 14, 15, 16, 17, 18, 4, 19, 20, 6, 21, 22, 23, 1, 2, 3, 5, 24, 25, 26, 27, 28, 29, 30, 31, 32, 33, 34, 7, 8, 9, 35, 36, 37, 38, 39, 40, 41, 42, 43, 44, 45, 46, 47, 48, 49, 50, 51, 52, 53, 54, 55, 56, 57, 58, 59, 60, 61, 62, 67, 68, 69, 70, 71, 72, 73, 74, 75, 76, 77, 78] (by decide +kernel) (by decide +kernel)
set_option maxRecDepth 20000 in
theorem gX4_changed_X4_layHeads : GoodIn wsX4_changed (wsV RX4 132 RX4 yX4_layHeads wsX4_layHeads) := goodIn_app (goodIn_of _ (by decide +kernel)) ggX4_changed_X4_layHeads
set_option maxRecDepth 20000 in
theorem ggX4_changed_X4_changedBy : GoodIn wsX4_changed wsX4_changedBy := goodIn_r _ [66, 6, 14, 15, 16, 17, 18, 4, 19, 20, 21, 22, 23, 1, 2, 3, 5, 24, 25, 26, 27, 28, 29, 30, 31, 32, 33, 34, 7, 8, 9, 35, 36, 37, 38, 39, 40, 41, 42, 43, 44, 45, 46, 47, 48, 49, 50, 51, 52, 53, 54, 55, 56, 57, 58, 59, 60, 61, 62, 67, 68, 69, 70, 71, 72, 73, 74, 75, 76, 77, 78] (by decide +kernel) (by decide +kernel)
set_option maxRecDepth 20000 in
theorem gX4_changed_X4_changedBy : GoodIn wsX4_changed (wsV RX4 135 RX4 yX4_changedBy wsX4_changedBy) := goodIn_app (goodIn_of _ (by decide +kernel)) ggX4_changed_X4_changedBy
theorem dX4_changed_0 : decode cX4_changed 0 = .ok (.iload_n 1, 1) := by decide +kernel
theorem dX4_changed_1 : decode cX4_changed 1 = .ok (.iconst 1, 1) := by decide +kernel
theorem dX4_changed_2 : decode cX4_changed 2 = .ok (.aload_n 0, 1) := by decide +kernel
theorem dX4_changed_3 : decode cX4_changed 3 = .ok (.invokevirtual 45, 3) := by decide +kernel
theorem dX4_changed_6 : decode cX4_changed 6 = .ok (.iconst 1, 1) := by decide +kernel
theorem dX4_changed_7 : decode cX4_changed 7 = .ok (.isub, 1) := by decide +kernel
theorem dX4_changed_8 : decode cX4_changed 8 = .ok (.invokestatic 41, 3) := by decide +kernel
theorem dX4_changed_11 : decode cX4_changed 11 = .ok (.ifCond .ne 5, 3) := by decide +kernel
theorem dX4_changed_14 : decode cX4_changed 14 = .ok (.iconst (-1), 1) := by decide +kernel
theorem dX4_changed_15 : decode cX4_changed 15 = .ok (.ireturn, 1) := by decide +kernel
theorem dX4_changed_16 : decode cX4_changed 16 = .ok (.aload_n 0, 1) := by decide +kernel
theorem dX4_changed_17 : decode cX4_changed 17 = .ok (.invokevirtual 132, 3) := by decide +kernel
theorem dX4_changed_20 : decode cX4_changed 20 = .ok (.aload_n 0, 1) := by decide +kernel
theorem dX4_changed_21 : decode cX4_changed 21 = .ok (.iload_n 1, 1) := by decide +kernel
theorem dX4_changed_22 : decode cX4_changed 22 = .ok (.invokevirtual 135, 3) := by decide +kernel
theorem dX4_changed_25 : decode cX4_changed 25 = .ok (.ireturn, 1) := by decide +kernel
set_option maxRecDepth 20000 in
theorem ggX4_worst_X4_in : GoodIn wsX4_worst wsX4_in := goodIn_r _ [4] (by decide +kernel) (by decide +kernel)
set_option maxRecDepth 20000 in
theorem gX4_worst_X4_in : GoodIn wsX4_worst (va_wsS RX4 41 yX4_in wsX4_in) := goodIn_app (goodIn_of _ (by decide +kernel)) ggX4_worst_X4_in
set_option maxRecDepth 20000 in
theorem ggX4_worst_X4_layHeads : GoodIn wsX4_worst wsX4_layHeads := goodIn_r _ [8, 9, 10, 11, 12, 13, 3, 14, 15, 16, 17, 18, 19, 20, 21, 22, 23, 24, 25, 26, 27, 28, 29, 30, 31, 32, 33, 34, 1, 2, 4, 35, 36, 37, 38, 39, 40, 41, 42, 43, 44, 45, 46, 47, 48, 49, 50, 51, 52, 53, 54, 55, 56, 57, 58, 59, 60, 61, 62, 67, 68, 69, 70, 71, 72, 73, 74, 75, 76, 77, 78] (by decide +kernel) (by decide +kernel)
set_option maxRecDepth 20000 in
theorem gX4_worst_X4_layHeads : GoodIn wsX4_worst (wsV RX4 132 RX4 yX4_layHeads wsX4_layHeads) := goodIn_app (goodIn_of _ (by decide +kernel)) ggX4_worst_X4_layHeads
set_option maxRecDepth 20000 in
theorem ggX4_worst_X4_many : GoodIn wsX4_worst wsX4_many := goodIn_r _ [23, 16, 67, 68, 69, 70, 71, 72, 73, 74, 75, 76, 77, 78] (by decide +kernel) (by decide +kernel)
set_option maxRecDepth 20000 in
theorem gX4_worst_X4_many : GoodIn wsX4_worst (wsV RX4 45 RX4 yX4_many wsX4_many) := goodIn_app (goodIn_of _ (by decide +kernel)) ggX4_worst_X4_many
set_option maxRecDepth 20000 in
theorem ggX4_worst_X4_changedBy : GoodIn wsX4_worst wsX4_changedBy := goodIn_r _ [66, 16, 9, 10, 11, 12, 13, 3, 14, 15, 17, 18, 19, 20, 21, 22, 23, 24, 25, 26, 27, 28, 29, 30, 31, 32, 33, 34, 1, 2, 4, 35, 36, 37, 38, 39, 40, 41, 42, 43, 44, 45, 46, 47, 48, 49, 50, 51, 52, 53, 54, 55, 56, 57, 58, 59, 60, 61, 62, 67, 68, 69, 70, 71, 72, 73, 74, 75, 76, 77, 78] (by decide +kernel) (by decide +kernel)
set_option maxRecDepth 20000 in
theorem gX4_worst_X4_changedBy : GoodIn wsX4_worst (wsV RX4 135 RX4 yX4_changedBy wsX4_changedBy) := goodIn_app (goodIn_of _ (by decide +kernel)) ggX4_worst_X4_changedBy
theorem dX4_worst_0 : decode cX4_worst 0 = .ok (.iload_n 1, 1) := by decide +kernel
theorem dX4_worst_1 : decode cX4_worst 1 = .ok (.iconst 0, 1) := by decide +kernel
theorem dX4_worst_2 : decode cX4_worst 2 = .ok (.iconst 1, 1) := by decide +kernel
theorem dX4_worst_3 : decode cX4_worst 3 = .ok (.invokestatic 41, 3) := by decide +kernel
theorem dX4_worst_6 : decode cX4_worst 6 = .ok (.ifCond .ne 6, 3) := by decide +kernel
theorem dX4_worst_9 : decode cX4_worst 9 = .ok (.bipush (-2), 2) := by decide +kernel
theorem dX4_worst_11 : decode cX4_worst 11 = .ok (.ireturn, 1) := by decide +kernel
theorem dX4_worst_12 : decode cX4_worst 12 = .ok (.aload_n 0, 1) := by decide +kernel
theorem dX4_worst_13 : decode cX4_worst 13 = .ok (.invokevirtual 132, 3) := by decide +kernel
theorem dX4_worst_16 : decode cX4_worst 16 = .ok (.bipush (-6), 2) := by decide +kernel
theorem dX4_worst_18 : decode cX4_worst 18 = .ok (.istore_n 2, 1) := by decide +kernel
theorem dX4_worst_19 : decode cX4_worst 19 = .ok (.iconst 0, 1) := by decide +kernel
theorem dX4_worst_20 : decode cX4_worst 20 = .ok (.istore_n 3, 1) := by decide +kernel
theorem dX4_worst_21 : decode cX4_worst 21 = .ok (.iconst 1, 1) := by decide +kernel
theorem dX4_worst_22 : decode cX4_worst 22 = .ok (.istore 4, 2) := by decide +kernel
theorem dX4_worst_24 : decode cX4_worst 24 = .ok (.iload 4, 2) := by decide +kernel
theorem dX4_worst_26 : decode cX4_worst 26 = .ok (.aload_n 0, 1) := by decide +kernel
theorem dX4_worst_27 : decode cX4_worst 27 = .ok (.invokevirtual 45, 3) := by decide +kernel
theorem dX4_worst_30 : decode cX4_worst 30 = .ok (.if_icmp .ge 33, 3) := by decide +kernel
theorem dX4_worst_33 : decode cX4_worst 33 = .ok (.aload_n 0, 1) := by decide +kernel
theorem dX4_worst_34 : decode cX4_worst 34 = .ok (.iload 4, 2) := by decide +kernel
theorem dX4_worst_36 : decode cX4_worst 36 = .ok (.invokevirtual 135, 3) := by decide +kernel
theorem dX4_worst_39 : decode cX4_worst 39 = .ok (.istore 5, 2) := by decide +kernel
theorem dX4_worst_41 : decode cX4_worst 41 = .ok (.iload_n 2, 1) := by decide +kernel
theorem dX4_worst_42 : decode cX4_worst 42 = .ok (.ifCond .lt 9, 3) := by decide +kernel
theorem dX4_worst_45 : decode cX4_worst 45 = .ok (.iload 5, 2) := by decide +kernel
theorem dX4_worst_47 : decode cX4_worst 47 = .ok (.iload_n 3, 1) := by decide +kernel
theorem dX4_worst_48 : decode cX4_worst 48 = .ok (.if_icmp .le 9, 3) := by decide +kernel
theorem dX4_worst_51 : decode cX4_worst 51 = .ok (.iload 4, 2) := by decide +kernel
theorem dX4_worst_53 : decode cX4_worst 53 = .ok (.istore_n 2, 1) := by decide +kernel
theorem dX4_worst_54 : decode cX4_worst 54 = .ok (.iload 5, 2) := by decide +kernel
theorem dX4_worst_56 : decode cX4_worst 56 = .ok (.istore_n 3, 1) := by decide +kernel
theorem dX4_worst_57 : decode cX4_worst 57 = .ok (.iinc 4 1, 3) := by decide +kernel
theorem dX4_worst_60 : decode cX4_worst 60 = .ok (.goto (-36), 3) := by decide +kernel
theorem dX4_worst_63 : decode cX4_worst 63 = .ok (.iload_n 1, 1) := by decide +kernel
theorem dX4_worst_64 : decode cX4_worst 64 = .ok (.ifCond .ne 7, 3) := by decide +kernel
theorem dX4_worst_67 : decode cX4_worst 67 = .ok (.iload_n 2, 1) := by decide +kernel
theorem dX4_worst_68 : decode cX4_worst 68 = .ok (.goto 4, 3) := by decide +kernel
theorem dX4_worst_71 : decode cX4_worst 71 = .ok (.iload_n 3, 1) := by decide +kernel
theorem dX4_worst_72 : decode cX4_worst 72 = .ok (.ireturn, 1) := by decide +kernel
set_option maxRecDepth 20000 in
theorem ggX4_fit_X4_in : GoodIn wsX4_fit wsX4_in := goodIn_r _ [6] (by decide +kernel) (by decide +kernel)
set_option maxRecDepth 20000 in
theorem gX4_fit_X4_in : GoodIn wsX4_fit (va_wsS RX4 41 yX4_in wsX4_in) := goodIn_app (goodIn_of _ (by decide +kernel)) ggX4_fit_X4_in
set_option maxRecDepth 20000 in
theorem ggX4_fit_X4_layPages : GoodIn wsX4_fit wsX4_layPages := goodIn_r _ [10, 2, 11, 1, 12, 13, 14, 15, 16, 17, 5, 18, 19, 20, 21, 22, 23, 24, 25, 26, 27, 28, 29, 3, 4, 6, 30, 31, 32, 33, 34, 35, 36, 37, 38, 39, 40, 41, 42, 43, 44, 45, 46] (by decide +kernel) (by decide +kernel)
set_option maxRecDepth 20000 in
theorem gX4_fit_X4_layPages : GoodIn wsX4_fit (wsV RX4 107 RX4 yX4_layPages wsX4_layPages) := goodIn_app (goodIn_of _ (by decide +kernel)) ggX4_fit_X4_layPages
theorem dX4_fit_0 : decode cX4_fit 0 = .ok (.iload_n 1, 1) := by decide +kernel
theorem dX4_fit_1 : decode cX4_fit 1 = .ok (.iconst 0, 1) := by decide +kernel
theorem dX4_fit_2 : decode cX4_fit 2 = .ok (.bipush 99, 2) := by decide +kernel
theorem dX4_fit_4 : decode cX4_fit 4 = .ok (.invokestatic 41, 3) := by decide +kernel
theorem dX4_fit_7 : decode cX4_fit 7 = .ok (.ifCond .ne 6, 3) := by decide +kernel
theorem dX4_fit_10 : decode cX4_fit 10 = .ok (.bipush (-2), 2) := by decide +kernel
theorem dX4_fit_12 : decode cX4_fit 12 = .ok (.ireturn, 1) := by decide +kernel
theorem dX4_fit_13 : decode cX4_fit 13 = .ok (.aload_n 0, 1) := by decide +kernel
theorem dX4_fit_14 : decode cX4_fit 14 = .ok (.getfield 7, 3) := by decide +kernel
theorem dX4_fit_17 : decode cX4_fit 17 = .ok (.bipush 121, 2) := by decide +kernel
theorem dX4_fit_19 : decode cX4_fit 19 = .ok (.iaload, 1) := by decide +kernel
theorem dX4_fit_20 : decode cX4_fit 20 = .ok (.istore_n 2, 1) := by decide +kernel
theorem dX4_fit_21 : decode cX4_fit 21 = .ok (.bipush (-6), 2) := by decide +kernel
theorem dX4_fit_23 : decode cX4_fit 23 = .ok (.istore_n 3, 1) := by decide +kernel
theorem dX4_fit_24 : decode cX4_fit 24 = .ok (.bipush 9, 2) := by decide +kernel
theorem dX4_fit_26 : decode cX4_fit 26 = .ok (.istore 4, 2) := by decide +kernel
theorem dX4_fit_28 : decode cX4_fit 28 = .ok (.iload 4, 2) := by decide +kernel
theorem dX4_fit_30 : decode cX4_fit 30 = .ok (.iconst 2, 1) := by decide +kernel
theorem dX4_fit_31 : decode cX4_fit 31 = .ok (.if_icmp .lt 49, 3) := by decide +kernel
theorem dX4_fit_34 : decode cX4_fit 34 = .ok (.iload 4, 2) := by decide +kernel
theorem dX4_fit_36 : decode cX4_fit 36 = .ok (.aload_n 0, 1) := by decide +kernel
theorem dX4_fit_37 : decode cX4_fit 37 = .ok (.getfield 7, 3) := by decide +kernel
theorem dX4_fit_40 : decode cX4_fit 40 = .ok (.bipush 123, 2) := by decide +kernel
theorem dX4_fit_42 : decode cX4_fit 42 = .ok (.iaload, 1) := by decide +kernel
theorem dX4_fit_43 : decode cX4_fit 43 = .ok (.if_icmp .le 37, 3) := by decide +kernel
theorem dX4_fit_46 : decode cX4_fit 46 = .ok (.aload_n 0, 1) := by decide +kernel
theorem dX4_fit_47 : decode cX4_fit 47 = .ok (.getfield 7, 3) := by decide +kernel
theorem dX4_fit_50 : decode cX4_fit 50 = .ok (.bipush 121, 2) := by decide +kernel
theorem dX4_fit_52 : decode cX4_fit 52 = .ok (.iload 4, 2) := by decide +kernel
theorem dX4_fit_54 : decode cX4_fit 54 = .ok (.iastore, 1) := by decide +kernel
theorem dX4_fit_55 : decode cX4_fit 55 = .ok (.aload_n 0, 1) := by decide +kernel
theorem dX4_fit_56 : decode cX4_fit 56 = .ok (.invokevirtual 107, 3) := by decide +kernel
theorem dX4_fit_59 : decode cX4_fit 59 = .ok (.aload_n 0, 1) := by decide +kernel
theorem dX4_fit_60 : decode cX4_fit 60 = .ok (.getfield 76, 3) := by decide +kernel
theorem dX4_fit_63 : decode cX4_fit 63 = .ok (.iload_n 1, 1) := by decide +kernel
theorem dX4_fit_64 : decode cX4_fit 64 = .ok (.if_icmp .gt 8, 3) := by decide +kernel
theorem dX4_fit_67 : decode cX4_fit 67 = .ok (.iload 4, 2) := by decide +kernel
theorem dX4_fit_69 : decode cX4_fit 69 = .ok (.goto 4, 3) := by decide +kernel
theorem dX4_fit_72 : decode cX4_fit 72 = .ok (.iload_n 3, 1) := by decide +kernel
theorem dX4_fit_73 : decode cX4_fit 73 = .ok (.istore_n 3, 1) := by decide +kernel
theorem dX4_fit_74 : decode cX4_fit 74 = .ok (.iinc 4 (-1), 3) := by decide +kernel
theorem dX4_fit_77 : decode cX4_fit 77 = .ok (.goto (-49), 3) := by decide +kernel
theorem dX4_fit_80 : decode cX4_fit 80 = .ok (.aload_n 0, 1) := by decide +kernel
theorem dX4_fit_81 : decode cX4_fit 81 = .ok (.getfield 7, 3) := by decide +kernel
theorem dX4_fit_84 : decode cX4_fit 84 = .ok (.bipush 121, 2) := by decide +kernel
theorem dX4_fit_86 : decode cX4_fit 86 = .ok (.iload_n 2, 1) := by decide +kernel
theorem dX4_fit_87 : decode cX4_fit 87 = .ok (.iastore, 1) := by decide +kernel
theorem dX4_fit_88 : decode cX4_fit 88 = .ok (.iload_n 3, 1) := by decide +kernel
theorem dX4_fit_89 : decode cX4_fit 89 = .ok (.ireturn, 1) := by decide +kernel
set_option maxRecDepth 20000 in
theorem ggX4_image_X4_in : GoodIn wsX4_image wsX4_in := goodIn_r _ [7] (by decide +kernel) (by decide +kernel)
set_option maxRecDepth 20000 in
theorem gX4_image_X4_in : GoodIn wsX4_image (va_wsS RX4 41 yX4_in wsX4_in) := goodIn_app (goodIn_of _ (by decide +kernel)) ggX4_image_X4_in
theorem dX4_image_0 : decode cX4_image 0 = .ok (.iload_n 1, 1) := by decide +kernel
theorem dX4_image_1 : decode cX4_image 1 = .ok (.iconst 0, 1) := by decide +kernel
theorem dX4_image_2 : decode cX4_image 2 = .ok (.iconst 1, 1) := by decide +kernel
theorem dX4_image_3 : decode cX4_image 3 = .ok (.invokestatic 41, 3) := by decide +kernel
theorem dX4_image_6 : decode cX4_image 6 = .ok (.ifCond .ne 6, 3) := by decide +kernel
theorem dX4_image_9 : decode cX4_image 9 = .ok (.bipush (-2), 2) := by decide +kernel
theorem dX4_image_11 : decode cX4_image 11 = .ok (.ireturn, 1) := by decide +kernel
theorem dX4_image_12 : decode cX4_image 12 = .ok (.iconst 0, 1) := by decide +kernel
theorem dX4_image_13 : decode cX4_image 13 = .ok (.istore_n 2, 1) := by decide +kernel
theorem dX4_image_14 : decode cX4_image 14 = .ok (.iload_n 2, 1) := by decide +kernel
theorem dX4_image_15 : decode cX4_image 15 = .ok (.sipush 130, 3) := by decide +kernel
theorem dX4_image_18 : decode cX4_image 18 = .ok (.if_icmp .ge 27, 3) := by decide +kernel
theorem dX4_image_21 : decode cX4_image 21 = .ok (.aload_n 0, 1) := by decide +kernel
theorem dX4_image_22 : decode cX4_image 22 = .ok (.getfield 13, 3) := by decide +kernel
theorem dX4_image_25 : decode cX4_image 25 = .ok (.sipush 130, 3) := by decide +kernel
theorem dX4_image_28 : decode cX4_image 28 = .ok (.iload_n 1, 1) := by decide +kernel
theorem dX4_image_29 : decode cX4_image 29 = .ok (.imul, 1) := by decide +kernel
theorem dX4_image_30 : decode cX4_image 30 = .ok (.iload_n 2, 1) := by decide +kernel
theorem dX4_image_31 : decode cX4_image 31 = .ok (.iadd, 1) := by decide +kernel
theorem dX4_image_32 : decode cX4_image 32 = .ok (.aload_n 0, 1) := by decide +kernel
theorem dX4_image_33 : decode cX4_image 33 = .ok (.getfield 7, 3) := by decide +kernel
theorem dX4_image_36 : decode cX4_image 36 = .ok (.iload_n 2, 1) := by decide +kernel
theorem dX4_image_37 : decode cX4_image 37 = .ok (.iaload, 1) := by decide +kernel
theorem dX4_image_38 : decode cX4_image 38 = .ok (.iastore, 1) := by decide +kernel
theorem dX4_image_39 : decode cX4_image 39 = .ok (.iinc 2 1, 3) := by decide +kernel
theorem dX4_image_42 : decode cX4_image 42 = .ok (.goto (-28), 3) := by decide +kernel
theorem dX4_image_45 : decode cX4_image 45 = .ok (.aload_n 0, 1) := by decide +kernel
theorem dX4_image_46 : decode cX4_image 46 = .ok (.getfield 16, 3) := by decide +kernel
theorem dX4_image_49 : decode cX4_image 49 = .ok (.iload_n 1, 1) := by decide +kernel
theorem dX4_image_50 : decode cX4_image 50 = .ok (.iconst 1, 1) := by decide +kernel
theorem dX4_image_51 : decode cX4_image 51 = .ok (.bastore, 1) := by decide +kernel
theorem dX4_image_52 : decode cX4_image 52 = .ok (.iconst 1, 1) := by decide +kernel
theorem dX4_image_53 : decode cX4_image 53 = .ok (.ireturn, 1) := by decide +kernel
set_option maxRecDepth 20000 in
theorem ggX4_restore_X4_in : GoodIn wsX4_restore wsX4_in := goodIn_r _ [7] (by decide +kernel) (by decide +kernel)
set_option maxRecDepth 20000 in
theorem gX4_restore_X4_in : GoodIn wsX4_restore (va_wsS RX4 41 yX4_in wsX4_in) := goodIn_app (goodIn_of _ (by decide +kernel)) ggX4_restore_X4_in
theorem dX4_restore_0 : decode cX4_restore 0 = .ok (.iload_n 1, 1) := by decide +kernel
theorem dX4_restore_1 : decode cX4_restore 1 = .ok (.iconst 0, 1) := by decide +kernel
theorem dX4_restore_2 : decode cX4_restore 2 = .ok (.iconst 1, 1) := by decide +kernel
theorem dX4_restore_3 : decode cX4_restore 3 = .ok (.invokestatic 41, 3) := by decide +kernel
theorem dX4_restore_6 : decode cX4_restore 6 = .ok (.ifCond .ne 6, 3) := by decide +kernel
theorem dX4_restore_9 : decode cX4_restore 9 = .ok (.bipush (-2), 2) := by decide +kernel
theorem dX4_restore_11 : decode cX4_restore 11 = .ok (.ireturn, 1) := by decide +kernel
theorem dX4_restore_12 : decode cX4_restore 12 = .ok (.aload_n 0, 1) := by decide +kernel
theorem dX4_restore_13 : decode cX4_restore 13 = .ok (.getfield 16, 3) := by decide +kernel
theorem dX4_restore_16 : decode cX4_restore 16 = .ok (.iload_n 1, 1) := by decide +kernel
theorem dX4_restore_17 : decode cX4_restore 17 = .ok (.baload, 1) := by decide +kernel
theorem dX4_restore_18 : decode cX4_restore 18 = .ok (.ifCond .ne 6, 3) := by decide +kernel
theorem dX4_restore_21 : decode cX4_restore 21 = .ok (.bipush (-3), 2) := by decide +kernel
theorem dX4_restore_23 : decode cX4_restore 23 = .ok (.ireturn, 1) := by decide +kernel
theorem dX4_restore_24 : decode cX4_restore 24 = .ok (.iconst 0, 1) := by decide +kernel
theorem dX4_restore_25 : decode cX4_restore 25 = .ok (.istore_n 2, 1) := by decide +kernel
theorem dX4_restore_26 : decode cX4_restore 26 = .ok (.iload_n 2, 1) := by decide +kernel
theorem dX4_restore_27 : decode cX4_restore 27 = .ok (.sipush 130, 3) := by decide +kernel
theorem dX4_restore_30 : decode cX4_restore 30 = .ok (.if_icmp .ge 27, 3) := by decide +kernel
theorem dX4_restore_33 : decode cX4_restore 33 = .ok (.aload_n 0, 1) := by decide +kernel
theorem dX4_restore_34 : decode cX4_restore 34 = .ok (.getfield 7, 3) := by decide +kernel
theorem dX4_restore_37 : decode cX4_restore 37 = .ok (.iload_n 2, 1) := by decide +kernel
theorem dX4_restore_38 : decode cX4_restore 38 = .ok (.aload_n 0, 1) := by decide +kernel
theorem dX4_restore_39 : decode cX4_restore 39 = .ok (.getfield 13, 3) := by decide +kernel
theorem dX4_restore_42 : decode cX4_restore 42 = .ok (.sipush 130, 3) := by decide +kernel
theorem dX4_restore_45 : decode cX4_restore 45 = .ok (.iload_n 1, 1) := by decide +kernel
theorem dX4_restore_46 : decode cX4_restore 46 = .ok (.imul, 1) := by decide +kernel
theorem dX4_restore_47 : decode cX4_restore 47 = .ok (.iload_n 2, 1) := by decide +kernel
theorem dX4_restore_48 : decode cX4_restore 48 = .ok (.iadd, 1) := by decide +kernel
theorem dX4_restore_49 : decode cX4_restore 49 = .ok (.iaload, 1) := by decide +kernel
theorem dX4_restore_50 : decode cX4_restore 50 = .ok (.iastore, 1) := by decide +kernel
theorem dX4_restore_51 : decode cX4_restore 51 = .ok (.iinc 2 1, 3) := by decide +kernel
theorem dX4_restore_54 : decode cX4_restore 54 = .ok (.goto (-28), 3) := by decide +kernel
theorem dX4_restore_57 : decode cX4_restore 57 = .ok (.iconst 1, 1) := by decide +kernel
theorem dX4_restore_58 : decode cX4_restore 58 = .ok (.ireturn, 1) := by decide +kernel
set_option maxRecDepth 20000 in
theorem ggX4_pagesThat_X4_isShared : GoodIn wsX4_pagesThat wsX4_isShared := goodIn_r _ [7, 2, 8, 9, 10, 11, 6, 12, 13, 14, 15, 16, 17, 18, 19, 49, 50, 51, 52, 53, 54, 55, 56, 57, 58, 59, 60] (by decide +kernel) (by decide +kernel)
set_option maxRecDepth 20000 in
theorem gX4_pagesThat_X4_isShared : GoodIn wsX4_pagesThat (wsV RX4 119 RX4 yX4_isShared wsX4_isShared) := goodIn_app (goodIn_of _ (by decide +kernel)) ggX4_pagesThat_X4_isShared
set_option maxRecDepth 20000 in
theorem ggX4_pagesThat_X4_headOf : GoodIn wsX4_pagesThat wsX4_headOf := goodIn_r _ [23, 2, 13, 8, 14, 15, 6, 16, 17, 18, 19, 24, 25, 26, 27, 28, 29, 30, 31, 32, 33, 34, 35, 36, 37, 38, 39, 40, 41, 42, 43, 44, 45, 46, 47, 48, 49, 50, 51, 52, 53, 54, 55, 56, 57, 58, 59, 60] (by decide +kernel) (by decide +kernel)
set_option maxRecDepth 20000 in
theorem gX4_pagesThat_X4_headOf : GoodIn wsX4_pagesThat (wsV RX4 116 RX4 yX4_headOf wsX4_headOf) := goodIn_app (goodIn_of _ (by decide +kernel)) ggX4_pagesThat_X4_headOf
theorem dX4_pagesThat_0 : decode cX4_pagesThat 0 = .ok (.iconst 0, 1) := by decide +kernel
theorem dX4_pagesThat_1 : decode cX4_pagesThat 1 = .ok (.istore_n 2, 1) := by decide +kernel
theorem dX4_pagesThat_2 : decode cX4_pagesThat 2 = .ok (.iconst 1, 1) := by decide +kernel
theorem dX4_pagesThat_3 : decode cX4_pagesThat 3 = .ok (.istore_n 3, 1) := by decide +kernel
theorem dX4_pagesThat_4 : decode cX4_pagesThat 4 = .ok (.iload_n 3, 1) := by decide +kernel
theorem dX4_pagesThat_5 : decode cX4_pagesThat 5 = .ok (.aload_n 0, 1) := by decide +kernel
end
section
theorem dX4_pagesThat_6 : decode cX4_pagesThat 6 = .ok (.getfield 76, 3) := by decide +kernel
theorem dX4_pagesThat_9 : decode cX4_pagesThat 9 = .ok (.if_icmp .gt 74, 3) := by decide +kernel
theorem dX4_pagesThat_12 : decode cX4_pagesThat 12 = .ok (.iload_n 1, 1) := by decide +kernel
theorem dX4_pagesThat_13 : decode cX4_pagesThat 13 = .ok (.iconst 2, 1) := by decide +kernel
theorem dX4_pagesThat_14 : decode cX4_pagesThat 14 = .ok (.if_icmp .ne 20, 3) := by decide +kernel
theorem dX4_pagesThat_17 : decode cX4_pagesThat 17 = .ok (.aload_n 0, 1) := by decide +kernel
theorem dX4_pagesThat_18 : decode cX4_pagesThat 18 = .ok (.getfield 35, 3) := by decide +kernel
theorem dX4_pagesThat_21 : decode cX4_pagesThat 21 = .ok (.iload_n 3, 1) := by decide +kernel
theorem dX4_pagesThat_22 : decode cX4_pagesThat 22 = .ok (.iaload, 1) := by decide +kernel
theorem dX4_pagesThat_23 : decode cX4_pagesThat 23 = .ok (.ifCond .ne 7, 3) := by decide +kernel
theorem dX4_pagesThat_26 : decode cX4_pagesThat 26 = .ok (.iconst 1, 1) := by decide +kernel
theorem dX4_pagesThat_27 : decode cX4_pagesThat 27 = .ok (.goto 35, 3) := by decide +kernel
theorem dX4_pagesThat_30 : decode cX4_pagesThat 30 = .ok (.iconst 0, 1) := by decide +kernel
theorem dX4_pagesThat_31 : decode cX4_pagesThat 31 = .ok (.goto 31, 3) := by decide +kernel
theorem dX4_pagesThat_34 : decode cX4_pagesThat 34 = .ok (.iload_n 1, 1) := by decide +kernel
theorem dX4_pagesThat_35 : decode cX4_pagesThat 35 = .ok (.iconst 5, 1) := by decide +kernel
theorem dX4_pagesThat_36 : decode cX4_pagesThat 36 = .ok (.if_icmp .ne 11, 3) := by decide +kernel
theorem dX4_pagesThat_39 : decode cX4_pagesThat 39 = .ok (.aload_n 0, 1) := by decide +kernel
theorem dX4_pagesThat_40 : decode cX4_pagesThat 40 = .ok (.iload_n 3, 1) := by decide +kernel
theorem dX4_pagesThat_41 : decode cX4_pagesThat 41 = .ok (.invokevirtual 119, 3) := by decide +kernel
theorem dX4_pagesThat_44 : decode cX4_pagesThat 44 = .ok (.goto 18, 3) := by decide +kernel
theorem dX4_pagesThat_47 : decode cX4_pagesThat 47 = .ok (.aload_n 0, 1) := by decide +kernel
theorem dX4_pagesThat_48 : decode cX4_pagesThat 48 = .ok (.iload_n 3, 1) := by decide +kernel
theorem dX4_pagesThat_49 : decode cX4_pagesThat 49 = .ok (.invokevirtual 116, 3) := by decide +kernel
theorem dX4_pagesThat_52 : decode cX4_pagesThat 52 = .ok (.bipush (-6), 2) := by decide +kernel
theorem dX4_pagesThat_54 : decode cX4_pagesThat 54 = .ok (.if_icmp .eq 7, 3) := by decide +kernel
theorem dX4_pagesThat_57 : decode cX4_pagesThat 57 = .ok (.iconst 1, 1) := by decide +kernel
theorem dX4_pagesThat_58 : decode cX4_pagesThat 58 = .ok (.goto 4, 3) := by decide +kernel
theorem dX4_pagesThat_61 : decode cX4_pagesThat 61 = .ok (.iconst 0, 1) := by decide +kernel
theorem dX4_pagesThat_62 : decode cX4_pagesThat 62 = .ok (.istore 4, 2) := by decide +kernel
theorem dX4_pagesThat_64 : decode cX4_pagesThat 64 = .ok (.iload_n 2, 1) := by decide +kernel
theorem dX4_pagesThat_65 : decode cX4_pagesThat 65 = .ok (.iload 4, 2) := by decide +kernel
theorem dX4_pagesThat_67 : decode cX4_pagesThat 67 = .ok (.ifCond .eq 7, 3) := by decide +kernel
theorem dX4_pagesThat_70 : decode cX4_pagesThat 70 = .ok (.iconst 1, 1) := by decide +kernel
theorem dX4_pagesThat_71 : decode cX4_pagesThat 71 = .ok (.goto 4, 3) := by decide +kernel
theorem dX4_pagesThat_74 : decode cX4_pagesThat 74 = .ok (.iconst 0, 1) := by decide +kernel
theorem dX4_pagesThat_75 : decode cX4_pagesThat 75 = .ok (.iadd, 1) := by decide +kernel
theorem dX4_pagesThat_76 : decode cX4_pagesThat 76 = .ok (.istore_n 2, 1) := by decide +kernel
theorem dX4_pagesThat_77 : decode cX4_pagesThat 77 = .ok (.iinc 3 1, 3) := by decide +kernel
theorem dX4_pagesThat_80 : decode cX4_pagesThat 80 = .ok (.goto (-76), 3) := by decide +kernel
theorem dX4_pagesThat_83 : decode cX4_pagesThat 83 = .ok (.iload_n 2, 1) := by decide +kernel
theorem dX4_pagesThat_84 : decode cX4_pagesThat 84 = .ok (.ireturn, 1) := by decide +kernel
set_option maxRecDepth 20000 in
theorem ggX4_count_X4_in : GoodIn wsX4_count wsX4_in := goodIn_r _ [8] (by decide +kernel) (by decide +kernel)
set_option maxRecDepth 20000 in
theorem gX4_count_X4_in : GoodIn wsX4_count (va_wsS RX4 41 yX4_in wsX4_in) := goodIn_app (goodIn_of _ (by decide +kernel)) ggX4_count_X4_in
set_option maxRecDepth 20000 in
theorem ggX4_count_X4_layPages : GoodIn wsX4_count wsX4_layPages := goodIn_r _ [12, 2, 13, 1, 14, 15, 16, 17, 18, 19, 7, 20, 21, 22, 23, 24, 25, 26, 27, 28, 29, 30, 31, 5, 6, 8, 32, 33, 34, 35, 36, 80, 81, 82, 83, 84, 85, 86, 87, 88, 89, 90, 91] (by decide +kernel) (by decide +kernel)
set_option maxRecDepth 20000 in
theorem gX4_count_X4_layPages : GoodIn wsX4_count (wsV RX4 107 RX4 yX4_layPages wsX4_layPages) := goodIn_app (goodIn_of _ (by decide +kernel)) ggX4_count_X4_layPages
set_option maxRecDepth 20000 in
theorem ggX4_count_X4_many : GoodIn wsX4_count wsX4_many := goodIn_r _ [20, 1, 80, 81, 82, 83, 84, 85, 86, 87, 88, 89, 90, 91] (by decide +kernel) (by decide +kernel)
set_option maxRecDepth 20000 in
theorem gX4_count_X4_many : GoodIn wsX4_count (wsV RX4 45 RX4 yX4_many wsX4_many) := goodIn_app (goodIn_of _ (by decide +kernel)) ggX4_count_X4_many
set_option maxRecDepth 20000 in
theorem ggX4_count_X4_pagesThat : GoodIn wsX4_count wsX4_pagesThat := goodIn_r _ [40, 2, 13, 41, 42, 43, 7, 44, 16, 45, 46, 47, 48, 1, 29, 30, 31, 5, 6, 8, 49, 50, 51, 52, 53, 54, 55, 56, 57, 58, 59, 60, 14, 17, 18, 19, 20, 61, 62, 63, 64, 36, 65, 66, 67, 68, 69, 70, 71, 80, 81, 82, 83, 84, 85, 86, 87, 88, 89, 90, 91] (by decide +kernel) (by decide +kernel)
set_option maxRecDepth 20000 in
theorem gX4_count_X4_pagesThat : GoodIn wsX4_count (wsV RX4 138 RX4 yX4_pagesThat wsX4_pagesThat) := goodIn_app (goodIn_of _ (by decide +kernel)) ggX4_count_X4_pagesThat
set_option maxRecDepth 20000 in
theorem ggX4_count_X4_breaks : GoodIn wsX4_count wsX4_breaks := goodIn_r _ [75, 1, 17, 18, 19, 7, 20, 80, 81, 82, 83, 84, 85, 86, 87, 88, 89, 90, 91] (by decide +kernel) (by decide +kernel)
set_option maxRecDepth 20000 in
theorem gX4_count_X4_breaks : GoodIn wsX4_count (wsV RX4 73 RX4 yX4_breaks wsX4_breaks) := goodIn_app (goodIn_of _ (by decide +kernel)) ggX4_count_X4_breaks
set_option maxRecDepth 20000 in
theorem ggX4_count_X4_chapters : GoodIn wsX4_count wsX4_chapters := goodIn_r _ [79, 17, 18, 19, 7, 20, 1, 45, 46, 47, 48, 29, 30, 31, 5, 6, 8, 80, 81, 82, 83, 84, 85, 86, 87, 88, 89, 90, 91] (by decide +kernel) (by decide +kernel)
set_option maxRecDepth 20000 in
theorem gX4_count_X4_chapters : GoodIn wsX4_count (wsV RX4 122 RX4 yX4_chapters wsX4_chapters) := goodIn_app (goodIn_of _ (by decide +kernel)) ggX4_count_X4_chapters
theorem dX4_count_0 : decode cX4_count 0 = .ok (.iload_n 1, 1) := by decide +kernel
theorem dX4_count_1 : decode cX4_count 1 = .ok (.bipush 10, 2) := by decide +kernel
theorem dX4_count_3 : decode cX4_count 3 = .ok (.bipush 18, 2) := by decide +kernel
theorem dX4_count_5 : decode cX4_count 5 = .ok (.invokestatic 41, 3) := by decide +kernel
theorem dX4_count_8 : decode cX4_count 8 = .ok (.ifCond .eq 16, 3) := by decide +kernel
theorem dX4_count_11 : decode cX4_count 11 = .ok (.aload_n 0, 1) := by decide +kernel
theorem dX4_count_12 : decode cX4_count 12 = .ok (.getfield 7, 3) := by decide +kernel
theorem dX4_count_15 : decode cX4_count 15 = .ok (.bipush 121, 2) := by decide +kernel
theorem dX4_count_17 : decode cX4_count 17 = .ok (.iload_n 1, 1) := by decide +kernel
theorem dX4_count_18 : decode cX4_count 18 = .ok (.iadd, 1) := by decide +kernel
theorem dX4_count_19 : decode cX4_count 19 = .ok (.bipush 10, 2) := by decide +kernel
theorem dX4_count_21 : decode cX4_count 21 = .ok (.isub, 1) := by decide +kernel
theorem dX4_count_22 : decode cX4_count 22 = .ok (.iaload, 1) := by decide +kernel
theorem dX4_count_23 : decode cX4_count 23 = .ok (.ireturn, 1) := by decide +kernel
theorem dX4_count_24 : decode cX4_count 24 = .ok (.aload_n 0, 1) := by decide +kernel
theorem dX4_count_25 : decode cX4_count 25 = .ok (.invokevirtual 107, 3) := by decide +kernel
theorem dX4_count_28 : decode cX4_count 28 = .ok (.iload_n 1, 1) := by decide +kernel
theorem dX4_count_29 : decode cX4_count 29 = .ok (.tableswitch 112 0 8 #[51, 56, 61, 67, 72, 61, 61, 77, 82], 51) := by decide +kernel
theorem dX4_count_80 : decode cX4_count 80 = .ok (.aload_n 0, 1) := by decide +kernel
theorem dX4_count_81 : decode cX4_count 81 = .ok (.invokevirtual 45, 3) := by decide +kernel
theorem dX4_count_84 : decode cX4_count 84 = .ok (.ireturn, 1) := by decide +kernel
theorem dX4_count_85 : decode cX4_count 85 = .ok (.aload_n 0, 1) := by decide +kernel
theorem dX4_count_86 : decode cX4_count 86 = .ok (.getfield 76, 3) := by decide +kernel
theorem dX4_count_89 : decode cX4_count 89 = .ok (.ireturn, 1) := by decide +kernel
theorem dX4_count_90 : decode cX4_count 90 = .ok (.aload_n 0, 1) := by decide +kernel
theorem dX4_count_91 : decode cX4_count 91 = .ok (.iload_n 1, 1) := by decide +kernel
theorem dX4_count_92 : decode cX4_count 92 = .ok (.invokevirtual 138, 3) := by decide +kernel
theorem dX4_count_95 : decode cX4_count 95 = .ok (.ireturn, 1) := by decide +kernel
theorem dX4_count_96 : decode cX4_count 96 = .ok (.aload_n 0, 1) := by decide +kernel
theorem dX4_count_97 : decode cX4_count 97 = .ok (.invokevirtual 73, 3) := by decide +kernel
theorem dX4_count_100 : decode cX4_count 100 = .ok (.ireturn, 1) := by decide +kernel
theorem dX4_count_101 : decode cX4_count 101 = .ok (.aload_n 0, 1) := by decide +kernel
theorem dX4_count_102 : decode cX4_count 102 = .ok (.invokevirtual 122, 3) := by decide +kernel
theorem dX4_count_105 : decode cX4_count 105 = .ok (.ireturn, 1) := by decide +kernel
theorem dX4_count_106 : decode cX4_count 106 = .ok (.aload_n 0, 1) := by decide +kernel
theorem dX4_count_107 : decode cX4_count 107 = .ok (.getfield 49, 3) := by decide +kernel
theorem dX4_count_110 : decode cX4_count 110 = .ok (.ireturn, 1) := by decide +kernel
theorem dX4_count_111 : decode cX4_count 111 = .ok (.aload_n 0, 1) := by decide +kernel
theorem dX4_count_112 : decode cX4_count 112 = .ok (.getfield 16, 3) := by decide +kernel
theorem dX4_count_115 : decode cX4_count 115 = .ok (.iconst 0, 1) := by decide +kernel
theorem dX4_count_116 : decode cX4_count 116 = .ok (.baload, 1) := by decide +kernel
theorem dX4_count_117 : decode cX4_count 117 = .ok (.ifCond .eq 7, 3) := by decide +kernel
theorem dX4_count_120 : decode cX4_count 120 = .ok (.iconst 1, 1) := by decide +kernel
theorem dX4_count_121 : decode cX4_count 121 = .ok (.goto 4, 3) := by decide +kernel
theorem dX4_count_124 : decode cX4_count 124 = .ok (.iconst 0, 1) := by decide +kernel
theorem dX4_count_125 : decode cX4_count 125 = .ok (.aload_n 0, 1) := by decide +kernel
theorem dX4_count_126 : decode cX4_count 126 = .ok (.getfield 16, 3) := by decide +kernel
theorem dX4_count_129 : decode cX4_count 129 = .ok (.iconst 1, 1) := by decide +kernel
theorem dX4_count_130 : decode cX4_count 130 = .ok (.baload, 1) := by decide +kernel
theorem dX4_count_131 : decode cX4_count 131 = .ok (.ifCond .eq 7, 3) := by decide +kernel
theorem dX4_count_134 : decode cX4_count 134 = .ok (.iconst 2, 1) := by decide +kernel
theorem dX4_count_135 : decode cX4_count 135 = .ok (.goto 4, 3) := by decide +kernel
theorem dX4_count_138 : decode cX4_count 138 = .ok (.iconst 0, 1) := by decide +kernel
theorem dX4_count_139 : decode cX4_count 139 = .ok (.iadd, 1) := by decide +kernel
theorem dX4_count_140 : decode cX4_count 140 = .ok (.ireturn, 1) := by decide +kernel
theorem dX4_count_141 : decode cX4_count 141 = .ok (.bipush (-2), 2) := by decide +kernel
theorem dX4_count_143 : decode cX4_count 143 = .ok (.ireturn, 1) := by decide +kernel
theorem dJ9_max_7cf53_0 : decode cJ9_max_7cf53 0 = .ok (.iload_n 0, 1) := by decide +kernel
theorem dJ9_max_7cf53_1 : decode cJ9_max_7cf53 1 = .ok (.iload_n 1, 1) := by decide +kernel
theorem dJ9_max_7cf53_2 : decode cJ9_max_7cf53 2 = .ok (.if_icmp .lt 7, 3) := by decide +kernel
theorem dJ9_max_7cf53_5 : decode cJ9_max_7cf53 5 = .ok (.iload_n 0, 1) := by decide +kernel
theorem dJ9_max_7cf53_6 : decode cJ9_max_7cf53 6 = .ok (.goto 4, 3) := by decide +kernel
theorem dJ9_max_7cf53_9 : decode cJ9_max_7cf53 9 = .ok (.iload_n 1, 1) := by decide +kernel
theorem dJ9_max_7cf53_10 : decode cJ9_max_7cf53 10 = .ok (.ireturn, 1) := by decide +kernel
set_option maxRecDepth 20000 in
theorem ggL_law_X3_init : GoodIn wsL_law wsX3_init := goodIn_r _ [8, 9, 10, 11, 12, 13, 14, 15, 16, 17, 18, 19, 20, 21, 22, 23, 24, 25, 26, 27, 28, 29, 30, 31, 32, 33, 34, 35, 36, 37, 38, 39, 40, 41, 42, 43, 44, 45, 46, 47, 48, 49, 50, 51, 52, 53, 54, 55, 56, 57, 58, 483, 484, 465, 466, 467, 468, 469, 470, 485, 486, 487, 488, 489, 490, 491, 492, 493, 494, 495, 496, 497] (by decide +kernel) (by decide +kernel)
set_option maxRecDepth 20000 in
theorem gL_law_X3_init : GoodIn wsL_law (wsX3_init) := ggL_law_X3_init
set_option maxRecDepth 20000 in
theorem ggL_law_X4_init : GoodIn wsL_law wsX4_init := goodIn_r _ [61, 62, 10, 11, 30, 63, 64, 65, 66, 67, 68, 69, 70, 71, 72, 73, 471, 472, 473, 474, 475, 476, 477, 478, 479, 480, 481, 482] (by decide +kernel) (by decide +kernel)
set_option maxRecDepth 20000 in
theorem gL_law_X4_init : GoodIn wsL_law (wsX4_init) := ggL_law_X4_init
set_option maxRecDepth 20000 in
theorem ggL_law_X3_say : GoodIn wsL_law wsX3_say := goodIn_r _ [77, 15, 78, 79, 80, 81, 14, 82, 32, 31, 465, 466, 467, 468, 469, 470, 483, 484] (by decide +kernel) (by decide +kernel)
set_option maxRecDepth 20000 in
theorem gL_law_X3_say : GoodIn wsL_law (wsV RL 13 RX3 yX3_say wsX3_say) := goodIn_app (goodIn_of _ (by decide +kernel)) ggL_law_X3_say
set_option maxRecDepth 20000 in
theorem ggL_law_X4_say : GoodIn wsL_law wsX4_say := goodIn_r _ [86, 87, 67, 88, 89, 5, 90, 471, 472, 473, 474, 475, 476, 477, 478, 479, 480, 481, 482] (by decide +kernel) (by decide +kernel)
set_option maxRecDepth 20000 in
theorem gL_law_X4_say : GoodIn wsL_law (wsV RL 17 RX4 yX4_say wsX4_say) := goodIn_app (goodIn_of _ (by decide +kernel)) ggL_law_X4_say
set_option maxRecDepth 20000 in
theorem ggL_law_X3_wipe : GoodIn wsL_law wsX3_wipe := goodIn_r _ [94, 15, 78, 465, 466, 467, 468, 469, 470, 483, 484] (by decide +kernel) (by decide +kernel)
set_option maxRecDepth 20000 in
theorem gL_law_X3_wipe : GoodIn wsL_law (wsV RL 18 RX3 yX3_wipe wsX3_wipe) := goodIn_app (goodIn_of _ (by decide +kernel)) ggL_law_X3_wipe
set_option maxRecDepth 20000 in
theorem ggL_law_X4_wipe : GoodIn wsL_law wsX4_wipe := goodIn_r _ [98, 87, 471, 472, 473, 474, 475, 476, 477, 478, 479, 480, 481, 482] (by decide +kernel) (by decide +kernel)
set_option maxRecDepth 20000 in
theorem gL_law_X4_wipe : GoodIn wsL_law (wsV RL 22 RX4 yX4_wipe wsX4_wipe) := goodIn_app (goodIn_of _ (by decide +kernel)) ggL_law_X4_wipe
set_option maxRecDepth 20000 in
theorem ggL_law_X3_fault : GoodIn wsL_law wsX3_fault := goodIn_r _ [102, 15, 103, 104, 105, 14, 106, 32, 31, 107, 2, 108, 465, 466, 467, 468, 469, 470, 483, 484] (by decide +kernel) (by decide +kernel)
set_option maxRecDepth 20000 in
theorem gL_law_X3_fault : GoodIn wsL_law (wsV RL 23 RX3 yX3_fault wsX3_fault) := goodIn_app (goodIn_of _ (by decide +kernel)) ggL_law_X3_fault
set_option maxRecDepth 20000 in
theorem ggL_law_X4_fault : GoodIn wsL_law wsX4_fault := goodIn_r _ [112, 87, 67, 113, 114, 115, 5, 116, 117, 118, 119, 88, 89, 90, 120, 121, 122, 471, 472, 473, 474, 475, 476, 477, 478, 479, 480, 481, 482] (by decide +kernel) (by decide +kernel)
set_option maxRecDepth 20000 in
theorem gL_law_X4_fault : GoodIn wsL_law (wsV RL 26 RX4 yX4_fault wsX4_fault) := goodIn_app (goodIn_of _ (by decide +kernel)) ggL_law_X4_fault
set_option maxRecDepth 20000 in
theorem ggL_law_X3_read : GoodIn wsL_law wsX3_read := goodIn_r _ [126, 15, 19, 78, 127, 103, 104, 105, 14, 106, 32, 31, 107, 2, 108, 128, 129, 130, 18, 131, 45, 132, 133, 36, 37, 134, 135, 136, 137, 25, 138, 139, 140, 141, 24, 142, 143, 57, 58, 144, 56, 145, 146, 147, 148, 149, 54, 150, 151, 152, 153, 154, 155, 156, 157, 158, 53, 55, 159, 160, 161, 162, 163, 164, 165, 49, 50, 52, 166, 167, 168, 169, 170, 171, 172, 173, 174, 175, 176, 177, 178, 179, 180, 181, 465, 466, 467, 468, 469, 470, 483, 484, 485, 486, 487, 488, 489, 490, 491, 492, 493, 494, 495, 496, 497] (by decide +kernel) (by decide +kernel)
set_option maxRecDepth 20000 in
theorem gL_law_X3_read : GoodIn wsL_law (wsV RL 27 RX3 yX3_read wsX3_read) := goodIn_app (goodIn_of _ (by decide +kernel)) ggL_law_X3_read
set_option maxRecDepth 20000 in
theorem ggL_law_X4_read : GoodIn wsL_law wsX4_read := goodIn_r _ [185, 87, 67, 63, 186, 110, 111, 5, 112, 113, 114, 115, 116, 117, 118, 119, 88, 89, 90, 120, 121, 122, 471, 472, 473, 474, 475, 476, 477, 478, 479, 480, 481, 482] (by decide +kernel) (by decide +kernel)
set_option maxRecDepth 20000 in
theorem gL_law_X4_read : GoodIn wsL_law (wsV RL 30 RX4 yX4_read wsX4_read) := goodIn_app (goodIn_of _ (by decide +kernel)) ggL_law_X4_read
set_option maxRecDepth 20000 in
theorem ggL_law_X3_rule : GoodIn wsL_law wsX3_rule := goodIn_r _ [190, 19, 138, 191, 192, 193, 18, 194, 44, 134, 135, 136, 2, 137, 25, 139, 140, 141, 24, 142, 143, 57, 58, 144, 56, 145, 146, 147, 148, 149, 54, 150, 107, 108, 151, 152, 153, 154, 155, 156, 157, 158, 53, 55, 159, 160, 161, 162, 163, 164, 165, 49, 50, 52, 166, 167, 168, 169, 170, 171, 172, 173, 174, 175, 176, 177, 178, 179, 180, 181, 465, 466, 467, 468, 469, 470, 485, 486, 487, 488, 489, 490, 491, 492, 493, 494, 495, 496, 497] (by decide +kernel) (by decide +kernel)
set_option maxRecDepth 20000 in
theorem gL_law_X3_rule : GoodIn wsL_law (wsV RL 31 RX3 yX3_rule wsX3_rule) := goodIn_app (goodIn_of _ (by decide +kernel)) ggL_law_X3_rule
set_option maxRecDepth 20000 in
theorem ggL_law_X4_rule : GoodIn wsL_law wsX4_rule := goodIn_r _ [198, 63, 88, 89, 5, 90, 199, 200, 201, 202, 203, 204, 471, 472, 473, 474, 475, 476, 477, 478, 479, 480, 481, 482] (by decide +kernel) (by decide +kernel)
set_option maxRecDepth 20000 in
theorem gL_law_X4_rule : GoodIn wsL_law (wsV RL 35 RX4 yX4_rule wsX4_rule) := goodIn_app (goodIn_of _ (by decide +kernel)) ggL_law_X4_rule
set_option maxRecDepth 20000 in
theorem ggL_law_X3_cut : GoodIn wsL_law wsX3_cut := goodIn_r _ [208, 19, 209, 210, 211, 212, 18, 213, 45, 134, 135, 136, 2, 137, 25, 138, 139, 140, 141, 24, 142, 143, 57, 58, 144, 56, 145, 146, 147, 148, 149, 54, 150, 107, 108, 151, 152, 153, 154, 155, 156, 157, 158, 53, 55, 159, 160, 161, 162, 163, 164, 165, 49, 50, 52, 166, 167, 168, 169, 170, 171, 172, 173, 174, 175, 176, 177, 178, 179, 180, 181, 214, 215, 216, 217, 37, 465, 466, 467, 468, 469, 470, 485, 486, 487, 488, 489, 490, 491, 492, 493, 494, 495, 496, 497] (by decide +kernel) (by decide +kernel)
set_option maxRecDepth 20000 in
theorem gL_law_X3_cut : GoodIn wsL_law (wsV RL 36 RX3 yX3_cut wsX3_cut) := goodIn_app (goodIn_of _ (by decide +kernel)) ggL_law_X3_cut
set_option maxRecDepth 20000 in
theorem ggL_law_X4_cut : GoodIn wsL_law wsX4_cut := goodIn_r _ [221, 63, 222, 223, 224, 5, 225, 88, 89, 90, 226, 227, 228, 229, 471, 472, 473, 474, 475, 476, 477, 478, 479, 480, 481, 482] (by decide +kernel) (by decide +kernel)
set_option maxRecDepth 20000 in
theorem gL_law_X4_cut : GoodIn wsL_law (wsV RL 39 RX4 yX4_cut wsX4_cut) := goodIn_app (goodIn_of _ (by decide +kernel)) ggL_law_X4_cut
set_option maxRecDepth 20000 in
theorem ggL_law_X3_line : GoodIn wsL_law wsX3_line := goodIn_r _ [233, 19, 127, 234, 25, 235, 236, 209, 237, 238, 107, 2, 108, 465, 466, 467, 468, 469, 470, 485, 486, 487, 488, 489, 490, 491, 492, 493, 494, 495, 496, 497] (by decide +kernel) (by decide +kernel)
set_option maxRecDepth 20000 in
theorem gL_law_X3_line : GoodIn wsL_law (wsV RL 40 RX3 yX3_line wsX3_line) := goodIn_app (goodIn_of _ (by decide +kernel)) ggL_law_X3_line
set_option maxRecDepth 20000 in
theorem ggL_law_X4_line : GoodIn wsL_law wsX4_line := goodIn_r _ [242, 63, 68, 69, 70, 243, 244, 245, 5, 246, 222, 223, 224, 225, 88, 89, 90, 247, 248, 249, 250, 251, 72, 71, 252, 253, 254, 255, 256, 257, 258, 259, 117, 118, 119, 260, 261, 262, 263, 471, 472, 473, 474, 475, 476, 477, 478, 479, 480, 481, 482] (by decide +kernel) (by decide +kernel)
set_option maxRecDepth 20000 in
theorem gL_law_X4_line : GoodIn wsL_law (wsV RL 43 RX4 yX4_line wsX4_line) := goodIn_app (goodIn_of _ (by decide +kernel)) ggL_law_X4_line
set_option maxRecDepth 20000 in
theorem ggL_law_X3_page : GoodIn wsL_law wsX3_page := goodIn_r _ [267, 25, 268, 236, 269, 270, 271, 272, 24, 273, 58, 274, 275, 276, 277, 54, 53, 50, 278, 279, 280, 281, 465, 466, 467, 468, 469, 470, 489, 490, 491, 492, 493, 494, 495, 496, 497] (by decide +kernel) (by decide +kernel)
set_option maxRecDepth 20000 in
theorem gL_law_X3_page : GoodIn wsL_law (wsV RL 44 RX3 yX3_page wsX3_page) := goodIn_app (goodIn_of _ (by decide +kernel)) ggL_law_X3_page
set_option maxRecDepth 20000 in
theorem ggL_law_X4_page : GoodIn wsL_law wsX4_page := goodIn_r _ [285, 72, 71, 247, 248, 249, 5, 250, 251, 63, 68, 69, 222, 223, 224, 225, 252, 253, 254, 255, 256, 257, 258, 259, 117, 118, 119, 88, 89, 90, 260, 261, 262, 263, 70, 286, 287, 288, 289, 290, 291, 292, 293, 294, 295, 296, 297, 298, 299, 300, 301, 302, 303, 304, 305, 306, 307, 308, 309, 120, 121, 122, 310, 311, 312, 313, 314, 315, 316, 317, 471, 472, 473, 474, 475, 476, 477, 478, 479, 480, 481, 482] (by decide +kernel) (by decide +kernel)
set_option maxRecDepth 20000 in
theorem gL_law_X4_page : GoodIn wsL_law (wsV RL 47 RX4 yX4_page wsX4_page) := goodIn_app (goodIn_of _ (by decide +kernel)) ggL_law_X4_page
set_option maxRecDepth 20000 in
theorem ggL_law_X3_mark : GoodIn wsL_law wsX3_mark := goodIn_r _ [321, 25, 270, 271, 272, 24, 273, 58, 322, 179, 180, 181, 53, 54, 55, 166, 167, 168, 169, 52, 465, 466, 467, 468, 469, 470, 489, 490, 491, 492, 493, 494, 495, 496, 497] (by decide +kernel) (by decide +kernel)
set_option maxRecDepth 20000 in
theorem gL_law_X3_mark : GoodIn wsL_law (wsV RL 48 RX3 yX3_mark wsX3_mark) := goodIn_app (goodIn_of _ (by decide +kernel)) ggL_law_X3_mark
set_option maxRecDepth 20000 in
theorem ggL_law_X4_mark : GoodIn wsL_law wsX4_mark := goodIn_r _ [326, 247, 248, 249, 5, 250, 251, 72, 63, 68, 69, 71, 222, 223, 224, 225, 252, 253, 254, 255, 256, 257, 258, 259, 117, 118, 119, 88, 89, 90, 260, 261, 262, 263, 70, 286, 287, 288, 289, 294, 295, 296, 297, 298, 299, 300, 301, 302, 303, 304, 305, 306, 307, 308, 309, 120, 121, 122, 471, 472, 473, 474, 475, 476, 477, 478, 479, 480, 481, 482] (by decide +kernel) (by decide +kernel)
set_option maxRecDepth 20000 in
theorem gL_law_X4_mark : GoodIn wsL_law (wsV RL 52 RX4 yX4_mark wsX4_mark) := goodIn_app (goodIn_of _ (by decide +kernel)) ggL_law_X4_mark
set_option maxRecDepth 20000 in
theorem ggL_law_X3_headed : GoodIn wsL_law wsX3_headed := goodIn_r _ [330, 25, 331, 269, 238, 107, 2, 108, 465, 466, 467, 468, 469, 470, 489, 490, 491, 492, 493, 494, 495, 496, 497] (by decide +kernel) (by decide +kernel)
set_option maxRecDepth 20000 in
theorem gL_law_X3_headed : GoodIn wsL_law (wsV RL 53 RX3 yX3_headed wsX3_headed) := goodIn_app (goodIn_of _ (by decide +kernel)) ggL_law_X3_headed
set_option maxRecDepth 20000 in
theorem ggL_law_X4_headed : GoodIn wsL_law wsX4_headed := goodIn_r _ [335, 251, 117, 118, 5, 119, 88, 89, 90, 120, 121, 122, 247, 248, 249, 250, 72, 63, 68, 69, 71, 222, 223, 224, 225, 252, 253, 254, 255, 256, 257, 258, 259, 260, 261, 262, 263, 70, 290, 291, 292, 293, 294, 295, 296, 297, 298, 299, 300, 301, 302, 303, 304, 305, 306, 307, 308, 309, 471, 472, 473, 474, 475, 476, 477, 478, 479, 480, 481, 482] (by decide +kernel) (by decide +kernel)
set_option maxRecDepth 20000 in
theorem gL_law_X4_headed : GoodIn wsL_law (wsV RL 56 RX4 yX4_headed wsX4_headed) := goodIn_app (goodIn_of _ (by decide +kernel)) ggL_law_X4_headed
set_option maxRecDepth 20000 in
theorem ggL_law_X3_chapter : GoodIn wsL_law wsX3_chapter := goodIn_r _ [339, 25, 19, 234, 235, 340, 341, 342, 24, 343, 57, 50, 344, 345, 346, 347, 348, 349, 350, 351, 352, 353, 354, 18, 355, 36, 107, 2, 108, 465, 466, 467, 468, 469, 470, 485, 486, 487, 488, 489, 490, 491, 492, 493, 494, 495, 496, 497] (by decide +kernel) (by decide +kernel)
set_option maxRecDepth 20000 in
theorem gL_law_X3_chapter : GoodIn wsL_law (wsV RL 57 RX3 yX3_chapter wsX3_chapter) := goodIn_app (goodIn_of _ (by decide +kernel)) ggL_law_X3_chapter
set_option maxRecDepth 20000 in
theorem ggL_law_X4_chapter : GoodIn wsL_law wsX4_chapter := goodIn_r _ [359, 63, 68, 88, 89, 5, 90, 360, 361, 362, 363, 222, 223, 224, 225, 314, 315, 316, 317, 117, 118, 119, 247, 248, 249, 250, 251, 72, 69, 71, 252, 253, 254, 255, 256, 257, 258, 259, 260, 261, 262, 263, 70, 364, 365, 366, 367, 368, 369, 370, 371, 120, 121, 122, 471, 472, 473, 474, 475, 476, 477, 478, 479, 480, 481, 482] (by decide +kernel) (by decide +kernel)
set_option maxRecDepth 20000 in
theorem gL_law_X4_chapter : GoodIn wsL_law (wsV RL 60 RX4 yX4_chapter wsX4_chapter) := goodIn_app (goodIn_of _ (by decide +kernel)) ggL_law_X4_chapter
set_option maxRecDepth 20000 in
theorem ggL_law_X3_changed : GoodIn wsL_law wsX3_changed := goodIn_r _ [375, 19, 210, 211, 212, 18, 213, 45, 376, 377, 378, 2, 379, 26, 138, 25, 331, 380, 279, 280, 281, 139, 140, 141, 24, 142, 143, 57, 58, 144, 56, 145, 146, 147, 148, 149, 54, 150, 107, 108, 151, 152, 153, 154, 155, 156, 157, 158, 53, 55, 159, 160, 161, 162, 163, 164, 165, 49, 50, 52, 166, 167, 168, 169, 170, 171, 172, 173, 174, 175, 176, 177, 178, 179, 180, 181, 381, 382, 383, 384, 385, 271, 272, 273, 465, 466, 467, 468, 469, 470, 485, 486, 487, 488, 489, 490, 491, 492, 493, 494, 495, 496, 497] (by decide +kernel) (by decide +kernel)
set_option maxRecDepth 20000 in
theorem gL_law_X3_changed : GoodIn wsL_law (wsV RL 61 RX3 yX3_changed wsX3_changed) := goodIn_app (goodIn_of _ (by decide +kernel)) ggL_law_X3_changed
set_option maxRecDepth 20000 in
theorem ggL_law_X4_changed : GoodIn wsL_law wsX4_changed := goodIn_r _ [389, 222, 223, 224, 5, 225, 63, 88, 89, 90, 390, 391, 392, 393, 73, 251, 247, 248, 249, 250, 72, 68, 69, 71, 252, 253, 254, 255, 256, 257, 258, 259, 117, 118, 119, 260, 261, 262, 263, 70, 290, 291, 292, 293, 294, 295, 296, 297, 298, 299, 300, 301, 302, 303, 304, 305, 306, 307, 308, 309, 120, 121, 122, 394, 395, 396, 397, 471, 472, 473, 474, 475, 476, 477, 478, 479, 480, 481, 482] (by decide +kernel) (by decide +kernel)
set_option maxRecDepth 20000 in
theorem gL_law_X4_changed : GoodIn wsL_law (wsV RL 64 RX4 yX4_changed wsX4_changed) := goodIn_app (goodIn_of _ (by decide +kernel)) ggL_law_X4_changed
set_option maxRecDepth 20000 in
theorem ggL_law_X3_worst : GoodIn wsL_law wsX3_worst := goodIn_r _ [401, 19, 127, 376, 377, 378, 2, 379, 26, 138, 25, 331, 380, 279, 280, 281, 139, 140, 141, 24, 142, 143, 57, 58, 144, 56, 145, 146, 147, 148, 149, 54, 150, 107, 108, 151, 152, 153, 154, 155, 156, 157, 158, 53, 55, 159, 160, 161, 162, 163, 164, 165, 49, 50, 52, 166, 167, 168, 169, 170, 171, 172, 173, 174, 175, 176, 177, 178, 179, 180, 181, 381, 382, 383, 384, 385, 271, 272, 273, 465, 466, 467, 468, 469, 470, 485, 486, 487, 488, 489, 490, 491, 492, 493, 494, 495, 496, 497] (by decide +kernel) (by decide +kernel)
set_option maxRecDepth 20000 in
theorem gL_law_X3_worst : GoodIn wsL_law (wsV RL 65 RX3 yX3_worst wsX3_worst) := goodIn_app (goodIn_of _ (by decide +kernel)) ggL_law_X3_worst
set_option maxRecDepth 20000 in
theorem ggL_law_X4_worst : GoodIn wsL_law wsX4_worst := goodIn_r _ [405, 88, 89, 5, 90, 390, 391, 392, 393, 73, 251, 247, 248, 249, 250, 72, 63, 68, 69, 71, 222, 223, 224, 225, 252, 253, 254, 255, 256, 257, 258, 259, 117, 118, 119, 260, 261, 262, 263, 70, 290, 291, 292, 293, 294, 295, 296, 297, 298, 299, 300, 301, 302, 303, 304, 305, 306, 307, 308, 309, 120, 121, 122, 394, 395, 396, 397, 471, 472, 473, 474, 475, 476, 477, 478, 479, 480, 481, 482] (by decide +kernel) (by decide +kernel)
set_option maxRecDepth 20000 in
theorem gL_law_X4_worst : GoodIn wsL_law (wsV RL 68 RX4 yX4_worst wsX4_worst) := goodIn_app (goodIn_of _ (by decide +kernel)) ggL_law_X4_worst
set_option maxRecDepth 20000 in
theorem ggL_law_X3_fit : GoodIn wsL_law wsX3_fit := goodIn_r _ [409, 410, 19, 138, 380, 279, 280, 281, 411, 26, 331, 139, 140, 141, 24, 142, 143, 57, 58, 144, 56, 145, 146, 147, 148, 149, 54, 150, 107, 2, 108, 151, 152, 153, 154, 155, 156, 157, 158, 53, 55, 159, 160, 161, 162, 163, 164, 165, 49, 50, 52, 166, 167, 168, 169, 170, 171, 172, 173, 174, 175, 176, 177, 178, 179, 180, 181, 465, 466, 467, 468, 469, 470, 485, 486, 487, 488, 489, 490, 491, 492, 493, 494, 495, 496, 497] (by decide +kernel) (by decide +kernel)
set_option maxRecDepth 20000 in
theorem gL_law_X3_fit : GoodIn wsL_law (wsV RL 69 RX3 yX3_fit wsX3_fit) := goodIn_app (goodIn_of _ (by decide +kernel)) ggL_law_X3_fit
set_option maxRecDepth 20000 in
theorem ggL_law_X4_fit : GoodIn wsL_law wsX4_fit := goodIn_r _ [415, 63, 251, 88, 89, 5, 90, 247, 248, 249, 250, 72, 68, 69, 71, 222, 223, 224, 225, 252, 253, 254, 255, 256, 257, 258, 259, 117, 118, 119, 260, 261, 262, 263, 70, 471, 472, 473, 474, 475, 476, 477, 478, 479, 480, 481, 482] (by decide +kernel) (by decide +kernel)
set_option maxRecDepth 20000 in
theorem gL_law_X4_fit : GoodIn wsL_law (wsV RL 72 RX4 yX4_fit wsX4_fit) := goodIn_app (goodIn_of _ (by decide +kernel)) ggL_law_X4_fit
set_option maxRecDepth 20000 in
theorem ggL_law_X3_image : GoodIn wsL_law wsX3_image := goodIn_r _ [419, 20, 19, 21, 420, 421, 422, 18, 423, 36, 424, 425, 426, 427, 37, 44, 45, 465, 466, 467, 468, 469, 470, 485, 486, 487, 488] (by decide +kernel) (by decide +kernel)
set_option maxRecDepth 20000 in
theorem gL_law_X3_image : GoodIn wsL_law (wsV RL 73 RX3 yX3_image wsX3_image) := goodIn_app (goodIn_of _ (by decide +kernel)) ggL_law_X3_image
set_option maxRecDepth 20000 in
theorem ggL_law_X4_image : GoodIn wsL_law wsX4_image := goodIn_r _ [431, 64, 63, 66, 88, 89, 5, 90, 471, 472, 473, 474, 475, 476, 477, 478, 479, 480, 481, 482] (by decide +kernel) (by decide +kernel)
set_option maxRecDepth 20000 in
theorem gL_law_X4_image : GoodIn wsL_law (wsV RL 76 RX4 yX4_image wsX4_image) := goodIn_app (goodIn_of _ (by decide +kernel)) ggL_law_X4_image
set_option maxRecDepth 20000 in
theorem ggL_law_X3_restore : GoodIn wsL_law wsX3_restore := goodIn_r _ [435, 21, 19, 20, 420, 421, 422, 18, 423, 36, 424, 425, 426, 427, 37, 44, 45, 134, 135, 136, 2, 137, 25, 138, 139, 140, 141, 24, 142, 143, 57, 58, 144, 56, 145, 146, 147, 148, 149, 54, 150, 107, 108, 151, 152, 153, 154, 155, 156, 157, 158, 53, 55, 159, 160, 161, 162, 163, 164, 165, 49, 50, 52, 166, 167, 168, 169, 170, 171, 172, 173, 174, 175, 176, 177, 178, 179, 180, 181, 465, 466, 467, 468, 469, 470, 485, 486, 487, 488, 489, 490, 491, 492, 493, 494, 495, 496, 497] (by decide +kernel) (by decide +kernel)
set_option maxRecDepth 20000 in
theorem gL_law_X3_restore : GoodIn wsL_law (wsV RL 77 RX3 yX3_restore wsX3_restore) := goodIn_app (goodIn_of _ (by decide +kernel)) ggL_law_X3_restore
set_option maxRecDepth 20000 in
theorem ggL_law_X4_restore : GoodIn wsL_law wsX4_restore := goodIn_r _ [439, 66, 63, 64, 88, 89, 5, 90, 471, 472, 473, 474, 475, 476, 477, 478, 479, 480, 481, 482] (by decide +kernel) (by decide +kernel)
set_option maxRecDepth 20000 in
theorem gL_law_X4_restore : GoodIn wsL_law (wsV RL 80 RX4 yX4_restore wsX4_restore) := goodIn_app (goodIn_of _ (by decide +kernel)) ggL_law_X4_restore
set_option maxRecDepth 20000 in
theorem ggL_law_X3_count : GoodIn wsL_law wsX3_count := goodIn_r _ [443, 19, 138, 127, 25, 331, 15, 78, 21, 444, 445, 446, 24, 447, 58, 54, 214, 215, 216, 18, 217, 45, 37, 340, 341, 342, 343, 57, 50, 448, 449, 450, 451, 452, 275, 276, 277, 53, 278, 279, 280, 281, 453, 454, 455, 456, 56, 465, 466, 467, 468, 469, 470, 485, 486, 487, 488, 489, 490, 491, 492, 493, 494, 495, 496, 497, 483, 484] (by decide +kernel) (by decide +kernel)
set_option maxRecDepth 20000 in
theorem gL_law_X3_count : GoodIn wsL_law (wsV RL 81 RX3 yX3_count wsX3_count) := goodIn_app (goodIn_of _ (by decide +kernel)) ggL_law_X3_count
set_option maxRecDepth 20000 in
theorem ggL_law_X4_count : GoodIn wsL_law wsX4_count := goodIn_r _ [460, 63, 251, 87, 66, 88, 89, 5, 90, 247, 248, 249, 250, 72, 68, 69, 71, 222, 223, 224, 225, 252, 253, 254, 255, 256, 257, 258, 259, 117, 118, 119, 260, 261, 262, 263, 70, 461, 462, 463, 464, 310, 311, 312, 313, 314, 315, 316, 317, 290, 291, 292, 293, 294, 295, 296, 297, 298, 299, 300, 301, 302, 303, 304, 305, 306, 307, 308, 309, 120, 121, 122, 226, 227, 228, 229, 360, 361, 362, 363, 471, 472, 473, 474, 475, 476, 477, 478, 479, 480, 481, 482] (by decide +kernel) (by decide +kernel)
set_option maxRecDepth 20000 in
theorem gL_law_X4_count : GoodIn wsL_law (wsV RL 84 RX4 yX4_count wsX4_count) := goodIn_app (goodIn_of _ (by decide +kernel)) ggL_law_X4_count
theorem dL_law_0 : decode cL_law 0 = .ok (.new 7, 3) := by decide +kernel
theorem dL_law_3 : decode cL_law 3 = .ok (.dup, 1) := by decide +kernel
theorem dL_law_4 : decode cL_law 4 = .ok (.invokespecial 9, 3) := by decide +kernel
theorem dL_law_7 : decode cL_law 7 = .ok (.astore_n 1, 1) := by decide +kernel
theorem dL_law_8 : decode cL_law 8 = .ok (.new 10, 3) := by decide +kernel
theorem dL_law_11 : decode cL_law 11 = .ok (.dup, 1) := by decide +kernel
theorem dL_law_12 : decode cL_law 12 = .ok (.invokespecial 12, 3) := by decide +kernel
theorem dL_law_15 : decode cL_law 15 = .ok (.astore_n 2, 1) := by decide +kernel
theorem dL_law_16 : decode cL_law 16 = .ok (.iconst 0, 1) := by decide +kernel
theorem dL_law_17 : decode cL_law 17 = .ok (.istore_n 3, 1) := by decide +kernel
theorem dL_law_18 : decode cL_law 18 = .ok (.iload_n 3, 1) := by decide +kernel
theorem dL_law_19 : decode cL_law 19 = .ok (.aload_n 0, 1) := by decide +kernel
theorem dL_law_20 : decode cL_law 20 = .ok (.arraylength, 1) := by decide +kernel
theorem dL_law_21 : decode cL_law 21 = .ok (.iconst 4, 1) := by decide +kernel
theorem dL_law_22 : decode cL_law 22 = .ok (.isub, 1) := by decide +kernel
theorem dL_law_23 : decode cL_law 23 = .ok (.if_icmp .gt 540, 3) := by decide +kernel
theorem dL_law_26 : decode cL_law 26 = .ok (.aload_n 0, 1) := by decide +kernel
theorem dL_law_27 : decode cL_law 27 = .ok (.iload_n 3, 1) := by decide +kernel
theorem dL_law_28 : decode cL_law 28 = .ok (.iaload, 1) := by decide +kernel
theorem dL_law_29 : decode cL_law 29 = .ok (.bipush 31, 2) := by decide +kernel
theorem dL_law_31 : decode cL_law 31 = .ok (.iand, 1) := by decide +kernel
theorem dL_law_32 : decode cL_law 32 = .ok (.tableswitch 525 0 16 #[84, 107, 120, 133, 146, 179, 212, 245, 278, 321, 354, 387, 410, 433, 456, 479, 502], 84) := by decide +kernel
theorem dL_law_116 : decode cL_law 116 = .ok (.aload_n 1, 1) := by decide +kernel
theorem dL_law_117 : decode cL_law 117 = .ok (.aload_n 0, 1) := by decide +kernel
theorem dL_law_118 : decode cL_law 118 = .ok (.iload_n 3, 1) := by decide +kernel
theorem dL_law_119 : decode cL_law 119 = .ok (.iconst 1, 1) := by decide +kernel
theorem dL_law_120 : decode cL_law 120 = .ok (.iadd, 1) := by decide +kernel
theorem dL_law_121 : decode cL_law 121 = .ok (.iaload, 1) := by decide +kernel
theorem dL_law_122 : decode cL_law 122 = .ok (.invokevirtual 13, 3) := by decide +kernel
theorem dL_law_125 : decode cL_law 125 = .ok (.aload_n 2, 1) := by decide +kernel
theorem dL_law_126 : decode cL_law 126 = .ok (.aload_n 0, 1) := by decide +kernel
theorem dL_law_127 : decode cL_law 127 = .ok (.iload_n 3, 1) := by decide +kernel
theorem dL_law_128 : decode cL_law 128 = .ok (.iconst 1, 1) := by decide +kernel
theorem dL_law_129 : decode cL_law 129 = .ok (.iadd, 1) := by decide +kernel
theorem dL_law_130 : decode cL_law 130 = .ok (.iaload, 1) := by decide +kernel
theorem dL_law_131 : decode cL_law 131 = .ok (.invokevirtual 17, 3) := by decide +kernel
theorem dL_law_134 : decode cL_law 134 = .ok (.if_icmp .eq 423, 3) := by decide +kernel
theorem dL_law_137 : decode cL_law 137 = .ok (.iconst 0, 1) := by decide +kernel
theorem dL_law_138 : decode cL_law 138 = .ok (.ireturn, 1) := by decide +kernel
theorem dL_law_139 : decode cL_law 139 = .ok (.aload_n 1, 1) := by decide +kernel
theorem dL_law_140 : decode cL_law 140 = .ok (.invokevirtual 18, 3) := by decide +kernel
theorem dL_law_143 : decode cL_law 143 = .ok (.aload_n 2, 1) := by decide +kernel
theorem dL_law_144 : decode cL_law 144 = .ok (.invokevirtual 22, 3) := by decide +kernel
theorem dL_law_147 : decode cL_law 147 = .ok (.if_icmp .eq 410, 3) := by decide +kernel
theorem dL_law_150 : decode cL_law 150 = .ok (.iconst 0, 1) := by decide +kernel
theorem dL_law_151 : decode cL_law 151 = .ok (.ireturn, 1) := by decide +kernel
theorem dL_law_152 : decode cL_law 152 = .ok (.aload_n 1, 1) := by decide +kernel
theorem dL_law_153 : decode cL_law 153 = .ok (.invokevirtual 23, 3) := by decide +kernel
theorem dL_law_156 : decode cL_law 156 = .ok (.aload_n 2, 1) := by decide +kernel
theorem dL_law_157 : decode cL_law 157 = .ok (.invokevirtual 26, 3) := by decide +kernel
theorem dL_law_160 : decode cL_law 160 = .ok (.if_icmp .eq 397, 3) := by decide +kernel
theorem dL_law_163 : decode cL_law 163 = .ok (.iconst 0, 1) := by decide +kernel
theorem dL_law_164 : decode cL_law 164 = .ok (.ireturn, 1) := by decide +kernel
theorem dL_law_165 : decode cL_law 165 = .ok (.aload_n 1, 1) := by decide +kernel
theorem dL_law_166 : decode cL_law 166 = .ok (.invokevirtual 27, 3) := by decide +kernel
theorem dL_law_169 : decode cL_law 169 = .ok (.aload_n 2, 1) := by decide +kernel
theorem dL_law_170 : decode cL_law 170 = .ok (.invokevirtual 30, 3) := by decide +kernel
theorem dL_law_173 : decode cL_law 173 = .ok (.if_icmp .eq 384, 3) := by decide +kernel
theorem dL_law_176 : decode cL_law 176 = .ok (.iconst 0, 1) := by decide +kernel
theorem dL_law_177 : decode cL_law 177 = .ok (.ireturn, 1) := by decide +kernel
theorem dL_law_178 : decode cL_law 178 = .ok (.aload_n 1, 1) := by decide +kernel
theorem dL_law_179 : decode cL_law 179 = .ok (.aload_n 0, 1) := by decide +kernel
theorem dL_law_180 : decode cL_law 180 = .ok (.iload_n 3, 1) := by decide +kernel
theorem dL_law_181 : decode cL_law 181 = .ok (.iconst 1, 1) := by decide +kernel
theorem dL_law_182 : decode cL_law 182 = .ok (.iadd, 1) := by decide +kernel
theorem dL_law_183 : decode cL_law 183 = .ok (.iaload, 1) := by decide +kernel
theorem dL_law_184 : decode cL_law 184 = .ok (.aload_n 0, 1) := by decide +kernel
theorem dL_law_185 : decode cL_law 185 = .ok (.iload_n 3, 1) := by decide +kernel
theorem dL_law_186 : decode cL_law 186 = .ok (.iconst 2, 1) := by decide +kernel
theorem dL_law_187 : decode cL_law 187 = .ok (.iadd, 1) := by decide +kernel
theorem dL_law_188 : decode cL_law 188 = .ok (.iaload, 1) := by decide +kernel
theorem dL_law_189 : decode cL_law 189 = .ok (.invokevirtual 31, 3) := by decide +kernel
theorem dL_law_192 : decode cL_law 192 = .ok (.aload_n 2, 1) := by decide +kernel
theorem dL_law_193 : decode cL_law 193 = .ok (.aload_n 0, 1) := by decide +kernel
theorem dL_law_194 : decode cL_law 194 = .ok (.iload_n 3, 1) := by decide +kernel
theorem dL_law_195 : decode cL_law 195 = .ok (.iconst 1, 1) := by decide +kernel
theorem dL_law_196 : decode cL_law 196 = .ok (.iadd, 1) := by decide +kernel
theorem dL_law_197 : decode cL_law 197 = .ok (.iaload, 1) := by decide +kernel
theorem dL_law_198 : decode cL_law 198 = .ok (.aload_n 0, 1) := by decide +kernel
theorem dL_law_199 : decode cL_law 199 = .ok (.iload_n 3, 1) := by decide +kernel
theorem dL_law_200 : decode cL_law 200 = .ok (.iconst 2, 1) := by decide +kernel
theorem dL_law_201 : decode cL_law 201 = .ok (.iadd, 1) := by decide +kernel
theorem dL_law_202 : decode cL_law 202 = .ok (.iaload, 1) := by decide +kernel
theorem dL_law_203 : decode cL_law 203 = .ok (.invokevirtual 35, 3) := by decide +kernel
theorem dL_law_206 : decode cL_law 206 = .ok (.if_icmp .eq 351, 3) := by decide +kernel
theorem dL_law_209 : decode cL_law 209 = .ok (.iconst 0, 1) := by decide +kernel
theorem dL_law_210 : decode cL_law 210 = .ok (.ireturn, 1) := by decide +kernel
theorem dL_law_211 : decode cL_law 211 = .ok (.aload_n 1, 1) := by decide +kernel
theorem dL_law_212 : decode cL_law 212 = .ok (.aload_n 0, 1) := by decide +kernel
theorem dL_law_213 : decode cL_law 213 = .ok (.iload_n 3, 1) := by decide +kernel
theorem dL_law_214 : decode cL_law 214 = .ok (.iconst 1, 1) := by decide +kernel
theorem dL_law_215 : decode cL_law 215 = .ok (.iadd, 1) := by decide +kernel
theorem dL_law_216 : decode cL_law 216 = .ok (.iaload, 1) := by decide +kernel
theorem dL_law_217 : decode cL_law 217 = .ok (.aload_n 0, 1) := by decide +kernel
theorem dL_law_218 : decode cL_law 218 = .ok (.iload_n 3, 1) := by decide +kernel
theorem dL_law_219 : decode cL_law 219 = .ok (.iconst 2, 1) := by decide +kernel
theorem dL_law_220 : decode cL_law 220 = .ok (.iadd, 1) := by decide +kernel
theorem dL_law_221 : decode cL_law 221 = .ok (.iaload, 1) := by decide +kernel
theorem dL_law_222 : decode cL_law 222 = .ok (.invokevirtual 36, 3) := by decide +kernel
theorem dL_law_225 : decode cL_law 225 = .ok (.aload_n 2, 1) := by decide +kernel
theorem dL_law_226 : decode cL_law 226 = .ok (.aload_n 0, 1) := by decide +kernel
theorem dL_law_227 : decode cL_law 227 = .ok (.iload_n 3, 1) := by decide +kernel
theorem dL_law_228 : decode cL_law 228 = .ok (.iconst 1, 1) := by decide +kernel
theorem dL_law_229 : decode cL_law 229 = .ok (.iadd, 1) := by decide +kernel
theorem dL_law_230 : decode cL_law 230 = .ok (.iaload, 1) := by decide +kernel
theorem dL_law_231 : decode cL_law 231 = .ok (.aload_n 0, 1) := by decide +kernel
theorem dL_law_232 : decode cL_law 232 = .ok (.iload_n 3, 1) := by decide +kernel
theorem dL_law_233 : decode cL_law 233 = .ok (.iconst 2, 1) := by decide +kernel
theorem dL_law_234 : decode cL_law 234 = .ok (.iadd, 1) := by decide +kernel
theorem dL_law_235 : decode cL_law 235 = .ok (.iaload, 1) := by decide +kernel
theorem dL_law_236 : decode cL_law 236 = .ok (.invokevirtual 39, 3) := by decide +kernel
theorem dL_law_239 : decode cL_law 239 = .ok (.if_icmp .eq 318, 3) := by decide +kernel
theorem dL_law_242 : decode cL_law 242 = .ok (.iconst 0, 1) := by decide +kernel
theorem dL_law_243 : decode cL_law 243 = .ok (.ireturn, 1) := by decide +kernel
theorem dL_law_244 : decode cL_law 244 = .ok (.aload_n 1, 1) := by decide +kernel
theorem dL_law_245 : decode cL_law 245 = .ok (.aload_n 0, 1) := by decide +kernel
theorem dL_law_246 : decode cL_law 246 = .ok (.iload_n 3, 1) := by decide +kernel
theorem dL_law_247 : decode cL_law 247 = .ok (.iconst 1, 1) := by decide +kernel
theorem dL_law_248 : decode cL_law 248 = .ok (.iadd, 1) := by decide +kernel
theorem dL_law_249 : decode cL_law 249 = .ok (.iaload, 1) := by decide +kernel
theorem dL_law_250 : decode cL_law 250 = .ok (.aload_n 0, 1) := by decide +kernel
theorem dL_law_251 : decode cL_law 251 = .ok (.iload_n 3, 1) := by decide +kernel
theorem dL_law_252 : decode cL_law 252 = .ok (.iconst 2, 1) := by decide +kernel
theorem dL_law_253 : decode cL_law 253 = .ok (.iadd, 1) := by decide +kernel
theorem dL_law_254 : decode cL_law 254 = .ok (.iaload, 1) := by decide +kernel
theorem dL_law_255 : decode cL_law 255 = .ok (.invokevirtual 40, 3) := by decide +kernel
theorem dL_law_258 : decode cL_law 258 = .ok (.aload_n 2, 1) := by decide +kernel
theorem dL_law_259 : decode cL_law 259 = .ok (.aload_n 0, 1) := by decide +kernel
theorem dL_law_260 : decode cL_law 260 = .ok (.iload_n 3, 1) := by decide +kernel
theorem dL_law_261 : decode cL_law 261 = .ok (.iconst 1, 1) := by decide +kernel
theorem dL_law_262 : decode cL_law 262 = .ok (.iadd, 1) := by decide +kernel
theorem dL_law_263 : decode cL_law 263 = .ok (.iaload, 1) := by decide +kernel
theorem dL_law_264 : decode cL_law 264 = .ok (.aload_n 0, 1) := by decide +kernel
theorem dL_law_265 : decode cL_law 265 = .ok (.iload_n 3, 1) := by decide +kernel
theorem dL_law_266 : decode cL_law 266 = .ok (.iconst 2, 1) := by decide +kernel
theorem dL_law_267 : decode cL_law 267 = .ok (.iadd, 1) := by decide +kernel
theorem dL_law_268 : decode cL_law 268 = .ok (.iaload, 1) := by decide +kernel
theorem dL_law_269 : decode cL_law 269 = .ok (.invokevirtual 43, 3) := by decide +kernel
theorem dL_law_272 : decode cL_law 272 = .ok (.if_icmp .eq 285, 3) := by decide +kernel
theorem dL_law_275 : decode cL_law 275 = .ok (.iconst 0, 1) := by decide +kernel
theorem dL_law_276 : decode cL_law 276 = .ok (.ireturn, 1) := by decide +kernel
theorem dL_law_277 : decode cL_law 277 = .ok (.aload_n 1, 1) := by decide +kernel
theorem dL_law_278 : decode cL_law 278 = .ok (.aload_n 0, 1) := by decide +kernel
theorem dL_law_279 : decode cL_law 279 = .ok (.iload_n 3, 1) := by decide +kernel
theorem dL_law_280 : decode cL_law 280 = .ok (.iconst 1, 1) := by decide +kernel
theorem dL_law_281 : decode cL_law 281 = .ok (.iadd, 1) := by decide +kernel
theorem dL_law_282 : decode cL_law 282 = .ok (.iaload, 1) := by decide +kernel
theorem dL_law_283 : decode cL_law 283 = .ok (.aload_n 0, 1) := by decide +kernel
theorem dL_law_284 : decode cL_law 284 = .ok (.iload_n 3, 1) := by decide +kernel
theorem dL_law_285 : decode cL_law 285 = .ok (.iconst 2, 1) := by decide +kernel
theorem dL_law_286 : decode cL_law 286 = .ok (.iadd, 1) := by decide +kernel
theorem dL_law_287 : decode cL_law 287 = .ok (.iaload, 1) := by decide +kernel
theorem dL_law_288 : decode cL_law 288 = .ok (.invokevirtual 44, 3) := by decide +kernel
theorem dL_law_291 : decode cL_law 291 = .ok (.aload_n 2, 1) := by decide +kernel
theorem dL_law_292 : decode cL_law 292 = .ok (.aload_n 0, 1) := by decide +kernel
theorem dL_law_293 : decode cL_law 293 = .ok (.iload_n 3, 1) := by decide +kernel
theorem dL_law_294 : decode cL_law 294 = .ok (.iconst 1, 1) := by decide +kernel
theorem dL_law_295 : decode cL_law 295 = .ok (.iadd, 1) := by decide +kernel
theorem dL_law_296 : decode cL_law 296 = .ok (.iaload, 1) := by decide +kernel
theorem dL_law_297 : decode cL_law 297 = .ok (.aload_n 0, 1) := by decide +kernel
theorem dL_law_298 : decode cL_law 298 = .ok (.iload_n 3, 1) := by decide +kernel
theorem dL_law_299 : decode cL_law 299 = .ok (.iconst 2, 1) := by decide +kernel
theorem dL_law_300 : decode cL_law 300 = .ok (.iadd, 1) := by decide +kernel
theorem dL_law_301 : decode cL_law 301 = .ok (.iaload, 1) := by decide +kernel
theorem dL_law_302 : decode cL_law 302 = .ok (.invokevirtual 47, 3) := by decide +kernel
theorem dL_law_305 : decode cL_law 305 = .ok (.if_icmp .eq 252, 3) := by decide +kernel
theorem dL_law_308 : decode cL_law 308 = .ok (.iconst 0, 1) := by decide +kernel
theorem dL_law_309 : decode cL_law 309 = .ok (.ireturn, 1) := by decide +kernel
theorem dL_law_310 : decode cL_law 310 = .ok (.aload_n 1, 1) := by decide +kernel
theorem dL_law_311 : decode cL_law 311 = .ok (.aload_n 0, 1) := by decide +kernel
theorem dL_law_312 : decode cL_law 312 = .ok (.iload_n 3, 1) := by decide +kernel
theorem dL_law_313 : decode cL_law 313 = .ok (.iconst 1, 1) := by decide +kernel
theorem dL_law_314 : decode cL_law 314 = .ok (.iadd, 1) := by decide +kernel
theorem dL_law_315 : decode cL_law 315 = .ok (.iaload, 1) := by decide +kernel
theorem dL_law_316 : decode cL_law 316 = .ok (.aload_n 0, 1) := by decide +kernel
theorem dL_law_317 : decode cL_law 317 = .ok (.iload_n 3, 1) := by decide +kernel
theorem dL_law_318 : decode cL_law 318 = .ok (.iconst 2, 1) := by decide +kernel
theorem dL_law_319 : decode cL_law 319 = .ok (.iadd, 1) := by decide +kernel
theorem dL_law_320 : decode cL_law 320 = .ok (.iaload, 1) := by decide +kernel
theorem dL_law_321 : decode cL_law 321 = .ok (.aload_n 0, 1) := by decide +kernel
theorem dL_law_322 : decode cL_law 322 = .ok (.iload_n 3, 1) := by decide +kernel
theorem dL_law_323 : decode cL_law 323 = .ok (.iconst 3, 1) := by decide +kernel
theorem dL_law_324 : decode cL_law 324 = .ok (.iadd, 1) := by decide +kernel
theorem dL_law_325 : decode cL_law 325 = .ok (.iaload, 1) := by decide +kernel
theorem dL_law_326 : decode cL_law 326 = .ok (.invokevirtual 48, 3) := by decide +kernel
theorem dL_law_329 : decode cL_law 329 = .ok (.aload_n 2, 1) := by decide +kernel
theorem dL_law_330 : decode cL_law 330 = .ok (.aload_n 0, 1) := by decide +kernel
theorem dL_law_331 : decode cL_law 331 = .ok (.iload_n 3, 1) := by decide +kernel
theorem dL_law_332 : decode cL_law 332 = .ok (.iconst 1, 1) := by decide +kernel
theorem dL_law_333 : decode cL_law 333 = .ok (.iadd, 1) := by decide +kernel
theorem dL_law_334 : decode cL_law 334 = .ok (.iaload, 1) := by decide +kernel
theorem dL_law_335 : decode cL_law 335 = .ok (.aload_n 0, 1) := by decide +kernel
theorem dL_law_336 : decode cL_law 336 = .ok (.iload_n 3, 1) := by decide +kernel
theorem dL_law_337 : decode cL_law 337 = .ok (.iconst 2, 1) := by decide +kernel
theorem dL_law_338 : decode cL_law 338 = .ok (.iadd, 1) := by decide +kernel
theorem dL_law_339 : decode cL_law 339 = .ok (.iaload, 1) := by decide +kernel
theorem dL_law_340 : decode cL_law 340 = .ok (.aload_n 0, 1) := by decide +kernel
theorem dL_law_341 : decode cL_law 341 = .ok (.iload_n 3, 1) := by decide +kernel
theorem dL_law_342 : decode cL_law 342 = .ok (.iconst 3, 1) := by decide +kernel
theorem dL_law_343 : decode cL_law 343 = .ok (.iadd, 1) := by decide +kernel
theorem dL_law_344 : decode cL_law 344 = .ok (.iaload, 1) := by decide +kernel
theorem dL_law_345 : decode cL_law 345 = .ok (.invokevirtual 52, 3) := by decide +kernel
theorem dL_law_348 : decode cL_law 348 = .ok (.if_icmp .eq 209, 3) := by decide +kernel
theorem dL_law_351 : decode cL_law 351 = .ok (.iconst 0, 1) := by decide +kernel
theorem dL_law_352 : decode cL_law 352 = .ok (.ireturn, 1) := by decide +kernel
theorem dL_law_353 : decode cL_law 353 = .ok (.aload_n 1, 1) := by decide +kernel
theorem dL_law_354 : decode cL_law 354 = .ok (.aload_n 0, 1) := by decide +kernel
theorem dL_law_355 : decode cL_law 355 = .ok (.iload_n 3, 1) := by decide +kernel
theorem dL_law_356 : decode cL_law 356 = .ok (.iconst 1, 1) := by decide +kernel
theorem dL_law_357 : decode cL_law 357 = .ok (.iadd, 1) := by decide +kernel
theorem dL_law_358 : decode cL_law 358 = .ok (.iaload, 1) := by decide +kernel
theorem dL_law_359 : decode cL_law 359 = .ok (.aload_n 0, 1) := by decide +kernel
theorem dL_law_360 : decode cL_law 360 = .ok (.iload_n 3, 1) := by decide +kernel
theorem dL_law_361 : decode cL_law 361 = .ok (.iconst 2, 1) := by decide +kernel
theorem dL_law_362 : decode cL_law 362 = .ok (.iadd, 1) := by decide +kernel
theorem dL_law_363 : decode cL_law 363 = .ok (.iaload, 1) := by decide +kernel
theorem dL_law_364 : decode cL_law 364 = .ok (.invokevirtual 53, 3) := by decide +kernel
theorem dL_law_367 : decode cL_law 367 = .ok (.aload_n 2, 1) := by decide +kernel
theorem dL_law_368 : decode cL_law 368 = .ok (.aload_n 0, 1) := by decide +kernel
theorem dL_law_369 : decode cL_law 369 = .ok (.iload_n 3, 1) := by decide +kernel
theorem dL_law_370 : decode cL_law 370 = .ok (.iconst 1, 1) := by decide +kernel
theorem dL_law_371 : decode cL_law 371 = .ok (.iadd, 1) := by decide +kernel
theorem dL_law_372 : decode cL_law 372 = .ok (.iaload, 1) := by decide +kernel
theorem dL_law_373 : decode cL_law 373 = .ok (.aload_n 0, 1) := by decide +kernel
theorem dL_law_374 : decode cL_law 374 = .ok (.iload_n 3, 1) := by decide +kernel
theorem dL_law_375 : decode cL_law 375 = .ok (.iconst 2, 1) := by decide +kernel
theorem dL_law_376 : decode cL_law 376 = .ok (.iadd, 1) := by decide +kernel
theorem dL_law_377 : decode cL_law 377 = .ok (.iaload, 1) := by decide +kernel
theorem dL_law_378 : decode cL_law 378 = .ok (.invokevirtual 56, 3) := by decide +kernel
theorem dL_law_381 : decode cL_law 381 = .ok (.if_icmp .eq 176, 3) := by decide +kernel
theorem dL_law_384 : decode cL_law 384 = .ok (.iconst 0, 1) := by decide +kernel
theorem dL_law_385 : decode cL_law 385 = .ok (.ireturn, 1) := by decide +kernel
theorem dL_law_386 : decode cL_law 386 = .ok (.aload_n 1, 1) := by decide +kernel
theorem dL_law_387 : decode cL_law 387 = .ok (.aload_n 0, 1) := by decide +kernel
theorem dL_law_388 : decode cL_law 388 = .ok (.iload_n 3, 1) := by decide +kernel
theorem dL_law_389 : decode cL_law 389 = .ok (.iconst 1, 1) := by decide +kernel
theorem dL_law_390 : decode cL_law 390 = .ok (.iadd, 1) := by decide +kernel
theorem dL_law_391 : decode cL_law 391 = .ok (.iaload, 1) := by decide +kernel
theorem dL_law_392 : decode cL_law 392 = .ok (.aload_n 0, 1) := by decide +kernel
theorem dL_law_393 : decode cL_law 393 = .ok (.iload_n 3, 1) := by decide +kernel
theorem dL_law_394 : decode cL_law 394 = .ok (.iconst 2, 1) := by decide +kernel
theorem dL_law_395 : decode cL_law 395 = .ok (.iadd, 1) := by decide +kernel
theorem dL_law_396 : decode cL_law 396 = .ok (.iaload, 1) := by decide +kernel
theorem dL_law_397 : decode cL_law 397 = .ok (.invokevirtual 57, 3) := by decide +kernel
theorem dL_law_400 : decode cL_law 400 = .ok (.aload_n 2, 1) := by decide +kernel
theorem dL_law_401 : decode cL_law 401 = .ok (.aload_n 0, 1) := by decide +kernel
theorem dL_law_402 : decode cL_law 402 = .ok (.iload_n 3, 1) := by decide +kernel
theorem dL_law_403 : decode cL_law 403 = .ok (.iconst 1, 1) := by decide +kernel
theorem dL_law_404 : decode cL_law 404 = .ok (.iadd, 1) := by decide +kernel
theorem dL_law_405 : decode cL_law 405 = .ok (.iaload, 1) := by decide +kernel
theorem dL_law_406 : decode cL_law 406 = .ok (.aload_n 0, 1) := by decide +kernel
theorem dL_law_407 : decode cL_law 407 = .ok (.iload_n 3, 1) := by decide +kernel
theorem dL_law_408 : decode cL_law 408 = .ok (.iconst 2, 1) := by decide +kernel
theorem dL_law_409 : decode cL_law 409 = .ok (.iadd, 1) := by decide +kernel
theorem dL_law_410 : decode cL_law 410 = .ok (.iaload, 1) := by decide +kernel
theorem dL_law_411 : decode cL_law 411 = .ok (.invokevirtual 60, 3) := by decide +kernel
theorem dL_law_414 : decode cL_law 414 = .ok (.if_icmp .eq 143, 3) := by decide +kernel
theorem dL_law_417 : decode cL_law 417 = .ok (.iconst 0, 1) := by decide +kernel
theorem dL_law_418 : decode cL_law 418 = .ok (.ireturn, 1) := by decide +kernel
theorem dL_law_419 : decode cL_law 419 = .ok (.aload_n 1, 1) := by decide +kernel
theorem dL_law_420 : decode cL_law 420 = .ok (.aload_n 0, 1) := by decide +kernel
theorem dL_law_421 : decode cL_law 421 = .ok (.iload_n 3, 1) := by decide +kernel
theorem dL_law_422 : decode cL_law 422 = .ok (.iconst 1, 1) := by decide +kernel
theorem dL_law_423 : decode cL_law 423 = .ok (.iadd, 1) := by decide +kernel
theorem dL_law_424 : decode cL_law 424 = .ok (.iaload, 1) := by decide +kernel
theorem dL_law_425 : decode cL_law 425 = .ok (.invokevirtual 61, 3) := by decide +kernel
theorem dL_law_428 : decode cL_law 428 = .ok (.aload_n 2, 1) := by decide +kernel
theorem dL_law_429 : decode cL_law 429 = .ok (.aload_n 0, 1) := by decide +kernel
theorem dL_law_430 : decode cL_law 430 = .ok (.iload_n 3, 1) := by decide +kernel
theorem dL_law_431 : decode cL_law 431 = .ok (.iconst 1, 1) := by decide +kernel
theorem dL_law_432 : decode cL_law 432 = .ok (.iadd, 1) := by decide +kernel
theorem dL_law_433 : decode cL_law 433 = .ok (.iaload, 1) := by decide +kernel
theorem dL_law_434 : decode cL_law 434 = .ok (.invokevirtual 64, 3) := by decide +kernel
theorem dL_law_437 : decode cL_law 437 = .ok (.if_icmp .eq 120, 3) := by decide +kernel
theorem dL_law_440 : decode cL_law 440 = .ok (.iconst 0, 1) := by decide +kernel
theorem dL_law_441 : decode cL_law 441 = .ok (.ireturn, 1) := by decide +kernel
theorem dL_law_442 : decode cL_law 442 = .ok (.aload_n 1, 1) := by decide +kernel
theorem dL_law_443 : decode cL_law 443 = .ok (.aload_n 0, 1) := by decide +kernel
theorem dL_law_444 : decode cL_law 444 = .ok (.iload_n 3, 1) := by decide +kernel
theorem dL_law_445 : decode cL_law 445 = .ok (.iconst 1, 1) := by decide +kernel
theorem dL_law_446 : decode cL_law 446 = .ok (.iadd, 1) := by decide +kernel
theorem dL_law_447 : decode cL_law 447 = .ok (.iaload, 1) := by decide +kernel
theorem dL_law_448 : decode cL_law 448 = .ok (.invokevirtual 65, 3) := by decide +kernel
theorem dL_law_451 : decode cL_law 451 = .ok (.aload_n 2, 1) := by decide +kernel
theorem dL_law_452 : decode cL_law 452 = .ok (.aload_n 0, 1) := by decide +kernel
theorem dL_law_453 : decode cL_law 453 = .ok (.iload_n 3, 1) := by decide +kernel
theorem dL_law_454 : decode cL_law 454 = .ok (.iconst 1, 1) := by decide +kernel
theorem dL_law_455 : decode cL_law 455 = .ok (.iadd, 1) := by decide +kernel
theorem dL_law_456 : decode cL_law 456 = .ok (.iaload, 1) := by decide +kernel
theorem dL_law_457 : decode cL_law 457 = .ok (.invokevirtual 68, 3) := by decide +kernel
theorem dL_law_460 : decode cL_law 460 = .ok (.if_icmp .eq 97, 3) := by decide +kernel
theorem dL_law_463 : decode cL_law 463 = .ok (.iconst 0, 1) := by decide +kernel
theorem dL_law_464 : decode cL_law 464 = .ok (.ireturn, 1) := by decide +kernel
theorem dL_law_465 : decode cL_law 465 = .ok (.aload_n 1, 1) := by decide +kernel
theorem dL_law_466 : decode cL_law 466 = .ok (.aload_n 0, 1) := by decide +kernel
theorem dL_law_467 : decode cL_law 467 = .ok (.iload_n 3, 1) := by decide +kernel
theorem dL_law_468 : decode cL_law 468 = .ok (.iconst 1, 1) := by decide +kernel
theorem dL_law_469 : decode cL_law 469 = .ok (.iadd, 1) := by decide +kernel
theorem dL_law_470 : decode cL_law 470 = .ok (.iaload, 1) := by decide +kernel
theorem dL_law_471 : decode cL_law 471 = .ok (.invokevirtual 69, 3) := by decide +kernel
theorem dL_law_474 : decode cL_law 474 = .ok (.aload_n 2, 1) := by decide +kernel
theorem dL_law_475 : decode cL_law 475 = .ok (.aload_n 0, 1) := by decide +kernel
theorem dL_law_476 : decode cL_law 476 = .ok (.iload_n 3, 1) := by decide +kernel
theorem dL_law_477 : decode cL_law 477 = .ok (.iconst 1, 1) := by decide +kernel
theorem dL_law_478 : decode cL_law 478 = .ok (.iadd, 1) := by decide +kernel
theorem dL_law_479 : decode cL_law 479 = .ok (.iaload, 1) := by decide +kernel
theorem dL_law_480 : decode cL_law 480 = .ok (.invokevirtual 72, 3) := by decide +kernel
theorem dL_law_483 : decode cL_law 483 = .ok (.if_icmp .eq 74, 3) := by decide +kernel
theorem dL_law_486 : decode cL_law 486 = .ok (.iconst 0, 1) := by decide +kernel
theorem dL_law_487 : decode cL_law 487 = .ok (.ireturn, 1) := by decide +kernel
theorem dL_law_488 : decode cL_law 488 = .ok (.aload_n 1, 1) := by decide +kernel
theorem dL_law_489 : decode cL_law 489 = .ok (.aload_n 0, 1) := by decide +kernel
theorem dL_law_490 : decode cL_law 490 = .ok (.iload_n 3, 1) := by decide +kernel
theorem dL_law_491 : decode cL_law 491 = .ok (.iconst 1, 1) := by decide +kernel
theorem dL_law_492 : decode cL_law 492 = .ok (.iadd, 1) := by decide +kernel
theorem dL_law_493 : decode cL_law 493 = .ok (.iaload, 1) := by decide +kernel
theorem dL_law_494 : decode cL_law 494 = .ok (.invokevirtual 73, 3) := by decide +kernel
theorem dL_law_497 : decode cL_law 497 = .ok (.aload_n 2, 1) := by decide +kernel
theorem dL_law_498 : decode cL_law 498 = .ok (.aload_n 0, 1) := by decide +kernel
theorem dL_law_499 : decode cL_law 499 = .ok (.iload_n 3, 1) := by decide +kernel
theorem dL_law_500 : decode cL_law 500 = .ok (.iconst 1, 1) := by decide +kernel
theorem dL_law_501 : decode cL_law 501 = .ok (.iadd, 1) := by decide +kernel
theorem dL_law_502 : decode cL_law 502 = .ok (.iaload, 1) := by decide +kernel
theorem dL_law_503 : decode cL_law 503 = .ok (.invokevirtual 76, 3) := by decide +kernel
theorem dL_law_506 : decode cL_law 506 = .ok (.if_icmp .eq 51, 3) := by decide +kernel
theorem dL_law_509 : decode cL_law 509 = .ok (.iconst 0, 1) := by decide +kernel
theorem dL_law_510 : decode cL_law 510 = .ok (.ireturn, 1) := by decide +kernel
theorem dL_law_511 : decode cL_law 511 = .ok (.aload_n 1, 1) := by decide +kernel
theorem dL_law_512 : decode cL_law 512 = .ok (.aload_n 0, 1) := by decide +kernel
theorem dL_law_513 : decode cL_law 513 = .ok (.iload_n 3, 1) := by decide +kernel
theorem dL_law_514 : decode cL_law 514 = .ok (.iconst 1, 1) := by decide +kernel
theorem dL_law_515 : decode cL_law 515 = .ok (.iadd, 1) := by decide +kernel
theorem dL_law_516 : decode cL_law 516 = .ok (.iaload, 1) := by decide +kernel
theorem dL_law_517 : decode cL_law 517 = .ok (.invokevirtual 77, 3) := by decide +kernel
theorem dL_law_520 : decode cL_law 520 = .ok (.aload_n 2, 1) := by decide +kernel
theorem dL_law_521 : decode cL_law 521 = .ok (.aload_n 0, 1) := by decide +kernel
theorem dL_law_522 : decode cL_law 522 = .ok (.iload_n 3, 1) := by decide +kernel
theorem dL_law_523 : decode cL_law 523 = .ok (.iconst 1, 1) := by decide +kernel
theorem dL_law_524 : decode cL_law 524 = .ok (.iadd, 1) := by decide +kernel
theorem dL_law_525 : decode cL_law 525 = .ok (.iaload, 1) := by decide +kernel
theorem dL_law_526 : decode cL_law 526 = .ok (.invokevirtual 80, 3) := by decide +kernel
theorem dL_law_529 : decode cL_law 529 = .ok (.if_icmp .eq 28, 3) := by decide +kernel
theorem dL_law_532 : decode cL_law 532 = .ok (.iconst 0, 1) := by decide +kernel
theorem dL_law_533 : decode cL_law 533 = .ok (.ireturn, 1) := by decide +kernel
theorem dL_law_534 : decode cL_law 534 = .ok (.aload_n 1, 1) := by decide +kernel
theorem dL_law_535 : decode cL_law 535 = .ok (.aload_n 0, 1) := by decide +kernel
theorem dL_law_536 : decode cL_law 536 = .ok (.iload_n 3, 1) := by decide +kernel
theorem dL_law_537 : decode cL_law 537 = .ok (.iconst 1, 1) := by decide +kernel
theorem dL_law_538 : decode cL_law 538 = .ok (.iadd, 1) := by decide +kernel
theorem dL_law_539 : decode cL_law 539 = .ok (.iaload, 1) := by decide +kernel
theorem dL_law_540 : decode cL_law 540 = .ok (.invokevirtual 81, 3) := by decide +kernel
theorem dL_law_543 : decode cL_law 543 = .ok (.aload_n 2, 1) := by decide +kernel
theorem dL_law_544 : decode cL_law 544 = .ok (.aload_n 0, 1) := by decide +kernel
theorem dL_law_545 : decode cL_law 545 = .ok (.iload_n 3, 1) := by decide +kernel
theorem dL_law_546 : decode cL_law 546 = .ok (.iconst 1, 1) := by decide +kernel
theorem dL_law_547 : decode cL_law 547 = .ok (.iadd, 1) := by decide +kernel
theorem dL_law_548 : decode cL_law 548 = .ok (.iaload, 1) := by decide +kernel
theorem dL_law_549 : decode cL_law 549 = .ok (.invokevirtual 84, 3) := by decide +kernel
theorem dL_law_552 : decode cL_law 552 = .ok (.if_icmp .eq 5, 3) := by decide +kernel
theorem dL_law_555 : decode cL_law 555 = .ok (.iconst 0, 1) := by decide +kernel
theorem dL_law_556 : decode cL_law 556 = .ok (.ireturn, 1) := by decide +kernel
theorem dL_law_557 : decode cL_law 557 = .ok (.iinc 3 4, 3) := by decide +kernel
theorem dL_law_560 : decode cL_law 560 = .ok (.goto (-542), 3) := by decide +kernel
theorem dL_law_563 : decode cL_law 563 = .ok (.iconst 1, 1) := by decide +kernel
theorem dL_law_564 : decode cL_law 564 = .ok (.ireturn, 1) := by decide +kernel
abbrev vwCl : List vw_C := [(RX0, TX0, 4), (RX1, TX1, 9), (RX2, TX2, 2), (RX3, TX3, 6), (RX4, TX4, 12)]
end
section
/-! my own base: pure states, worlds, contracts' forms, and the kit's rows turned to them -/
abbrev Ob : Type := Nat → Nat → Int32
abbrev GT : Type := va_G × (Nat → ClassId)
def tysG (G : GT) : List (ClassId × FieldType) := [(G.2 0, .int), (G.2 1, .boolean), (G.2 2, .object "HeadMarks$Book"), (G.2 3, .array .int)]
def ldI (f : Nat → Int32) (n : Nat) (i : Int32) : Option Int32 := if i < 0 ∨ n ≤ i.toNatClampNeg then none else some (f i.toNatClampNeg)
def stO (L : Ob) (k n : Nat) (i x : Int32) : Option Ob := if i < 0 ∨ n ≤ i.toNatClampNeg then none else some (va_up L k (upd (L k) i.toNatClampNeg x))
def puO (L : Ob) (k : Nat) (x : Int32) : Ob := va_up L k (fun _ => x)
def bind2 {α β γ : Type} (o : Option (α × β)) (f : α → β → Option γ) : Option γ := match o with
  | none => none
  | some q => f q.1 q.2
theorem ldI_spec {f : Nat → Int32} {n : Nat} {i v : Int32} (h : ldI f n i = some v) : vp_in i n ∧ f i.toNatClampNeg = v := by
  unfold ldI at h
  split at h
  · cases h
  · rename_i q; exact ⟨q, Option.some.inj h⟩
theorem stO_spec {L L1 : Ob} {k n : Nat} {i x : Int32} (h : stO L k n i x = some L1) : vp_in i n ∧ va_up L k (upd (L k) i.toNatClampNeg x) = L1 := by
  unfold stO at h
  split at h
  · cases h
  · rename_i q; exact ⟨q, Option.some.inj h⟩
theorem bd {α β : Type} {o : Option α} {f : α → Option β} {x : β} (h : o.bind f = some x) : ∃ a, o = some a ∧ f a = some x := by
  cases o with
  | none => cases h
  | some a => exact ⟨a, rfl, h⟩
theorem bd2 {α β γ : Type} {o : Option (α × β)} {f : α → β → Option γ} {x : γ} (h : bind2 o f = some x) : ∃ a b, o = some (a, b) ∧ f a b = some x := by
  cases o with
  | none => cases h
  | some q => exact ⟨q.1, q.2, rfl, h⟩
theorem it_pos {α : Type} {c : Prop} [Decidable c] {a b x : α} (h : c) (e : (if c then a else b) = x) : a = x := by rw [if_pos h] at e; exact e
theorem it_neg {α : Type} {c : Prop} [Decidable c] {a b x : α} (h : ¬ c) (e : (if c then a else b) = x) : b = x := by rw [if_neg h] at e; exact e
theorem si {α : Type} {a b : α} (h : some a = some b) : a = b := Option.some.inj h
theorem si2 {α β : Type} {a c : α} {b d : β} (h : some (a, b) = some (c, d)) : a = c ∧ b = d := by cases h; exact ⟨rfl, rfl⟩
theorem tb_out {x : Int32} {n : Nat} (hn : n < 100) (h : ∀ k : Nat, k < n → ¬ x = nI k) {hi : Int} (hh : hi + 1 = n) : x.toInt < 0 ∨ hi < x.toInt := by
  by_cases h1 : x.toInt < 0
  · exact Or.inl h1
  · right
    by_cases h2 : hi < x.toInt
    · exact h2
    · exfalso
      obtain ⟨k, hk⟩ : ∃ k : Nat, x.toInt = (k : Int) := ⟨x.toInt.toNat, by omega⟩
      refine h k (by omega) ?_
      rw [← Int32.toInt_inj, nI_toInt (by omega)]
      exact hk
-- worlds
def gr2 (a : Nat → Nat) (k : Nat) : Nat → Option Nat := fun i => if i < 2 then some (a (k + i)) else none
def cI (G : GT) (a n : Nat) (f : Nat → Int32) : Nat × va_E := (a, .inl (G.2 0, n, .inl f))
def wPad (G : GT) (a : Nat → Nat) (P : Ob) : va_W := [(a 0, .inr (2, [.ref (a 1), .int (P 1 0)])), (a 1, .inl (G.2 0, 60, .inl (P 0)))]
def wBook (G : GT) (a : Nat → Nat) (B : Ob) : va_W := [(a 0, .inr (0, [.ref (a 1), .ref (a 2), .ref (a 3), .int (B 3 0)])), (a 1, .inl (G.2 0, 60, .inl (B 0))), (a 2, .inl (G.2 0, 60, .inl (B 1))), (a 3, .inl (G.2 0, 9, .inl (B 2)))]
def wLay (G : GT) (a : Nat → Nat) (L : Ob) : va_W := [(a 0, .inr (1, [.ref (a 1), .ref (a 2), .ref (a 3), .ref (a 6), .ref (a 7), .ref (a 8), .ref (a 11), .int (L 9 0), .int (L 10 0)])),
  (a 1, .inl (G.2 0, 60, .inl (L 0))), (a 2, .inl (G.2 0, 60, .inl (L 1))), (a 3, .inl (G.2 3, 2, .inr (.inr (.inr (.inr (gr2 a 4)))))), (a 4, .inl (G.2 0, 60, .inl (L 2))), (a 5, .inl (G.2 0, 60, .inl (L 3))),
  (a 6, .inl (G.2 0, 120, .inl (L 4))), (a 7, .inl (G.2 0, 120, .inl (L 5))), (a 8, .inl (G.2 3, 2, .inr (.inr (.inr (.inr (gr2 a 9)))))), (a 9, .inl (G.2 0, 120, .inl (L 6))), (a 10, .inl (G.2 0, 120, .inl (L 7))), (a 11, .inl (G.2 0, 120, .inl (L 8)))]
def wMod (G : GT) (a : Nat → Nat) (M : Ob) : va_W := [(a 0, .inr (4, [.ref (a 1), .ref (a 2), .ref (a 3), .ref (a 4), .int (M 4 0), .ref (a 5), .ref (a 6), .ref (a 7), .ref (a 8), .ref (a 9), .int (M 10 0), .ref (a 10)])),
  (a 1, .inl (G.2 0, 130, .inl (M 0))), (a 2, .inl (G.2 0, 260, .inl (M 1))), (a 3, .inl (G.2 1, 2, .inl (M 2))), (a 4, .inl (G.2 0, 60, .inl (M 3))), (a 5, .inl (G.2 0, 60, .inl (M 5))), (a 6, .inl (G.2 0, 60, .inl (M 6))),
  (a 7, .inl (G.2 0, 120, .inl (M 7))), (a 8, .inl (G.2 0, 130, .inl (M 8))), (a 9, .inl (G.2 0, 130, .inl (M 9))), (a 10, .inl (G.2 0, 130, .inl (M 11)))]
def wH0 (G : GT) (a : Nat → Nat → Nat) (k : Int32) : va_W := [(a 0 0, .inr (3, [.ref (a 1 0), .ref (a 2 0), .ref (a 0 1), .int k, .ref (a 5 0), .ref (a 6 0)])), (a 0 1, .inl (G.2 2, 2, .inr (.inr (.inr (.inr (fun i => if i < 2 then some (a (3 + i) 0) else none))))))]
def wHM (G : GT) (a : Nat → Nat → Nat) (S : Nat → Ob) : va_W := wH0 G a (S 0 0 0) ++ (wPad G (a 1) (S 1) ++ (wBook G (a 2) (S 2) ++ (wBook G (a 3) (S 3) ++ (wBook G (a 4) (S 4) ++ (wLay G (a 5) (S 5) ++ wLay G (a 6) (S 6))))))
-- what holds of the tables besides the words
def Nx (U : State) : Prop := va_Nw (.methodLinkNest RX2 19 yX3_classOf RX3) U ∧ va_Nw (.methodLinkNest RX1 66 yX3_classOf RX3) U ∧ va_Nw (.methodLinkNest RX0 51 yX3_classOf RX3) U ∧ va_Nw (.fieldLinkNest RX0 45 "HeadMarks" "RULE_LEAST" "[I" "HeadMarks") U ∧ va_Nw (.fieldLinkNest RX0 48 "HeadMarks" "RULE_MOST" "[I" "HeadMarks") U
def Cx (G : GT) (U : State) : Prop := va_K G.1 vwCl (tysG G) U ∧ Nx U
theorem Nx.warm {s U : State} (hW : s.WarmedH U.vm) (h : Nx s) : Nx U := ⟨h.1.warmM hW, h.2.1.warmM hW, h.2.2.1.warmM hW, h.2.2.2.1.warmF hW, h.2.2.2.2.warmF hW⟩
theorem Nx.same {u U : State} (e : u.vm = U.vm) (h : Nx u) : Nx U := ⟨h.1.same rfl e, h.2.1.same rfl e, h.2.2.1.same rfl e, h.2.2.2.1.same rfl e, h.2.2.2.2.same rfl e⟩
theorem Cx.warm {G : GT} {s U : State} (hW : s.WarmedH U.vm) (h : Cx G s) : Cx G U := ⟨va_K.moved hW.alike h.1, h.2.warm hW⟩
theorem Cx.same {G : GT} {u U : State} (e : u.vm = U.vm) (h : Cx G u) : Cx G U := ⟨va_K.moved (by rw [e]; exact Vm.Alike.refl U.vm) h.1, h.2.same e⟩
-- the forms of contracts
def PreR (G : GT) (av : List Value) (w : va_W) : Array Value → State → Prop := va_Pc av (fun U => va_P G.1 vwCl w U.heap ∧ Cx G U)
def PreW (G : GT) (av : List Value) (w : va_W) (sz : Nat) : Array Value → State → Prop := va_Pc av (fun U => U.heap.size = sz ∧ va_P G.1 vwCl w U.heap ∧ Cx G U ∧ va_D (fun _ => True) w)
def QI (G : GT) (r0 : Int32) (w' : va_W) (A : Nat → Prop) : Array Value → State → Outcome → State → Prop := va_Qi (fun r (_ : Unit) => r = r0) (fun _ t => va_P G.1 vwCl w' t.heap ∧ va_D A w') A
def QV (G : GT) (w' : va_W) (A : Nat → Prop) : Array Value → State → Outcome → State → Prop := va_Qv (fun (_ : Unit) => True) (fun _ t => va_P G.1 vwCl w' t.heap ∧ va_D A w') A
def Ri (r0 : Int32) : Array Value → State → Outcome → State → Prop := vp_Si (fun r => r = r0)
def Rz (r0 : Int32) : Array Value → State → Outcome → State → Prop := vp_Si (fun r => r = r0 ∧ narrow .boolean (.int r) = .int r)
theorem PreR.blind {G : GT} {av : List Value} {w : va_W} : FrameBlind (PreR G av w) := fun a U g mk q => ⟨q.1, q.2.1, Cx.same (u := U) (U := U.calling g mk a) rfl q.2.2⟩
theorem PreW.blind {G : GT} {av : List Value} {w : va_W} {sz : Nat} : FrameBlind (PreW G av w sz) := fun a U g mk q => ⟨q.1, q.2.1, q.2.2.1, Cx.same (u := U) (U := U.calling g mk a) rfl q.2.2.2.1, q.2.2.2.2⟩
def tLeast : Nat → Int32 := fun j => if j = 0 then 2 else 0
def tMost : Nat → Int32 := fun j => ([9, 2, 2, 1, 1, 1, 1, 2, 2] : List Int32).getD j 0
def T1 (t : Nat → Nat) (A : Nat → Prop) (U : State) (H : Heap) : Prop := va_Z "HeadMarks" "RULE_LEAST" "[I" (.ref (t 1)) A U H ∧ va_T .int (t 1) 9 (fun j => .int (tLeast j)) A U H
def T2 (t : Nat → Nat) (A : Nat → Prop) (U : State) (H : Heap) : Prop := va_Z "HeadMarks" "RULE_MOST" "[I" (.ref (t 2)) A U H ∧ va_T .int (t 2) 9 (fun j => .int (tMost j)) A U H
theorem T1.moved {t : Nat → Nat} {A : Nat → Prop} {u U : State} {H : Heap} (hvm : u.vm.Alike U.vm) (h : T1 t A u H) : T1 t A U H := ⟨h.1.moved hvm, h.2.moved hvm⟩
theorem T2.moved {t : Nat → Nat} {A : Nat → Prop} {u U : State} {H : Heap} (hvm : u.vm.Alike U.vm) (h : T2 t A u H) : T2 t A U H := ⟨h.1.moved hvm, h.2.moved hvm⟩
def PreT (G : GT) (t : Nat → Nat) (av : List Value) (w : va_W) : Array Value → State → Prop := va_Pc av (fun U => va_P G.1 vwCl w U.heap ∧ Cx G U ∧ T1 t (fun _ => False) U U.heap ∧ T2 t (fun _ => False) U U.heap)
def PreU (G : GT) (t : Nat → Nat) (av : List Value) (w : va_W) (sz : Nat) : Array Value → State → Prop := va_Pc av (fun U => U.heap.size = sz ∧ va_P G.1 vwCl w U.heap ∧ Cx G U ∧ va_D (fun _ => True) w ∧ T1 t (va_A w sz) U U.heap ∧ T2 t (va_A w sz) U U.heap)
theorem PreT.blind {G : GT} {t : Nat → Nat} {av : List Value} {w : va_W} : FrameBlind (PreT G t av w) := fun a U g mk q => ⟨q.1, q.2.1, Cx.same (u := U) (U := U.calling g mk a) rfl q.2.2.1, T1.moved (u := U) (U := U.calling g mk a) (Vm.Alike.refl U.vm) q.2.2.2.1, T2.moved (u := U) (U := U.calling g mk a) (Vm.Alike.refl U.vm) q.2.2.2.2⟩
theorem PreU.blind {G : GT} {t : Nat → Nat} {av : List Value} {w : va_W} {sz : Nat} : FrameBlind (PreU G t av w sz) := fun a U g mk q => ⟨q.1, q.2.1, q.2.2.1, Cx.same (u := U) (U := U.calling g mk a) rfl q.2.2.2.1, q.2.2.2.2.1, T1.moved (u := U) (U := U.calling g mk a) (Vm.Alike.refl U.vm) q.2.2.2.2.2.1, T2.moved (u := U) (U := U.calling g mk a) (Vm.Alike.refl U.vm) q.2.2.2.2.2.2⟩
section YROWS
variable {p : Program} {l : Launch} {e : Env} {R : Room} {s : State} {m : MethodId} {args : Array Value} {below : List Frame} {meth : Method} {c : Code} {H : Heap} {locs : List Loc} {cells slots : Nat} {Q : State → Prop}
variable {cc : ByteArray} {pc : Nat} {ls : Array Slot} {rest st0 : List Value} {D : va_G} {cl : List vw_C} {A : Nat → Prop} {a : Nat} {tys : List (ClassId × FieldType)} {ws : va_W} {H0 : Heap}
theorem y_preR {G : GT} {av : List Value} {w : va_W} (hC : Cx G s) (hP : va_P G.1 vwCl w H) : ∀ U : State, U.heap = H → s.WarmedH U.vm → PreR G av w av.toArray U := fun U hU hW => ⟨rfl, by rw [hU]; exact hP, hC.warm hW⟩
theorem y_preW {G : GT} {av : List Value} {w : va_W} (hC : Cx G s) (hP : va_P G.1 vwCl w H) (hD : va_D A w) : ∀ U : State, U.heap = H → s.WarmedH U.vm → PreW G av w H.size av.toArray U := fun U hU hW => ⟨rfl, by rw [hU], by rw [hU]; exact hP, hC.warm hW, hD.weaken (fun _ _ _ _ => trivial)⟩
theorem y_ro {v : Int32} {av : Array Value} (hr : va_Run p l e R s m args below meth c H locs cells slots 0 0 (F0 m pc ls st0) rest (Ri v av) (fun _ => False)) (kk : W p l e R s m args below meth c H locs cells slots Q (F0 m (pc + 3) ls (.int v :: rest))) : W p l e R s m args below meth c H locs cells slots Q (F0 m pc ls st0) := by
  intro T hT X
  obtain ⟨v', st₀, t, T', L, h0, X', hL, e1, e2, ⟨r, hv, hp, hh⟩, st⟩ := hr T hT X
  cases hv
  have hp : r = v := hp
  subst hp
  obtain ⟨t2, a1, b1⟩ := kk T' (by rw [e1, hh, h0]) (Stand.forget X' (fun q h => (hL q h).elim))
  exact ⟨t2, st t2 a1, b1⟩
theorem y_roz {v : Int32} {av : Array Value} (hr : va_Run p l e R s m args below meth c H locs cells slots 0 0 (F0 m pc ls st0) rest (Rz v av) (fun _ => False)) (kk : narrow .boolean (.int v) = .int v → W p l e R s m args below meth c H locs cells slots Q (F0 m (pc + 3) ls (.int v :: rest))) : W p l e R s m args below meth c H locs cells slots Q (F0 m pc ls st0) := by
  intro T hT X
  obtain ⟨v', st₀, t, T', L, h0, X', hL, e1, e2, ⟨r, hv, ⟨hp, hz⟩, hh⟩, st⟩ := hr T hT X
  cases hv
  have hp : r = v := hp
  subst hp
  obtain ⟨t2, a1, b1⟩ := kk hz T' (by rw [e1, hh, h0]) (Stand.forget X' (fun q h => (hL q h).elim))
  exact ⟨t2, st t2 a1, b1⟩
theorem y_rwi {G : GT} {v : Int32} {w w' : va_W} {av : Array Value} (hr : va_Run p l e R s m args below meth c H locs cells slots 0 0 (F0 m pc ls st0) rest (QI G v w' (va_A w H.size) av) (va_A w H.size)) (hS : va_S A H0 H locs) (hF : ∀ q, va_A w H.size q → A q)
    (kk : ∀ (H1 : Heap) (locs1 : List Loc), va_P G.1 vwCl w' H1 → va_D (va_A w H.size) w' → (∀ q : Nat, q < H.size → ¬ va_A w H.size q → H1[q]? = H[q]?) → va_S A H0 H1 locs1 → W p l e R s m args below meth c H1 locs1 cells slots Q (F0 m (pc + 3) ls (.int v :: rest))) : W p l e R s m args below meth c H locs cells slots Q (F0 m pc ls st0) :=
  va_calli hr hS (fun q _ h => hF q h) hF (fun r u t H1 locs1 ht _ hp hB _ hk hS1 => by
    have hp : r = v := hp
    subst hp
    rw [ht] at hB
    exact kk H1 locs1 hB.1 hB.2 hk hS1)
theorem y_rwv {G : GT} {w w' : va_W} {av : Array Value} (hr : va_Run p l e R s m args below meth c H locs cells slots 0 0 (F0 m pc ls st0) rest (QV G w' (va_A w H.size) av) (va_A w H.size)) (hS : va_S A H0 H locs) (hF : ∀ q, va_A w H.size q → A q)
    (kk : ∀ (H1 : Heap) (locs1 : List Loc), va_P G.1 vwCl w' H1 → va_D (va_A w H.size) w' → (∀ q : Nat, q < H.size → ¬ va_A w H.size q → H1[q]? = H[q]?) → va_S A H0 H1 locs1 → W p l e R s m args below meth c H1 locs1 cells slots Q (F0 m (pc + 3) ls rest)) : W p l e R s m args below meth c H locs cells slots Q (F0 m pc ls st0) :=
  va_callv hr hS (fun q _ h => hF q h) hF (fun u t H1 locs1 ht _ _ hB _ hk hS1 => by
    rw [ht] at hB
    exact kk H1 locs1 hB.1 hB.2 hk hS1)
theorem y_all (hD : va_D A ws) (hS : va_S A H0 H locs) (hA : ∀ q, H0.size ≤ q → A q) : ∀ q, va_A ws H.size q → A q := by
  intro q h
  rcases h with ⟨k, e, hk⟩ | h
  · exact hD.2 k (q, e) hk
  · exact hA q (Nat.le_trans hS.1 h)
theorem y_ald (hexec : p.tables.exec = Jvm.exec) (hb : c.code = cc) (hK : va_K D cl tys s) (hP : va_P D cl ws H) (q0 t0 : Nat) {cA : ClassId} {n : Nat} {f : Nat → Int32} (ha : ws[q0]? = some (a, .inl (cA, n, .inl f))) (ht : tys[t0]? = some (cA, .int)) {i v : Int32} (hv : ldI f n i = some v) (hdg : decode cc pc = .ok (.iaload, 1))
    (kk : W p l e R s m args below meth c H locs cells slots Q (F0 m (pc + 1) ls (.int v :: rest))) : W p l e R s m args below meth c H locs cells slots Q (F0 m pc ls (.int i :: .ref a :: rest)) := by
  obtain ⟨h1, h2⟩ := ldI_spec hv
  exact va_iald hexec hb hK hP q0 t0 ha ht h1 hdg (by rw [h2]; exact kk)
theorem y_zld (hexec : p.tables.exec = Jvm.exec) (hb : c.code = cc) (hK : va_K D cl tys s) (hP : va_P D cl ws H) (q0 t0 : Nat) {cA : ClassId} {n : Nat} {f : Nat → Int32} (ha : ws[q0]? = some (a, .inl (cA, n, .inl f))) (ht : tys[t0]? = some (cA, .boolean)) {i v : Int32} (hv : ldI f n i = some v) (hdg : decode cc pc = .ok (.baload, 1))
    (kk : W p l e R s m args below meth c H locs cells slots Q (F0 m (pc + 1) ls (.int v :: rest))) : W p l e R s m args below meth c H locs cells slots Q (F0 m pc ls (.int i :: .ref a :: rest)) := by
  obtain ⟨h1, h2⟩ := ldI_spec hv
  exact va_zald hexec hb hK hP q0 t0 ha ht h1 hdg (by rw [h2]; exact kk)
theorem y_aald (hexec : p.tables.exec = Jvm.exec) (hb : c.code = cc) (hK : va_K D cl tys s) (hP : va_P D cl ws H) (q0 t0 : Nat) {cA : ClassId} {T0 : FieldType} {n : Nat} {f : Nat → Option Nat} (ha : ws[q0]? = some (a, .inl (cA, n, .inr (.inr (.inr (.inr f)))))) (ht : tys[t0]? = some (cA, T0)) (hT : T0.isReference = true) {i : Int32} (hin : vp_in i n) {v : Nat} (hv : f i.toNatClampNeg = some v) (hdg : decode cc pc = .ok (.aaload, 1))
    (kk : W p l e R s m args below meth c H locs cells slots Q (F0 m (pc + 1) ls (.ref v :: rest))) : W p l e R s m args below meth c H locs cells slots Q (F0 m pc ls (.int i :: .ref a :: rest)) := by
  have hlt : i.toNatClampNeg < n := Nat.not_le.mp fun q => hin (Or.inr q)
  exact W.aald (v := .ref v) (ty := T0) hexec hb (hP q0 _ ha) ((hK.2 t0 _ ht).1 n (fun j => va_rf (f j))) hT (fun q => by cases q) (by show ¬ (i < 0 ∨ (arrV _ _ _).slots.size ≤ _); rw [arrV_size]; exact hin) (by show (arrV _ _ _).slots[_]? = _; rw [arrV_read _ _ hlt, hv]; rfl) rfl rfl hdg kk
theorem y_preT {G : GT} {t : Nat → Nat} {av : List Value} {w : va_W} (hC : Cx G s) (hP : va_P G.1 vwCl w H) (h1 : T1 t A s s.heap) (h2 : T2 t A s s.heap) (hS : va_S A s.heap H locs) : ∀ U : State, U.heap = H → s.WarmedH U.vm → PreT G t av w av.toArray U := fun U hU hW =>
  ⟨rfl, by rw [hU]; exact hP, hC.warm hW, by rw [hU]; exact T1.moved hW.alike ⟨(h1.1.kept hS.2.1).narrow (fun _ h => h.elim), (h1.2.kept hS.2.1).narrow (fun _ h => h.elim)⟩, by rw [hU]; exact T2.moved hW.alike ⟨(h2.1.kept hS.2.1).narrow (fun _ h => h.elim), (h2.2.kept hS.2.1).narrow (fun _ h => h.elim)⟩⟩
theorem y_tab (hexec : p.tables.exec = Jvm.exec) (hb : c.code = cc) {t N : Nat} {f : Nat → Int32} (hT : va_T .int t N (fun j => .int (f j)) A s s.heap) (hS : va_S A s.heap H locs) {i v : Int32} (hv : ldI f N i = some v) (hdg : decode cc pc = .ok (.iaload, 1))
    (kk : W p l e R s m args below meth c H locs cells slots Q (F0 m (pc + 1) ls (.int v :: rest))) : W p l e R s m args below meth c H locs cells slots Q (F0 m pc ls (.int i :: .ref t :: rest)) := by
  obtain ⟨h1, h2⟩ := ldI_spec hv
  exact va_ti hexec hb hT hS h1 (by rw [h2]) hdg kk
end YROWS
end
section
def p_X3_classOf_14  (x0 : Int32)  : Option (Int32) := (if x0 < 97 then (some (-6)) else (if 104 < x0 then (some (-6)) else (some 1)))
def p_X3_classOf  (u0 : Int32)  : Option (Int32) := (if u0 < 65 then p_X3_classOf_14 u0 else (if 72 < u0 then p_X3_classOf_14 u0 else (some 0)))
abbrev rmX3_classOf : Room := { frames := 0, cells := 0, slots := 0, locals := 0 }
set_option maxHeartbeats 4000000 in
set_option maxRecDepth 100000 in
theorem c_X3_classOf (l : Launch) (G : GT) (u0 : Int32) (r0 : Int32) (hrun : p_X3_classOf u0 = some r0) : Met l yX3_classOf wsX3_classOf rmX3_classOf (PreR G [.int u0] ([])) (Ri r0) 0 0 (fun _ => False) := by
  refine Met.ofW (cc := cX3_classOf) (maxL := 1) (ret := (some .int)) (by decide) rfl ?_
  intro p e s m args below meth c s₁ Bd hml hv
  obtain ⟨rfl, hP, hC⟩ := hv
  have hx := Bd.exec
  have hb := Bd.bytes
  have hr := Bd.returns
  have hts := atoms_spec (ws := wsX3_classOf) Bd.pre
  have hown : s.vm.findClass RX3 = some m.cls := findClass_of_methodNamed Bd.named
  have hlocks := Bd.notSynchronized
  have hK := hC.1
  have kJ_14 : ∀ (x0 : Int32) , ∀ (ls : Array Slot), lv_has ls 1 [(0, .int x0)] → p_X3_classOf_14 x0 = some r0 → W p l e (headSpec wsX3_classOf rmX3_classOf).room s m ([.int u0] : List Value).toArray below meth c s.heap [] 0 0 (MQ below (Ri r0) ([.int u0] : List Value).toArray s 0 0 (fun _ => False)) (F0 m 14 ls []) := by
    intro x0 ls hl hrun
    rw [p_X3_classOf_14] at hrun
    refine lv_iload_n hx hb dX3_classOf_14 rfl (lv_at hl 0 rfl) ?_
    refine lv_bipush (v := 97) hx hb dX3_classOf_15 (by decide) ?_
    refine lv_icmp_lt (tgt := 30) hx hb dX3_classOf_17 (by decide) (fun c_3 => ?_) (fun c_3 => ?_)
    · replace hrun := it_pos c_3 hrun
      refine lv_bipush (v := -6) hx hb dX3_classOf_30 (by decide) ?_
      exact W.iret (v := (-6)) hx hb hr (fun t ht hW => ⟨(-6), rfl, si hrun, ht⟩) (fun _ h => absurd h List.not_mem_nil) dX3_classOf_32
    · replace hrun := it_neg c_3 hrun
      refine lv_iload_n hx hb dX3_classOf_20 rfl (lv_at hl 0 rfl) ?_
      refine lv_bipush (v := 104) hx hb dX3_classOf_21 (by decide) ?_
      refine lv_icmp_gt (tgt := 30) hx hb dX3_classOf_23 (by decide) (fun c_4 => ?_) (fun c_4 => ?_)
      · replace hrun := it_pos c_4 hrun
        refine lv_bipush (v := -6) hx hb dX3_classOf_30 (by decide) ?_
        exact W.iret (v := (-6)) hx hb hr (fun t ht hW => ⟨(-6), rfl, si hrun, ht⟩) (fun _ h => absurd h List.not_mem_nil) dX3_classOf_32
      · replace hrun := it_neg c_4 hrun
        refine lv_iconst (v := 1) hx hb dX3_classOf_26 (by decide) ?_
        refine lv_goto (tgt := 32) hx hb dX3_classOf_27 (by decide) ?_
        exact W.iret (v := 1) hx hb hr (fun t ht hW => ⟨1, rfl, si hrun, ht⟩) (fun _ h => absurd h List.not_mem_nil) dX3_classOf_32
  have hl := lv_entry [.int u0] (n := 1) (Nat.le_of_ble_eq_true rfl)
  rw [lg_entry_eq]
  generalize (lg_sl [.int u0] ++ List.replicate (1 - (lg_sl [.int u0]).length) Slot.unset).toArray = ls at hl ⊢
  have hl : lv_has ls 1 [(0, .int u0)] := hl
  rw [p_X3_classOf] at hrun
  refine lv_iload_n hx hb dX3_classOf_0 rfl (lv_at hl 0 rfl) ?_
  refine lv_bipush (v := 65) hx hb dX3_classOf_1 (by decide) ?_
  refine lv_icmp_lt (tgt := 14) hx hb dX3_classOf_3 (by decide) (fun c_1 => ?_) (fun c_1 => ?_)
  · replace hrun := it_pos c_1 hrun
    exact kJ_14 u0  ls (lv_sub hl [0] rfl) hrun
  · replace hrun := it_neg c_1 hrun
    refine lv_iload_n hx hb dX3_classOf_6 rfl (lv_at hl 0 rfl) ?_
    refine lv_bipush (v := 72) hx hb dX3_classOf_7 (by decide) ?_
    refine lv_icmp_gt (tgt := 14) hx hb dX3_classOf_9 (by decide) (fun c_2 => ?_) (fun c_2 => ?_)
    · replace hrun := it_pos c_2 hrun
      exact kJ_14 u0  ls (lv_sub hl [0] rfl) hrun
    · replace hrun := it_neg c_2 hrun
      refine lv_iconst (v := 0) hx hb dX3_classOf_12 (by decide) ?_
      exact W.iret (v := 0) hx hb hr (fun t ht hW => ⟨0, rfl, si hrun, ht⟩) (fun _ h => absurd h List.not_mem_nil) dX3_classOf_13
def p_X2_append  (u1 : Int32) (P : Ob) : Option (Ob) := (if 60 ≤ (P 1 0) then (some P) else ((stO P 0 60 (P 1 0) u1).bind fun N_2 => ((some (puO N_2 1 ((N_2 1 0) + 1))).bind fun P_4 => (some P_4))))
abbrev rmX2_append : Room := { frames := 0, cells := 0, slots := 0, locals := 0 }
set_option maxHeartbeats 4000000 in
set_option maxRecDepth 100000 in
theorem c_X2_append (l : Launch) (G : GT) (ap : Nat → Nat) (P : Ob) (u1 : Int32) (sz : Nat) (P0 : Ob) (hrun : p_X2_append u1 P = some P0) : Met l yX2_append wsX2_append rmX2_append (PreW G [.ref (ap 0), .int u1] (wPad G ap P) sz) (QV G (wPad G ap P0) (va_A (wPad G ap P) sz)) 0 0 (va_A (wPad G ap P) sz) := by
  refine Met.ofW (cc := cX2_append) (maxL := 2) (ret := none) (by decide) rfl ?_
  intro p e s m args below meth c s₁ Bd hml hv
  obtain ⟨rfl, hsz, hP, hC, hD0⟩ := hv
  have hx := Bd.exec
  have hb := Bd.bytes
  have hr := Bd.returns
  have hts := atoms_spec (ws := wsX2_append) Bd.pre
  have hown : s.vm.findClass RX2 = some m.cls := findClass_of_methodNamed Bd.named
  have hlocks := Bd.notSynchronized
  have hK := hC.1
  have iwX2 : ∀ w ∈ wsX20, w ∈ wsX2_append := by decide +kernel
  have ha0 := hts (.fieldLink RX2 15 "HeadMarks$Pad" "size" "I") (by decide +kernel)
  have ha1 := hts (.fieldLink RX2 9 "HeadMarks$Pad" "signs" "[I") (by decide +kernel)
  subst hsz
  have hD := hD0.self (sz := s.heap.size)
  generalize hAe : va_A (wPad G ap P) s.heap.size = A at hD ⊢
  have hA : ∀ q : Nat, s.heap.size ≤ q → A q := fun q h => by rw [← hAe]; exact Or.inr h
  have hS : va_S A s.heap s.heap [] := va_S.rf
  have hl := lv_entry [.ref (ap 0), .int u1] (n := 2) (Nat.le_of_ble_eq_true rfl)
  rw [lg_entry_eq]
  generalize (lg_sl [.ref (ap 0), .int u1] ++ List.replicate (2 - (lg_sl [.ref (ap 0), .int u1]).length) Slot.unset).toArray = ls at hl ⊢
  have hl : lv_has ls 2 [(0, .ref (ap 0)), (1, .int u1)] := hl
  rw [p_X2_append] at hrun
  refine lv_aload_n hx hb dX2_append_0 rfl (lv_at hl 0 rfl) ?_
  refine va_get (D := G.1) (ci := 2) (v := .int (P 1 0)) (C := RX2) (T := TX2) (N := 2) hx hb hts iwX2 hown hK hP 0 rfl rfl 1 (by decide) ha0 (fun _ h9 => h9) rfl dX2_append_1 ?_
  refine lv_bipush (v := 60) hx hb dX2_append_4 (by decide) ?_
  refine lv_icmp_ge (tgt := 29) hx hb dX2_append_6 (by decide) (fun c_1 => ?_) (fun c_1 => ?_)
  · replace hrun := it_pos c_1 hrun
    have hr2 := si hrun
    exact W.vret hx hb hr (fun t ht hW => ⟨⟨(), rfl, trivial, by rw [ht, ← hr2]; exact hP, by rw [← hr2]; exact hD⟩, hS.F ht⟩) hS.2.2 dX2_append_29
  · replace hrun := it_neg c_1 hrun
    refine lv_aload_n hx hb dX2_append_9 rfl (lv_at hl 0 rfl) ?_
    refine va_get (D := G.1) (ci := 2) (v := .ref (ap 1)) (C := RX2) (T := TX2) (N := 2) hx hb hts iwX2 hown hK hP 0 rfl rfl 0 (by decide) ha1 (fun _ h9 => h9) rfl dX2_append_10 ?_
    refine lv_aload_n hx hb dX2_append_13 rfl (lv_at hl 0 rfl) ?_
    refine va_get (D := G.1) (ci := 2) (v := .int (P 1 0)) (C := RX2) (T := TX2) (N := 2) hx hb hts iwX2 hown hK hP 0 rfl rfl 1 (by decide) ha0 (fun _ h9 => h9) rfl dX2_append_14 ?_
    refine lv_iload_n hx hb dX2_append_17 rfl (lv_at hl 1 rfl) ?_
    obtain ⟨N_2, e_3, hrun⟩ := bd hrun
    replace e_3 := stO_spec e_3
    refine va_iast hx hb hK hP hD hS 1 0 rfl rfl e_3.1 dX2_append_18 (fun H locs hP hD hS => ?_)
    replace hP : va_P G.1 vwCl (wPad G ap N_2) H := by rw [← e_3.2]; exact hP
    replace hD : va_D A (wPad G ap N_2) := by rw [← e_3.2]; exact hD
    refine lv_aload_n hx hb dX2_append_19 rfl (lv_at hl 0 rfl) ?_
    refine lv_dup hx hb dX2_append_20 rfl ?_
    refine va_get (D := G.1) (ci := 2) (v := .int (N_2 1 0)) (C := RX2) (T := TX2) (N := 2) hx hb hts iwX2 hown hK hP 0 rfl rfl 1 (by decide) ha0 (fun _ h9 => h9) rfl dX2_append_21 ?_
    refine lv_iconst (v := 1) hx hb dX2_append_24 (by decide) ?_
    refine lv_iadd hx hb dX2_append_25 ?_
    obtain ⟨P_4, e_5, hrun⟩ := bd hrun
    replace e_5 := si e_5
    refine va_put (D := G.1) (ci := 2) (v := .int ((N_2 1 0) + 1)) (ty := .int) (C := RX2) (T := TX2) (N := 2) hx hb hts iwX2 tyX2 tyX2_ok nmX2 hown hK hP hD hS 0 rfl rfl 1 (by decide) ha0 (fun _ h9 => h9) rfl (by decide +kernel) rfl rfl (Nat.le_of_ble_eq_true rfl) dX2_append_26 (fun H locs hP hD hS => ?_)
    replace hP : va_P G.1 vwCl (wPad G ap P_4) H := by rw [← e_5]; exact hP
    replace hD : va_D A (wPad G ap P_4) := by rw [← e_5]; exact hD
    have hr2 := si hrun
    exact W.vret hx hb hr (fun t ht hW => ⟨⟨(), rfl, trivial, by rw [ht, ← hr2]; exact hP, by rw [← hr2]; exact hD⟩, hS.F ht⟩) hS.2.2 dX2_append_29
def p_X2_faultPlace_79 (P : Ob) (K : Int32 → Int32 → Option (Int32)) (x2 : Int32) (x3 : Int32)  : Option (Int32) := K x3 (x2 + 1)
def p_X2_faultPlace_59 (P : Ob) (K : Int32 → Int32 → Option (Int32)) (x1 : Int32) (x2 : Int32) (x3 : Int32) (y0 : Int32)  : Option (Int32) := (if x3 = 0 then (if y0 = 0 then (some x2) else p_X2_faultPlace_79 P K x2 x3) else (if x1 = 0 then p_X2_faultPlace_79 P K x2 x3 else (some x2)))
def p_X2_faultPlace_54 (P : Ob) (K : Int32 → Int32 → Option (Int32)) (x1 : Int32) (x2 : Int32) (x3 : Int32)  : Option (Int32) := p_X2_faultPlace_59 P K x1 x2 x3 1
def p_X2_faultPlace_28 (P : Ob) (K : Int32 → Int32 → Option (Int32)) (x1 : Int32) (x2 : Int32) (y0 : Int32)  : Option (Int32) := ((ldI (P 0) 60 x2).bind fun v_7 => (if v_7 = 46 then p_X2_faultPlace_54 P K x1 x2 y0 else ((ldI (P 0) 60 x2).bind fun v_10 => ((p_X3_classOf v_10).bind fun v_12 => (if v_12 = (-6) then p_X2_faultPlace_59 P K x1 x2 y0 0 else p_X2_faultPlace_54 P K x1 x2 y0)))))
def p_X2_faultPlace_4 (P : Ob) : Nat → Int32 → Int32 → Option (Int32)
  | 0, _, _ => none
  | n + 1, x1, x2 => (if (P 1 0) ≤ x2 then (if (P 1 0) ≤ 0 then (some (-6)) else (if x1 = 0 then (some (-6)) else (some (P 1 0)))) else ((ldI (P 0) 60 x2).bind fun v_4 => (if v_4 = 47 then p_X2_faultPlace_28 P (p_X2_faultPlace_4 P n) x1 x2 1 else p_X2_faultPlace_28 P (p_X2_faultPlace_4 P n) x1 x2 0)))
def p_X2_faultPlace (P : Ob)   : Option (Int32) := p_X2_faultPlace_4 P 200 1 0
abbrev rmX2_faultPlace : Room := { frames := 1, cells := 0, slots := 0, locals := 20 }
set_option maxHeartbeats 4000000 in
set_option maxRecDepth 100000 in
theorem c_X2_faultPlace (l : Launch) (G : GT) (ap : Nat → Nat) (P : Ob) (r0 : Int32) (hrun : p_X2_faultPlace P = some r0) : Met l yX2_faultPlace wsX2_faultPlace rmX2_faultPlace (PreR G [.ref (ap 0)] (wPad G ap P)) (Ri r0) 0 0 (fun _ => False) := by
  refine Met.ofW (cc := cX2_faultPlace) (maxL := 5) (ret := (some .int)) (by decide) rfl ?_
  intro p e s m args below meth c s₁ Bd hml hv
  obtain ⟨rfl, hP, hC⟩ := hv
  have hx := Bd.exec
  have hb := Bd.bytes
  have hr := Bd.returns
  have hts := atoms_spec (ws := wsX2_faultPlace) Bd.pre
  have hown : s.vm.findClass RX2 = some m.cls := findClass_of_methodNamed Bd.named
  have hlocks := Bd.notSynchronized
  have hK := hC.1
  have iwX2 : ∀ w ∈ wsX20, w ∈ wsX2_faultPlace := by decide +kernel
  have ha0 := hts (.fieldLink RX2 15 "HeadMarks$Pad" "size" "I") (by decide +kernel)
  have ha1 := hts (.fieldLink RX2 9 "HeadMarks$Pad" "signs" "[I") (by decide +kernel)
  have ha2 := hts (.initialized RX3) (by decide +kernel)
  have ha3 := hts (.static yX3_classOf) (by decide +kernel)
  have kH_4 : ∀ (n : Nat) (x1 x2 : Int32) , ∀ (ls : Array Slot), lv_has ls 5 [(0, .ref (ap 0)), (1, .int x1), (2, .int x2)] → p_X2_faultPlace_4 P n x1 x2 = some r0 → W p l e (headSpec wsX2_faultPlace rmX2_faultPlace).room s m ([.ref (ap 0)] : List Value).toArray below meth c s.heap [] 0 0 (MQ below (Ri r0) ([.ref (ap 0)] : List Value).toArray s 0 0 (fun _ => False)) (F0 m 4 ls []) := by
    intro n
    induction n with
    | zero => intro x1 x2 ls hl hrun; exact absurd (hrun : (none : Option (Int32)) = some r0) (fun h => by cases h)
    | succ n ih =>
      have kJ_79 : ∀ (x2 x3 : Int32) , ∀ (ls : Array Slot), lv_has ls 5 [(0, .ref (ap 0)), (2, .int x2), (3, .int x3)] → p_X2_faultPlace_79 P (p_X2_faultPlace_4 P n) x2 x3 = some r0 → W p l e (headSpec wsX2_faultPlace rmX2_faultPlace).room s m ([.ref (ap 0)] : List Value).toArray below meth c s.heap [] 0 0 (MQ below (Ri r0) ([.ref (ap 0)] : List Value).toArray s 0 0 (fun _ => False)) (F0 m 79 ls []) := by
        intro x2 x3 ls hl hrun
        rw [p_X2_faultPlace_79] at hrun
        refine lv_iload_n hx hb dX2_faultPlace_79 rfl (lv_at hl 2 rfl) ?_
        refine lv_istore_n (lv' := [(1, .int x3), (0, .ref (ap 0)), (2, .int x2), (3, .int x3)]) hx hb dX2_faultPlace_80 rfl hl (by decide) rfl (fun ls hl => ?_)
        refine lv_iinc (v := (x2 + 1)) (lv' := [(2, .int (x2 + 1)), (1, .int x3), (0, .ref (ap 0)), (3, .int x3)]) hx hb dX2_faultPlace_81 hl (k := 2) rfl rfl (by decide) rfl (fun ls hl => ?_)
        refine lv_goto (tgt := 4) hx hb dX2_faultPlace_84 (by decide) ?_
        exact ih x3 (x2 + 1)  ls (lv_sub hl [2, 1, 0] rfl) hrun
      have kJ_59 : ∀ (x1 x2 x3 y0 : Int32) , ∀ (ls : Array Slot), lv_has ls 5 [(0, .ref (ap 0)), (1, .int x1), (2, .int x2), (3, .int x3)] → p_X2_faultPlace_59 P (p_X2_faultPlace_4 P n) x1 x2 x3 y0 = some r0 → W p l e (headSpec wsX2_faultPlace rmX2_faultPlace).room s m ([.ref (ap 0)] : List Value).toArray below meth c s.heap [] 0 0 (MQ below (Ri r0) ([.ref (ap 0)] : List Value).toArray s 0 0 (fun _ => False)) (F0 m 59 ls [.int y0]) := by
        intro x1 x2 x3 y0 ls hl hrun
        rw [p_X2_faultPlace_59] at hrun
        refine lv_istore (lv' := [(4, .int y0), (0, .ref (ap 0)), (1, .int x1), (2, .int x2), (3, .int x3)]) hx hb dX2_faultPlace_59 hl (by decide) rfl (fun ls hl => ?_)
        refine lv_iload_n hx hb dX2_faultPlace_61 rfl (lv_at hl 4 rfl) ?_
        refine lv_if_eq (tgt := 72) hx hb dX2_faultPlace_62 (by decide) (fun c_15 => ?_) (fun c_15 => ?_)
        · replace hrun := it_pos c_15 hrun
          refine lv_iload hx hb dX2_faultPlace_72 (lv_at hl 0 rfl) ?_
          refine lv_if_ne (tgt := 79) hx hb dX2_faultPlace_74 (by decide) (fun c_16 => ?_) (fun c_16 => ?_)
          · replace hrun := it_neg c_16 hrun
            exact kJ_79 x2 x3  ls (lv_sub hl [1, 3, 4] rfl) hrun
          · replace hrun := it_pos c_16 hrun
            refine lv_iload_n hx hb dX2_faultPlace_77 rfl (lv_at hl 3 rfl) ?_
            exact W.iret (v := x2) hx hb hr (fun t ht hW => ⟨x2, rfl, si hrun, ht⟩) (fun _ h => absurd h List.not_mem_nil) dX2_faultPlace_78
        · replace hrun := it_neg c_15 hrun
          refine lv_iload_n hx hb dX2_faultPlace_65 rfl (lv_at hl 2 rfl) ?_
          refine lv_if_eq (tgt := 79) hx hb dX2_faultPlace_66 (by decide) (fun c_17 => ?_) (fun c_17 => ?_)
          · replace hrun := it_pos c_17 hrun
            exact kJ_79 x2 x3  ls (lv_sub hl [1, 3, 4] rfl) hrun
          · replace hrun := it_neg c_17 hrun
            refine lv_goto (tgt := 77) hx hb dX2_faultPlace_69 (by decide) ?_
            refine lv_iload_n hx hb dX2_faultPlace_77 rfl (lv_at hl 3 rfl) ?_
            exact W.iret (v := x2) hx hb hr (fun t ht hW => ⟨x2, rfl, si hrun, ht⟩) (fun _ h => absurd h List.not_mem_nil) dX2_faultPlace_78
      have kJ_54 : ∀ (x1 x2 x3 : Int32) , ∀ (ls : Array Slot), lv_has ls 5 [(0, .ref (ap 0)), (1, .int x1), (2, .int x2), (3, .int x3)] → p_X2_faultPlace_54 P (p_X2_faultPlace_4 P n) x1 x2 x3 = some r0 → W p l e (headSpec wsX2_faultPlace rmX2_faultPlace).room s m ([.ref (ap 0)] : List Value).toArray below meth c s.heap [] 0 0 (MQ below (Ri r0) ([.ref (ap 0)] : List Value).toArray s 0 0 (fun _ => False)) (F0 m 54 ls []) := by
        intro x1 x2 x3 ls hl hrun
        rw [p_X2_faultPlace_54] at hrun
        refine lv_iconst (v := 1) hx hb dX2_faultPlace_54 (by decide) ?_
        refine lv_goto (tgt := 59) hx hb dX2_faultPlace_55 (by decide) ?_
        exact kJ_59 x1 x2 x3 1  ls (lv_sub hl [0, 1, 2, 3] rfl) hrun
      have kJ_28 : ∀ (x1 x2 y0 : Int32) , ∀ (ls : Array Slot), lv_has ls 5 [(0, .ref (ap 0)), (1, .int x1), (2, .int x2)] → p_X2_faultPlace_28 P (p_X2_faultPlace_4 P n) x1 x2 y0 = some r0 → W p l e (headSpec wsX2_faultPlace rmX2_faultPlace).room s m ([.ref (ap 0)] : List Value).toArray below meth c s.heap [] 0 0 (MQ below (Ri r0) ([.ref (ap 0)] : List Value).toArray s 0 0 (fun _ => False)) (F0 m 28 ls [.int y0]) := by
        intro x1 x2 y0 ls hl hrun
        rw [p_X2_faultPlace_28] at hrun
        refine lv_istore_n (lv' := [(3, .int y0), (0, .ref (ap 0)), (1, .int x1), (2, .int x2)]) hx hb dX2_faultPlace_28 rfl hl (by decide) rfl (fun ls hl => ?_)
        refine lv_aload_n hx hb dX2_faultPlace_29 rfl (lv_at hl 1 rfl) ?_
        refine va_get (D := G.1) (ci := 2) (v := .ref (ap 1)) (C := RX2) (T := TX2) (N := 2) hx hb hts iwX2 hown hK hP 0 rfl rfl 0 (by decide) ha1 (fun _ h9 => h9) rfl dX2_faultPlace_30 ?_
        refine lv_iload_n hx hb dX2_faultPlace_33 rfl (lv_at hl 3 rfl) ?_
        obtain ⟨v_7, e_8, hrun⟩ := bd hrun
        refine y_ald hx hb hK hP 1 0 rfl rfl e_8 dX2_faultPlace_34 ?_
        refine lv_bipush (v := 46) hx hb dX2_faultPlace_35 (by decide) ?_
        refine lv_icmp_eq (tgt := 54) hx hb dX2_faultPlace_37 (by decide) (fun c_9 => ?_) (fun c_9 => ?_)
        · replace hrun := it_pos c_9 hrun
          exact kJ_54 x1 x2 y0  ls (lv_sub hl [1, 2, 3, 0] rfl) hrun
        · replace hrun := it_neg c_9 hrun
          refine lv_aload_n hx hb dX2_faultPlace_40 rfl (lv_at hl 1 rfl) ?_
          refine va_get (D := G.1) (ci := 2) (v := .ref (ap 1)) (C := RX2) (T := TX2) (N := 2) hx hb hts iwX2 hown hK hP 0 rfl rfl 0 (by decide) ha1 (fun _ h9 => h9) rfl dX2_faultPlace_41 ?_
          refine lv_iload_n hx hb dX2_faultPlace_44 rfl (lv_at hl 3 rfl) ?_
          obtain ⟨v_10, e_11, hrun⟩ := bd hrun
          refine y_ald hx hb hK hP 1 0 rfl rfl e_11 dX2_faultPlace_45 ?_
          obtain ⟨v_12, e_13, hrun⟩ := bd hrun
          refine y_ro (va_runSN (As := [.int v_10]) (rest := []) ⟨hx, hb, hml, hown, hts⟩ (c_X3_classOf l G   v_10 v_12 e_13) ⟨va_cnB 1 hts ggX2_faultPlace_X3_classOf rfl rfl rfl hC.2.1 ha2 (by decide +kernel) ⟨Nat.le_of_ble_eq_true rfl, Nat.le_of_ble_eq_true rfl⟩, ha3, trivial⟩ ⟨PreR.blind, y_preR hC (fun _ _ h => by cases h)⟩ rfl rfl hl.1 rfl (lv_room (Nat.le_of_ble_eq_true rfl)) dX2_faultPlace_46 ⟨Nat.zero_le _, Nat.zero_le _⟩) ?_
          refine lv_bipush (v := -6) hx hb dX2_faultPlace_49 (by decide) ?_
          refine lv_icmp_eq (tgt := 58) hx hb dX2_faultPlace_51 (by decide) (fun c_14 => ?_) (fun c_14 => ?_)
          · replace hrun := it_pos c_14 hrun
            refine lv_iconst (v := 0) hx hb dX2_faultPlace_58 (by decide) ?_
            exact kJ_59 x1 x2 y0 0  ls (lv_sub hl [1, 2, 3, 0] rfl) hrun
          · replace hrun := it_neg c_14 hrun
            exact kJ_54 x1 x2 y0  ls (lv_sub hl [1, 2, 3, 0] rfl) hrun
      intro x1 x2 ls hl hrun
      rw [p_X2_faultPlace_4] at hrun
      refine lv_iload_n hx hb dX2_faultPlace_4 rfl (lv_at hl 2 rfl) ?_
      refine lv_aload_n hx hb dX2_faultPlace_5 rfl (lv_at hl 0 rfl) ?_
      refine va_get (D := G.1) (ci := 2) (v := .int (P 1 0)) (C := RX2) (T := TX2) (N := 2) hx hb hts iwX2 hown hK hP 0 rfl rfl 1 (by decide) ha0 (fun _ h9 => h9) rfl dX2_faultPlace_6 ?_
      refine lv_icmp_ge (tgt := 87) hx hb dX2_faultPlace_9 (by decide) (fun c_1 => ?_) (fun c_1 => ?_)
      · replace hrun := it_pos c_1 hrun
        refine lv_aload_n hx hb dX2_faultPlace_87 rfl (lv_at hl 0 rfl) ?_
        refine va_get (D := G.1) (ci := 2) (v := .int (P 1 0)) (C := RX2) (T := TX2) (N := 2) hx hb hts iwX2 hown hK hP 0 rfl rfl 1 (by decide) ha0 (fun _ h9 => h9) rfl dX2_faultPlace_88 ?_
        refine lv_if_le (tgt := 105) hx hb dX2_faultPlace_91 (by decide) (fun c_2 => ?_) (fun c_2 => ?_)
        · replace hrun := it_pos c_2 hrun
          refine lv_bipush (v := -6) hx hb dX2_faultPlace_105 (by decide) ?_
          exact W.iret (v := (-6)) hx hb hr (fun t ht hW => ⟨(-6), rfl, si hrun, ht⟩) (fun _ h => absurd h List.not_mem_nil) dX2_faultPlace_107
        · replace hrun := it_neg c_2 hrun
          refine lv_iload_n hx hb dX2_faultPlace_94 rfl (lv_at hl 1 rfl) ?_
          refine lv_if_eq (tgt := 105) hx hb dX2_faultPlace_95 (by decide) (fun c_3 => ?_) (fun c_3 => ?_)
          · replace hrun := it_pos c_3 hrun
            refine lv_bipush (v := -6) hx hb dX2_faultPlace_105 (by decide) ?_
            exact W.iret (v := (-6)) hx hb hr (fun t ht hW => ⟨(-6), rfl, si hrun, ht⟩) (fun _ h => absurd h List.not_mem_nil) dX2_faultPlace_107
          · replace hrun := it_neg c_3 hrun
            refine lv_aload_n hx hb dX2_faultPlace_98 rfl (lv_at hl 0 rfl) ?_
            refine va_get (D := G.1) (ci := 2) (v := .int (P 1 0)) (C := RX2) (T := TX2) (N := 2) hx hb hts iwX2 hown hK hP 0 rfl rfl 1 (by decide) ha0 (fun _ h9 => h9) rfl dX2_faultPlace_99 ?_
            refine lv_goto (tgt := 107) hx hb dX2_faultPlace_102 (by decide) ?_
            exact W.iret (v := (P 1 0)) hx hb hr (fun t ht hW => ⟨(P 1 0), rfl, si hrun, ht⟩) (fun _ h => absurd h List.not_mem_nil) dX2_faultPlace_107
      · replace hrun := it_neg c_1 hrun
        refine lv_aload_n hx hb dX2_faultPlace_12 rfl (lv_at hl 0 rfl) ?_
        refine va_get (D := G.1) (ci := 2) (v := .ref (ap 1)) (C := RX2) (T := TX2) (N := 2) hx hb hts iwX2 hown hK hP 0 rfl rfl 0 (by decide) ha1 (fun _ h9 => h9) rfl dX2_faultPlace_13 ?_
        refine lv_iload_n hx hb dX2_faultPlace_16 rfl (lv_at hl 2 rfl) ?_
        obtain ⟨v_4, e_5, hrun⟩ := bd hrun
        refine y_ald hx hb hK hP 1 0 rfl rfl e_5 dX2_faultPlace_17 ?_
        refine lv_bipush (v := 47) hx hb dX2_faultPlace_18 (by decide) ?_
        refine lv_icmp_ne (tgt := 27) hx hb dX2_faultPlace_20 (by decide) (fun c_6 => ?_) (fun c_6 => ?_)
        · replace hrun := it_neg c_6 hrun
          refine lv_iconst (v := 0) hx hb dX2_faultPlace_27 (by decide) ?_
          exact kJ_28 x1 x2 0  ls (lv_sub hl [0, 1, 2] rfl) hrun
        · replace hrun := it_pos c_6 hrun
          refine lv_iconst (v := 1) hx hb dX2_faultPlace_23 (by decide) ?_
          refine lv_goto (tgt := 28) hx hb dX2_faultPlace_24 (by decide) ?_
          exact kJ_28 x1 x2 1  ls (lv_sub hl [0, 1, 2] rfl) hrun
  have hl := lv_entry [.ref (ap 0)] (n := 5) (Nat.le_of_ble_eq_true rfl)
  rw [lg_entry_eq]
  generalize (lg_sl [.ref (ap 0)] ++ List.replicate (5 - (lg_sl [.ref (ap 0)]).length) Slot.unset).toArray = ls at hl ⊢
  have hl : lv_has ls 5 [(0, .ref (ap 0))] := hl
  rw [p_X2_faultPlace] at hrun
  refine lv_iconst (v := 1) hx hb dX2_faultPlace_0 (by decide) ?_
  refine lv_istore_n (lv' := [(1, .int 1), (0, .ref (ap 0))]) hx hb dX2_faultPlace_1 rfl hl (by decide) rfl (fun ls hl => ?_)
  refine lv_iconst (v := 0) hx hb dX2_faultPlace_2 (by decide) ?_
  refine lv_istore_n (lv' := [(2, .int 0), (1, .int 1), (0, .ref (ap 0))]) hx hb dX2_faultPlace_3 rfl hl (by decide) rfl (fun ls hl => ?_)
  exact kH_4 200 1 0  ls (lv_sub hl [2, 1, 0] rfl) hrun
def p_X0_takeText_70 (P : Ob) (K : Int32 → Int32 → Ob → Option (Ob)) (x2 : Int32) (x3 : Int32) (B : Ob) : Option (Ob) := K x2 (x3 + 1) B
def p_X0_takeText_9 (P : Ob) : Nat → Int32 → Int32 → Ob → Option (Ob)
  | 0, _, _, _ => none
  | n + 1, x2, x3, B => (if (P 1 0) ≤ x3 then (some B) else ((ldI (P 0) 60 x3).bind fun v_4 => (if v_4 = 47 then p_X0_takeText_70 P (p_X0_takeText_9 P n) 1 x3 B else ((ldI (P 0) 60 x3).bind fun v_7 => ((stO B 0 60 (B 3 0) v_7).bind fun N_9 => ((stO N_9 1 60 (N_9 3 0) x2).bind fun N_11 => ((some (puO N_11 3 ((N_11 3 0) + 1))).bind fun B_13 => p_X0_takeText_70 P (p_X0_takeText_9 P n) 0 x3 B_13)))))))
def p_X0_takeText (P : Ob)  (B : Ob) : Option (Ob) := ((some (puO B 3 0)).bind fun B_1 => p_X0_takeText_9 P 200 0 0 B_1)
abbrev rmX0_takeText : Room := { frames := 0, cells := 0, slots := 0, locals := 0 }
set_option maxHeartbeats 4000000 in
set_option maxRecDepth 100000 in
theorem c_X0_takeText (l : Launch) (G : GT) (ab ap : Nat → Nat) (B P : Ob) (sz : Nat) (B0 : Ob) (hrun : p_X0_takeText P B = some B0) : Met l yX0_takeText wsX0_takeText rmX0_takeText (PreW G [.ref (ab 0), .ref (ap 0)] (wBook G ab B ++ wPad G ap P) sz) (QV G (wBook G ab B0 ++ wPad G ap P) (va_A (wBook G ab B ++ wPad G ap P) sz)) 0 0 (va_A (wBook G ab B ++ wPad G ap P) sz) := by
  refine Met.ofW (cc := cX0_takeText) (maxL := 4) (ret := none) (by decide) rfl ?_
  intro p e s m args below meth c s₁ Bd hml hv
  obtain ⟨rfl, hsz, hP, hC, hD0⟩ := hv
  have hx := Bd.exec
  have hb := Bd.bytes
  have hr := Bd.returns
  have hts := atoms_spec (ws := wsX0_takeText) Bd.pre
  have hown : s.vm.findClass RX0 = some m.cls := findClass_of_methodNamed Bd.named
  have hlocks := Bd.notSynchronized
  have hK := hC.1
  have iwX0 : ∀ w ∈ wsX00, w ∈ wsX0_takeText := by decide +kernel
  have iwX2 : ∀ w ∈ wsX20, w ∈ wsX0_takeText := by decide +kernel
  have ha0 := hts (.fieldLink RX0 29 "HeadMarks$Book" "lines" "I") (by decide +kernel)
  have ha1 := hts (.fieldLink RX0 33 "HeadMarks$Pad" "size" "I") (by decide +kernel)
  have ha2 := hts (.fieldLink RX0 38 "HeadMarks$Pad" "signs" "[I") (by decide +kernel)
  have ha3 := hts (.fieldLink RX0 9 "HeadMarks$Book" "signs" "[I") (by decide +kernel)
  have ha4 := hts (.fieldLink RX0 15 "HeadMarks$Book" "broken" "[I") (by decide +kernel)
  subst hsz
  have hD := hD0.self (sz := s.heap.size)
  generalize hAe : va_A (wBook G ab B ++ wPad G ap P) s.heap.size = A at hD ⊢
  have hA : ∀ q : Nat, s.heap.size ≤ q → A q := fun q h => by rw [← hAe]; exact Or.inr h
  have hS : va_S A s.heap s.heap [] := va_S.rf
  have kH_9 : ∀ (n : Nat) (x2 x3 : Int32) (B : Ob) , ∀ (H : Heap) (locs : List Loc), va_P G.1 vwCl (wBook G ab B ++ wPad G ap P) H → va_D A (wBook G ab B ++ wPad G ap P) → va_S A s.heap H locs → ∀ (ls : Array Slot), lv_has ls 4 [(0, .ref (ab 0)), (1, .ref (ap 0)), (2, .int x2), (3, .int x3)] → p_X0_takeText_9 P n x2 x3 B = some B0 → W p l e (headSpec wsX0_takeText rmX0_takeText).room s m ([.ref (ab 0), .ref (ap 0)] : List Value).toArray below meth c H locs 0 0 (MQ below (QV G (wBook G ab B0 ++ wPad G ap P) A) ([.ref (ab 0), .ref (ap 0)] : List Value).toArray s 0 0 A) (F0 m 9 ls []) := by
    intro n
    induction n with
    | zero => intro x2 x3 B H locs hP hD hS ls hl hrun; exact absurd (hrun : (none : Option (Ob)) = some B0) (fun h => by cases h)
    | succ n ih =>
      have kJ_70 : ∀ (x2 x3 : Int32) (B : Ob) , ∀ (H : Heap) (locs : List Loc), va_P G.1 vwCl (wBook G ab B ++ wPad G ap P) H → va_D A (wBook G ab B ++ wPad G ap P) → va_S A s.heap H locs → ∀ (ls : Array Slot), lv_has ls 4 [(0, .ref (ab 0)), (1, .ref (ap 0)), (2, .int x2), (3, .int x3)] → p_X0_takeText_70 P (p_X0_takeText_9 P n) x2 x3 B = some B0 → W p l e (headSpec wsX0_takeText rmX0_takeText).room s m ([.ref (ab 0), .ref (ap 0)] : List Value).toArray below meth c H locs 0 0 (MQ below (QV G (wBook G ab B0 ++ wPad G ap P) A) ([.ref (ab 0), .ref (ap 0)] : List Value).toArray s 0 0 A) (F0 m 70 ls []) := by
        intro x2 x3 B H locs hP hD hS ls hl hrun
        rw [p_X0_takeText_70] at hrun
        refine lv_iinc (v := (x3 + 1)) (lv' := [(3, .int (x3 + 1)), (0, .ref (ab 0)), (1, .ref (ap 0)), (2, .int x2)]) hx hb dX0_takeText_70 hl (k := 3) rfl rfl (by decide) rfl (fun ls hl => ?_)
        refine lv_goto (tgt := 9) hx hb dX0_takeText_73 (by decide) ?_
        exact ih x2 (x3 + 1) B _ _ hP hD hS ls (lv_sub hl [1, 2, 3, 0] rfl) hrun
      intro x2 x3 B H locs hP hD hS ls hl hrun
      rw [p_X0_takeText_9] at hrun
      refine lv_iload_n hx hb dX0_takeText_9 rfl (lv_at hl 3 rfl) ?_
      refine lv_aload_n hx hb dX0_takeText_10 rfl (lv_at hl 1 rfl) ?_
      refine va_get (D := G.1) (ci := 2) (v := .int (P 1 0)) (C := RX2) (T := TX2) (N := 2) hx hb hts iwX2 hown hK hP 4 rfl rfl 1 (by decide) ha1 (fun _ h9 => h9) rfl dX0_takeText_11 ?_
      refine lv_icmp_ge (tgt := 76) hx hb dX0_takeText_14 (by decide) (fun c_3 => ?_) (fun c_3 => ?_)
      · replace hrun := it_pos c_3 hrun
        have hr2 := si hrun
        exact W.vret hx hb hr (fun t ht hW => ⟨⟨(), rfl, trivial, by rw [ht, ← hr2]; exact hP, by rw [← hr2]; exact hD⟩, hS.F ht⟩) hS.2.2 dX0_takeText_76
      · replace hrun := it_neg c_3 hrun
        refine lv_aload_n hx hb dX0_takeText_17 rfl (lv_at hl 1 rfl) ?_
        refine va_get (D := G.1) (ci := 2) (v := .ref (ap 1)) (C := RX2) (T := TX2) (N := 2) hx hb hts iwX2 hown hK hP 4 rfl rfl 0 (by decide) ha2 (fun _ h9 => h9) rfl dX0_takeText_18 ?_
        refine lv_iload_n hx hb dX0_takeText_21 rfl (lv_at hl 3 rfl) ?_
        obtain ⟨v_4, e_5, hrun⟩ := bd hrun
        refine y_ald hx hb hK hP 5 0 rfl rfl e_5 dX0_takeText_22 ?_
        refine lv_bipush (v := 47) hx hb dX0_takeText_23 (by decide) ?_
        refine lv_icmp_ne (tgt := 33) hx hb dX0_takeText_25 (by decide) (fun c_6 => ?_) (fun c_6 => ?_)
        · replace hrun := it_neg c_6 hrun
          refine lv_aload_n hx hb dX0_takeText_33 rfl (lv_at hl 0 rfl) ?_
          refine va_get (D := G.1) (ci := 0) (v := .ref (ab 1)) (C := RX0) (T := TX0) (N := 4) hx hb hts iwX0 hown hK hP 0 rfl rfl 0 (by decide) ha3 (fun _ h9 => h9) rfl dX0_takeText_34 ?_
          refine lv_aload_n hx hb dX0_takeText_37 rfl (lv_at hl 0 rfl) ?_
          refine va_get (D := G.1) (ci := 0) (v := .int (B 3 0)) (C := RX0) (T := TX0) (N := 4) hx hb hts iwX0 hown hK hP 0 rfl rfl 3 (by decide) ha0 (fun _ h9 => h9) rfl dX0_takeText_38 ?_
          refine lv_aload_n hx hb dX0_takeText_41 rfl (lv_at hl 1 rfl) ?_
          refine va_get (D := G.1) (ci := 2) (v := .ref (ap 1)) (C := RX2) (T := TX2) (N := 2) hx hb hts iwX2 hown hK hP 4 rfl rfl 0 (by decide) ha2 (fun _ h9 => h9) rfl dX0_takeText_42 ?_
          refine lv_iload_n hx hb dX0_takeText_45 rfl (lv_at hl 3 rfl) ?_
          obtain ⟨v_7, e_8, hrun⟩ := bd hrun
          refine y_ald hx hb hK hP 5 0 rfl rfl e_8 dX0_takeText_46 ?_
          obtain ⟨N_9, e_10, hrun⟩ := bd hrun
          replace e_10 := stO_spec e_10
          refine va_iast hx hb hK hP hD hS 1 0 rfl rfl e_10.1 dX0_takeText_47 (fun H locs hP hD hS => ?_)
          replace hP : va_P G.1 vwCl (wBook G ab N_9 ++ wPad G ap P) H := by rw [← e_10.2]; exact hP
          replace hD : va_D A (wBook G ab N_9 ++ wPad G ap P) := by rw [← e_10.2]; exact hD
          refine lv_aload_n hx hb dX0_takeText_48 rfl (lv_at hl 0 rfl) ?_
          refine va_get (D := G.1) (ci := 0) (v := .ref (ab 2)) (C := RX0) (T := TX0) (N := 4) hx hb hts iwX0 hown hK hP 0 rfl rfl 1 (by decide) ha4 (fun _ h9 => h9) rfl dX0_takeText_49 ?_
          refine lv_aload_n hx hb dX0_takeText_52 rfl (lv_at hl 0 rfl) ?_
          refine va_get (D := G.1) (ci := 0) (v := .int (N_9 3 0)) (C := RX0) (T := TX0) (N := 4) hx hb hts iwX0 hown hK hP 0 rfl rfl 3 (by decide) ha0 (fun _ h9 => h9) rfl dX0_takeText_53 ?_
          refine lv_iload_n hx hb dX0_takeText_56 rfl (lv_at hl 2 rfl) ?_
          obtain ⟨N_11, e_12, hrun⟩ := bd hrun
          replace e_12 := stO_spec e_12
          refine va_iast hx hb hK hP hD hS 2 0 rfl rfl e_12.1 dX0_takeText_57 (fun H locs hP hD hS => ?_)
          replace hP : va_P G.1 vwCl (wBook G ab N_11 ++ wPad G ap P) H := by rw [← e_12.2]; exact hP
          replace hD : va_D A (wBook G ab N_11 ++ wPad G ap P) := by rw [← e_12.2]; exact hD
          refine lv_aload_n hx hb dX0_takeText_58 rfl (lv_at hl 0 rfl) ?_
          refine lv_dup hx hb dX0_takeText_59 rfl ?_
          refine va_get (D := G.1) (ci := 0) (v := .int (N_11 3 0)) (C := RX0) (T := TX0) (N := 4) hx hb hts iwX0 hown hK hP 0 rfl rfl 3 (by decide) ha0 (fun _ h9 => h9) rfl dX0_takeText_60 ?_
          refine lv_iconst (v := 1) hx hb dX0_takeText_63 (by decide) ?_
          refine lv_iadd hx hb dX0_takeText_64 ?_
          obtain ⟨B_13, e_14, hrun⟩ := bd hrun
          replace e_14 := si e_14
          refine va_put (D := G.1) (ci := 0) (v := .int ((N_11 3 0) + 1)) (ty := .int) (C := RX0) (T := TX0) (N := 4) hx hb hts iwX0 tyX0 tyX0_ok nmX0 hown hK hP hD hS 0 rfl rfl 3 (by decide) ha0 (fun _ h9 => h9) rfl (by decide +kernel) rfl rfl (Nat.le_of_ble_eq_true rfl) dX0_takeText_65 (fun H locs hP hD hS => ?_)
          replace hP : va_P G.1 vwCl (wBook G ab B_13 ++ wPad G ap P) H := by rw [← e_14]; exact hP
          replace hD : va_D A (wBook G ab B_13 ++ wPad G ap P) := by rw [← e_14]; exact hD
          refine lv_iconst (v := 0) hx hb dX0_takeText_68 (by decide) ?_
          refine lv_istore_n (lv' := [(2, .int 0), (0, .ref (ab 0)), (1, .ref (ap 0)), (3, .int x3)]) hx hb dX0_takeText_69 rfl hl (by decide) rfl (fun ls hl => ?_)
          exact kJ_70 0 x3 B_13 _ _ hP hD hS ls (lv_sub hl [1, 2, 0, 3] rfl) hrun
        · replace hrun := it_pos c_6 hrun
          refine lv_iconst (v := 1) hx hb dX0_takeText_28 (by decide) ?_
          refine lv_istore_n (lv' := [(2, .int 1), (0, .ref (ab 0)), (1, .ref (ap 0)), (3, .int x3)]) hx hb dX0_takeText_29 rfl hl (by decide) rfl (fun ls hl => ?_)
          refine lv_goto (tgt := 70) hx hb dX0_takeText_30 (by decide) ?_
          exact kJ_70 1 x3 B _ _ hP hD hS ls (lv_sub hl [1, 2, 0, 3] rfl) hrun
  have hl := lv_entry [.ref (ab 0), .ref (ap 0)] (n := 4) (Nat.le_of_ble_eq_true rfl)
  rw [lg_entry_eq]
  generalize (lg_sl [.ref (ab 0), .ref (ap 0)] ++ List.replicate (4 - (lg_sl [.ref (ab 0), .ref (ap 0)]).length) Slot.unset).toArray = ls at hl ⊢
  have hl : lv_has ls 4 [(0, .ref (ab 0)), (1, .ref (ap 0))] := hl
  rw [p_X0_takeText] at hrun
  refine lv_aload_n hx hb dX0_takeText_0 rfl (lv_at hl 0 rfl) ?_
  refine lv_iconst (v := 0) hx hb dX0_takeText_1 (by decide) ?_
  obtain ⟨B_1, e_2, hrun⟩ := bd hrun
  replace e_2 := si e_2
  refine va_put (D := G.1) (ci := 0) (v := .int 0) (ty := .int) (C := RX0) (T := TX0) (N := 4) hx hb hts iwX0 tyX0 tyX0_ok nmX0 hown hK hP hD hS 0 rfl rfl 3 (by decide) ha0 (fun _ h9 => h9) rfl (by decide +kernel) rfl rfl (Nat.le_of_ble_eq_true rfl) dX0_takeText_2 (fun H locs hP hD hS => ?_)
  replace hP : va_P G.1 vwCl (wBook G ab B_1 ++ wPad G ap P) H := by rw [← e_2]; exact hP
  replace hD : va_D A (wBook G ab B_1 ++ wPad G ap P) := by rw [← e_2]; exact hD
  refine lv_iconst (v := 0) hx hb dX0_takeText_5 (by decide) ?_
  refine lv_istore_n (lv' := [(2, .int 0), (0, .ref (ab 0)), (1, .ref (ap 0))]) hx hb dX0_takeText_6 rfl hl (by decide) rfl (fun ls hl => ?_)
  refine lv_iconst (v := 0) hx hb dX0_takeText_7 (by decide) ?_
  refine lv_istore_n (lv' := [(3, .int 0), (2, .int 0), (0, .ref (ab 0)), (1, .ref (ap 0))]) hx hb dX0_takeText_8 rfl hl (by decide) rfl (fun ls hl => ?_)
  exact kH_9 200 0 0 B_1 _ _ hP hD hS ls (lv_sub hl [2, 3, 1, 0] rfl) hrun
def p_X0_copyFrom (C : Ob)  (B : Ob) : Option (Ob) := ((some (va_up B 0 (va_cpy (C 0) (B 0) 0 0 60))).bind fun B_1 => ((some (va_up B_1 1 (va_cpy (C 1) (B_1 1) 0 0 60))).bind fun B_3 => ((some (va_up B_3 2 (va_cpy (C 2) (B_3 2) 0 0 9))).bind fun B_5 => ((some (puO B_5 3 (C 3 0))).bind fun B_7 => (some B_7)))))
abbrev rmX0_copyFrom : Room := { frames := 1, cells := 0, slots := 0, locals := 60 }
set_option maxHeartbeats 4000000 in
set_option maxRecDepth 100000 in
theorem c_X0_copyFrom (l : Launch) (G : GT) (ab ac : Nat → Nat) (B C : Ob) (sz : Nat) (B0 : Ob) (hrun : p_X0_copyFrom C B = some B0) : Met l yX0_copyFrom wsX0_copyFrom rmX0_copyFrom (PreW G [.ref (ab 0), .ref (ac 0)] (wBook G ab B ++ wBook G ac C) sz) (QV G (wBook G ab B0 ++ wBook G ac C) (va_A (wBook G ab B ++ wBook G ac C) sz)) 0 0 (va_A (wBook G ab B ++ wBook G ac C) sz) := by
  refine Met.ofW (cc := cX0_copyFrom) (maxL := 2) (ret := none) (by decide) rfl ?_
  intro p e s m args below meth c s₁ Bd hml hv
  obtain ⟨rfl, hsz, hP, hC, hD0⟩ := hv
  have hx := Bd.exec
  have hb := Bd.bytes
  have hr := Bd.returns
  have hts := atoms_spec (ws := wsX0_copyFrom) Bd.pre
  have hown : s.vm.findClass RX0 = some m.cls := findClass_of_methodNamed Bd.named
  have hlocks := Bd.notSynchronized
  have hK := hC.1
  have iwX0 : ∀ w ∈ wsX00, w ∈ wsX0_copyFrom := by decide +kernel
  have ha0 := hts (.fieldLink RX0 9 "HeadMarks$Book" "signs" "[I") (by decide +kernel)
  have ha1 := hts (.methodLink RX0 39 arraycopyName) (by decide +kernel)
  have ha2 := hts (.native arraycopyName) (by decide +kernel)
  have ha3 := hts (.static arraycopyName) (by decide +kernel)
  have ha4 := hts (.initialized "java/lang/System") (by decide +kernel)
  have ha5 := hts (.fieldLink RX0 15 "HeadMarks$Book" "broken" "[I") (by decide +kernel)
  have ha6 := hts (.fieldLink RX0 26 "HeadMarks$Book" "rules" "[I") (by decide +kernel)
  have ha7 := hts (.fieldLink RX0 29 "HeadMarks$Book" "lines" "I") (by decide +kernel)
  subst hsz
  have hD := hD0.self (sz := s.heap.size)
  generalize hAe : va_A (wBook G ab B ++ wBook G ac C) s.heap.size = A at hD ⊢
  have hA : ∀ q : Nat, s.heap.size ≤ q → A q := fun q h => by rw [← hAe]; exact Or.inr h
  have hS : va_S A s.heap s.heap [] := va_S.rf
  have hl := lv_entry [.ref (ab 0), .ref (ac 0)] (n := 2) (Nat.le_of_ble_eq_true rfl)
  rw [lg_entry_eq]
  generalize (lg_sl [.ref (ab 0), .ref (ac 0)] ++ List.replicate (2 - (lg_sl [.ref (ab 0), .ref (ac 0)]).length) Slot.unset).toArray = ls at hl ⊢
  have hl : lv_has ls 2 [(0, .ref (ab 0)), (1, .ref (ac 0))] := hl
  rw [p_X0_copyFrom] at hrun
  refine lv_aload_n hx hb dX0_copyFrom_0 rfl (lv_at hl 1 rfl) ?_
  refine va_get (D := G.1) (ci := 0) (v := .ref (ac 1)) (C := RX0) (T := TX0) (N := 4) hx hb hts iwX0 hown hK hP 4 rfl rfl 0 (by decide) ha0 (fun _ h9 => h9) rfl dX0_copyFrom_1 ?_
  refine lv_iconst (v := 0) hx hb dX0_copyFrom_4 (by decide) ?_
  refine lv_aload_n hx hb dX0_copyFrom_5 rfl (lv_at hl 0 rfl) ?_
  refine va_get (D := G.1) (ci := 0) (v := .ref (ab 1)) (C := RX0) (T := TX0) (N := 4) hx hb hts iwX0 hown hK hP 0 rfl rfl 0 (by decide) ha0 (fun _ h9 => h9) rfl dX0_copyFrom_6 ?_
  refine lv_iconst (v := 0) hx hb dX0_copyFrom_9 (by decide) ?_
  refine lv_bipush (v := 60) hx hb dX0_copyFrom_10 (by decide) ?_
  obtain ⟨B_1, e_2, hrun⟩ := bd hrun
  replace e_2 := si e_2
  refine va_copyi hx hb (by rw [hml]; exact hl.1.symm) hown ha1 ha2 ha3 ha4 hK hP hD hS 5 1 0 0 rfl rfl rfl rfl rfl (by decide) (by decide) (by decide) (by decide) (by decide) (fun _ _ => rfl) (Nat.le_of_ble_eq_true rfl) (Nat.le_of_ble_eq_true rfl) dX0_copyFrom_12 (fun H locs hP hD hS => ?_)
  replace hP : va_P G.1 vwCl (wBook G ab B_1 ++ wBook G ac C) H := by rw [← e_2]; exact hP
  replace hD : va_D A (wBook G ab B_1 ++ wBook G ac C) := by rw [← e_2]; exact hD
  refine lv_aload_n hx hb dX0_copyFrom_15 rfl (lv_at hl 1 rfl) ?_
  refine va_get (D := G.1) (ci := 0) (v := .ref (ac 2)) (C := RX0) (T := TX0) (N := 4) hx hb hts iwX0 hown hK hP 4 rfl rfl 1 (by decide) ha5 (fun _ h9 => h9) rfl dX0_copyFrom_16 ?_
  refine lv_iconst (v := 0) hx hb dX0_copyFrom_19 (by decide) ?_
  refine lv_aload_n hx hb dX0_copyFrom_20 rfl (lv_at hl 0 rfl) ?_
  refine va_get (D := G.1) (ci := 0) (v := .ref (ab 2)) (C := RX0) (T := TX0) (N := 4) hx hb hts iwX0 hown hK hP 0 rfl rfl 1 (by decide) ha5 (fun _ h9 => h9) rfl dX0_copyFrom_21 ?_
  refine lv_iconst (v := 0) hx hb dX0_copyFrom_24 (by decide) ?_
  refine lv_bipush (v := 60) hx hb dX0_copyFrom_25 (by decide) ?_
  obtain ⟨B_3, e_4, hrun⟩ := bd hrun
  replace e_4 := si e_4
  refine va_copyi hx hb (by rw [hml]; exact hl.1.symm) hown ha1 ha2 ha3 ha4 hK hP hD hS 6 2 0 0 rfl rfl rfl rfl rfl (by decide) (by decide) (by decide) (by decide) (by decide) (fun _ _ => rfl) (Nat.le_of_ble_eq_true rfl) (Nat.le_of_ble_eq_true rfl) dX0_copyFrom_27 (fun H locs hP hD hS => ?_)
  replace hP : va_P G.1 vwCl (wBook G ab B_3 ++ wBook G ac C) H := by rw [← e_4]; exact hP
  replace hD : va_D A (wBook G ab B_3 ++ wBook G ac C) := by rw [← e_4]; exact hD
  refine lv_aload_n hx hb dX0_copyFrom_30 rfl (lv_at hl 1 rfl) ?_
  refine va_get (D := G.1) (ci := 0) (v := .ref (ac 3)) (C := RX0) (T := TX0) (N := 4) hx hb hts iwX0 hown hK hP 4 rfl rfl 2 (by decide) ha6 (fun _ h9 => h9) rfl dX0_copyFrom_31 ?_
  refine lv_iconst (v := 0) hx hb dX0_copyFrom_34 (by decide) ?_
  refine lv_aload_n hx hb dX0_copyFrom_35 rfl (lv_at hl 0 rfl) ?_
  refine va_get (D := G.1) (ci := 0) (v := .ref (ab 3)) (C := RX0) (T := TX0) (N := 4) hx hb hts iwX0 hown hK hP 0 rfl rfl 2 (by decide) ha6 (fun _ h9 => h9) rfl dX0_copyFrom_36 ?_
  refine lv_iconst (v := 0) hx hb dX0_copyFrom_39 (by decide) ?_
  refine lv_bipush (v := 9) hx hb dX0_copyFrom_40 (by decide) ?_
  obtain ⟨B_5, e_6, hrun⟩ := bd hrun
  replace e_6 := si e_6
  refine va_copyi hx hb (by rw [hml]; exact hl.1.symm) hown ha1 ha2 ha3 ha4 hK hP hD hS 7 3 0 0 rfl rfl rfl rfl rfl (by decide) (by decide) (by decide) (by decide) (by decide) (fun _ _ => rfl) (Nat.le_of_ble_eq_true rfl) (Nat.le_of_ble_eq_true rfl) dX0_copyFrom_42 (fun H locs hP hD hS => ?_)
  replace hP : va_P G.1 vwCl (wBook G ab B_5 ++ wBook G ac C) H := by rw [← e_6]; exact hP
  replace hD : va_D A (wBook G ab B_5 ++ wBook G ac C) := by rw [← e_6]; exact hD
  refine lv_aload_n hx hb dX0_copyFrom_45 rfl (lv_at hl 0 rfl) ?_
  refine lv_aload_n hx hb dX0_copyFrom_46 rfl (lv_at hl 1 rfl) ?_
  refine va_get (D := G.1) (ci := 0) (v := .int (C 3 0)) (C := RX0) (T := TX0) (N := 4) hx hb hts iwX0 hown hK hP 4 rfl rfl 3 (by decide) ha7 (fun _ h9 => h9) rfl dX0_copyFrom_47 ?_
  obtain ⟨B_7, e_8, hrun⟩ := bd hrun
  replace e_8 := si e_8
  refine va_put (D := G.1) (ci := 0) (v := .int (C 3 0)) (ty := .int) (C := RX0) (T := TX0) (N := 4) hx hb hts iwX0 tyX0 tyX0_ok nmX0 hown hK hP hD hS 0 rfl rfl 3 (by decide) ha7 (fun _ h9 => h9) rfl (by decide +kernel) rfl rfl (Nat.le_of_ble_eq_true rfl) dX0_copyFrom_50 (fun H locs hP hD hS => ?_)
  replace hP : va_P G.1 vwCl (wBook G ab B_7 ++ wBook G ac C) H := by rw [← e_8]; exact hP
  replace hD : va_D A (wBook G ab B_7 ++ wBook G ac C) := by rw [← e_8]; exact hD
  have hr2 := si hrun
  exact W.vret hx hb hr (fun t ht hW => ⟨⟨(), rfl, trivial, by rw [ht, ← hr2]; exact hP, by rw [← hr2]; exact hD⟩, hS.F ht⟩) hS.2.2 dX0_copyFrom_53
def p_X0_mayRule_50 (B : Ob) (x3 : Int32) (y0 : Int32)  : Option (Int32) := (if x3 ≤ y0 then (some 0) else (some 1))
def p_X0_mayRule_34 (B : Ob) (x1 : Int32) (x2 : Int32) (y0 : Int32)  : Option (Int32) := (if x1 = 2 then p_X0_mayRule_50 B y0 x2 else ((ldI (B 2) 9 2).bind fun v_11 => p_X0_mayRule_50 B y0 v_11))
def p_X0_mayRule (B : Ob) (u1 : Int32) (u2 : Int32)  : Option (Int32) := ((ldI tLeast 9 u1).bind fun v_1 => (if u2 < v_1 then (some 0) else ((ldI tMost 9 u1).bind fun v_4 => (if u2 ≤ v_4 then (if u1 = 0 then p_X0_mayRule_34 B u1 u2 u2 else ((ldI (B 2) 9 0).bind fun v_8 => p_X0_mayRule_34 B u1 u2 v_8)) else (some 0)))))
abbrev rmX0_mayRule : Room := { frames := 0, cells := 0, slots := 0, locals := 0 }
set_option maxHeartbeats 4000000 in
set_option maxRecDepth 100000 in
theorem c_X0_mayRule (l : Launch) (G : GT) (t : Nat → Nat) (ab : Nat → Nat) (B : Ob) (u1 u2 : Int32) (r0 : Int32) (hrun : p_X0_mayRule B u1 u2 = some r0) : Met l yX0_mayRule wsX0_mayRule rmX0_mayRule (PreT G t [.ref (ab 0), .int u1, .int u2] (wBook G ab B)) (Rz r0) 0 0 (fun _ => False) := by
  refine Met.ofW (cc := cX0_mayRule) (maxL := 5) (ret := (some .boolean)) (by decide) rfl ?_
  intro p e s m args below meth c s₁ Bd hml hv
  obtain ⟨rfl, hP, hC, hT1, hT2⟩ := hv
  have hx := Bd.exec
  have hb := Bd.bytes
  have hr := Bd.returns
  have hts := atoms_spec (ws := wsX0_mayRule) Bd.pre
  have hown : s.vm.findClass RX0 = some m.cls := findClass_of_methodNamed Bd.named
  have hlocks := Bd.notSynchronized
  have hK := hC.1
  have iwX0 : ∀ w ∈ wsX00, w ∈ wsX0_mayRule := by decide +kernel
  have ha0 := hts (.fieldLink RX0 26 "HeadMarks$Book" "rules" "[I") (by decide +kernel)
  have kJ_50 : ∀ (x3 y0 : Int32) , ∀ (ls : Array Slot), lv_has ls 5 [(3, .int x3)] → p_X0_mayRule_50 B x3 y0 = some r0 → W p l e (headSpec wsX0_mayRule rmX0_mayRule).room s m ([.ref (ab 0), .int u1, .int u2] : List Value).toArray below meth c s.heap [] 0 0 (MQ below (Rz r0) ([.ref (ab 0), .int u1, .int u2] : List Value).toArray s 0 0 (fun _ => False)) (F0 m 50 ls [.int y0]) := by
    intro x3 y0 ls hl hrun
    rw [p_X0_mayRule_50] at hrun
    refine lv_istore (lv' := [(4, .int y0), (3, .int x3)]) hx hb dX0_mayRule_50 hl (by decide) rfl (fun ls hl => ?_)
    refine lv_iload hx hb dX0_mayRule_52 (lv_at hl 0 rfl) ?_
    refine lv_iload_n hx hb dX0_mayRule_54 rfl (lv_at hl 1 rfl) ?_
    refine lv_icmp_ge (tgt := 62) hx hb dX0_mayRule_55 (by decide) (fun c_13 => ?_) (fun c_13 => ?_)
    · replace hrun := it_pos c_13 hrun
      refine lv_iconst (v := 0) hx hb dX0_mayRule_62 (by decide) ?_
      exact W.zret (v := 0) hx hb hr (by rfl) (fun t ht hW => ⟨0, rfl, ⟨si hrun, by rfl⟩, ht⟩) (fun _ h => absurd h List.not_mem_nil) dX0_mayRule_63
    · replace hrun := it_neg c_13 hrun
      refine lv_iconst (v := 1) hx hb dX0_mayRule_58 (by decide) ?_
      refine lv_goto (tgt := 63) hx hb dX0_mayRule_59 (by decide) ?_
      exact W.zret (v := 1) hx hb hr (by rfl) (fun t ht hW => ⟨1, rfl, ⟨si hrun, by rfl⟩, ht⟩) (fun _ h => absurd h List.not_mem_nil) dX0_mayRule_63
  have kJ_34 : ∀ (x1 x2 y0 : Int32) , ∀ (ls : Array Slot), lv_has ls 5 [(0, .ref (ab 0)), (1, .int x1), (2, .int x2)] → p_X0_mayRule_34 B x1 x2 y0 = some r0 → W p l e (headSpec wsX0_mayRule rmX0_mayRule).room s m ([.ref (ab 0), .int u1, .int u2] : List Value).toArray below meth c s.heap [] 0 0 (MQ below (Rz r0) ([.ref (ab 0), .int u1, .int u2] : List Value).toArray s 0 0 (fun _ => False)) (F0 m 34 ls [.int y0]) := by
    intro x1 x2 y0 ls hl hrun
    rw [p_X0_mayRule_34] at hrun
    refine lv_istore_n (lv' := [(3, .int y0), (0, .ref (ab 0)), (1, .int x1), (2, .int x2)]) hx hb dX0_mayRule_34 rfl hl (by decide) rfl (fun ls hl => ?_)
    refine lv_iload_n hx hb dX0_mayRule_35 rfl (lv_at hl 2 rfl) ?_
    refine lv_iconst (v := 2) hx hb dX0_mayRule_36 (by decide) ?_
    refine lv_icmp_ne (tgt := 44) hx hb dX0_mayRule_37 (by decide) (fun c_10 => ?_) (fun c_10 => ?_)
    · replace hrun := it_neg c_10 hrun
      refine lv_aload_n hx hb dX0_mayRule_44 rfl (lv_at hl 1 rfl) ?_
      refine va_get (D := G.1) (ci := 0) (v := .ref (ab 3)) (C := RX0) (T := TX0) (N := 4) hx hb hts iwX0 hown hK hP 0 rfl rfl 2 (by decide) ha0 (fun _ h9 => h9) rfl dX0_mayRule_45 ?_
      refine lv_iconst (v := 2) hx hb dX0_mayRule_48 (by decide) ?_
      obtain ⟨v_11, e_12, hrun⟩ := bd hrun
      refine y_ald hx hb hK hP 3 0 rfl rfl e_12 dX0_mayRule_49 ?_
      exact kJ_50 y0 v_11  ls (lv_sub hl [0] rfl) hrun
    · replace hrun := it_pos c_10 hrun
      refine lv_iload_n hx hb dX0_mayRule_40 rfl (lv_at hl 3 rfl) ?_
      refine lv_goto (tgt := 50) hx hb dX0_mayRule_41 (by decide) ?_
      exact kJ_50 y0 x2  ls (lv_sub hl [0] rfl) hrun
  have hl := lv_entry [.ref (ab 0), .int u1, .int u2] (n := 5) (Nat.le_of_ble_eq_true rfl)
  rw [lg_entry_eq]
  generalize (lg_sl [.ref (ab 0), .int u1, .int u2] ++ List.replicate (5 - (lg_sl [.ref (ab 0), .int u1, .int u2]).length) Slot.unset).toArray = ls at hl ⊢
  have hl : lv_has ls 5 [(0, .ref (ab 0)), (1, .int u1), (2, .int u2)] := hl
  rw [p_X0_mayRule] at hrun
  refine lv_iload_n hx hb dX0_mayRule_0 rfl (lv_at hl 2 rfl) ?_
  refine va_getsN hx hb hT1.1 va_S.rf hown (va_Nw.use rfl hC.2.2.2.2.1) (fun _ h9 => h9) dX0_mayRule_1 ?_
  refine lv_iload_n hx hb dX0_mayRule_4 rfl (lv_at hl 1 rfl) ?_
  obtain ⟨v_1, e_2, hrun⟩ := bd hrun
  refine y_tab hx hb hT1.2 va_S.rf e_2 dX0_mayRule_5 ?_
  refine lv_icmp_lt (tgt := 18) hx hb dX0_mayRule_6 (by decide) (fun c_3 => ?_) (fun c_3 => ?_)
  · replace hrun := it_pos c_3 hrun
    refine lv_iconst (v := 0) hx hb dX0_mayRule_18 (by decide) ?_
    exact W.zret (v := 0) hx hb hr (by rfl) (fun t ht hW => ⟨0, rfl, ⟨si hrun, by rfl⟩, ht⟩) (fun _ h => absurd h List.not_mem_nil) dX0_mayRule_19
  · replace hrun := it_neg c_3 hrun
    refine lv_iload_n hx hb dX0_mayRule_9 rfl (lv_at hl 2 rfl) ?_
    refine va_getsN hx hb hT2.1 va_S.rf hown (va_Nw.use rfl hC.2.2.2.2.2) (fun _ h9 => h9) dX0_mayRule_10 ?_
    refine lv_iload_n hx hb dX0_mayRule_13 rfl (lv_at hl 1 rfl) ?_
    obtain ⟨v_4, e_5, hrun⟩ := bd hrun
    refine y_tab hx hb hT2.2 va_S.rf e_5 dX0_mayRule_14 ?_
    refine lv_icmp_le (tgt := 20) hx hb dX0_mayRule_15 (by decide) (fun c_6 => ?_) (fun c_6 => ?_)
    · replace hrun := it_pos c_6 hrun
      refine lv_iload_n hx hb dX0_mayRule_20 rfl (lv_at hl 1 rfl) ?_
      refine lv_if_ne (tgt := 28) hx hb dX0_mayRule_21 (by decide) (fun c_7 => ?_) (fun c_7 => ?_)
      · replace hrun := it_neg c_7 hrun
        refine lv_aload_n hx hb dX0_mayRule_28 rfl (lv_at hl 0 rfl) ?_
        refine va_get (D := G.1) (ci := 0) (v := .ref (ab 3)) (C := RX0) (T := TX0) (N := 4) hx hb hts iwX0 hown hK hP 0 rfl rfl 2 (by decide) ha0 (fun _ h9 => h9) rfl dX0_mayRule_29 ?_
        refine lv_iconst (v := 0) hx hb dX0_mayRule_32 (by decide) ?_
        obtain ⟨v_8, e_9, hrun⟩ := bd hrun
        refine y_ald hx hb hK hP 3 0 rfl rfl e_9 dX0_mayRule_33 ?_
        exact kJ_34 u1 u2 v_8  ls (lv_sub hl [0, 1, 2] rfl) hrun
      · replace hrun := it_pos c_7 hrun
        refine lv_iload_n hx hb dX0_mayRule_24 rfl (lv_at hl 2 rfl) ?_
        refine lv_goto (tgt := 34) hx hb dX0_mayRule_25 (by decide) ?_
        exact kJ_34 u1 u2 u2  ls (lv_sub hl [0, 1, 2] rfl) hrun
    · replace hrun := it_neg c_6 hrun
      refine lv_iconst (v := 0) hx hb dX0_mayRule_18 (by decide) ?_
      exact W.zret (v := 0) hx hb hr (by rfl) (fun t ht hW => ⟨0, rfl, ⟨si hrun, by rfl⟩, ht⟩) (fun _ h => absurd h List.not_mem_nil) dX0_mayRule_19
def p_X0_canBreakAhead (B : Ob) (u1 : Int32)  : Option (Int32) := (if u1 < 1 then (some 0) else (if (B 3 0) ≤ u1 then (some 0) else (some 1)))
abbrev rmX0_canBreakAhead : Room := { frames := 0, cells := 0, slots := 0, locals := 0 }
set_option maxHeartbeats 4000000 in
set_option maxRecDepth 100000 in
theorem c_X0_canBreakAhead (l : Launch) (G : GT) (ab : Nat → Nat) (B : Ob) (u1 : Int32) (r0 : Int32) (hrun : p_X0_canBreakAhead B u1 = some r0) : Met l yX0_canBreakAhead wsX0_canBreakAhead rmX0_canBreakAhead (PreR G [.ref (ab 0), .int u1] (wBook G ab B)) (Rz r0) 0 0 (fun _ => False) := by
  refine Met.ofW (cc := cX0_canBreakAhead) (maxL := 2) (ret := (some .boolean)) (by decide) rfl ?_
  intro p e s m args below meth c s₁ Bd hml hv
  obtain ⟨rfl, hP, hC⟩ := hv
  have hx := Bd.exec
  have hb := Bd.bytes
  have hr := Bd.returns
  have hts := atoms_spec (ws := wsX0_canBreakAhead) Bd.pre
  have hown : s.vm.findClass RX0 = some m.cls := findClass_of_methodNamed Bd.named
  have hlocks := Bd.notSynchronized
  have hK := hC.1
  have iwX0 : ∀ w ∈ wsX00, w ∈ wsX0_canBreakAhead := by decide +kernel
  have ha0 := hts (.fieldLink RX0 29 "HeadMarks$Book" "lines" "I") (by decide +kernel)
  have hl := lv_entry [.ref (ab 0), .int u1] (n := 2) (Nat.le_of_ble_eq_true rfl)
  rw [lg_entry_eq]
  generalize (lg_sl [.ref (ab 0), .int u1] ++ List.replicate (2 - (lg_sl [.ref (ab 0), .int u1]).length) Slot.unset).toArray = ls at hl ⊢
  have hl : lv_has ls 2 [(0, .ref (ab 0)), (1, .int u1)] := hl
  rw [p_X0_canBreakAhead] at hrun
  refine lv_iload_n hx hb dX0_canBreakAhead_0 rfl (lv_at hl 1 rfl) ?_
  refine lv_iconst (v := 1) hx hb dX0_canBreakAhead_1 (by decide) ?_
  refine lv_icmp_lt (tgt := 17) hx hb dX0_canBreakAhead_2 (by decide) (fun c_1 => ?_) (fun c_1 => ?_)
  · replace hrun := it_pos c_1 hrun
    refine lv_iconst (v := 0) hx hb dX0_canBreakAhead_17 (by decide) ?_
    exact W.zret (v := 0) hx hb hr (by rfl) (fun t ht hW => ⟨0, rfl, ⟨si hrun, by rfl⟩, ht⟩) (fun _ h => absurd h List.not_mem_nil) dX0_canBreakAhead_18
  · replace hrun := it_neg c_1 hrun
    refine lv_iload_n hx hb dX0_canBreakAhead_5 rfl (lv_at hl 1 rfl) ?_
    refine lv_aload_n hx hb dX0_canBreakAhead_6 rfl (lv_at hl 0 rfl) ?_
    refine va_get (D := G.1) (ci := 0) (v := .int (B 3 0)) (C := RX0) (T := TX0) (N := 4) hx hb hts iwX0 hown hK hP 0 rfl rfl 3 (by decide) ha0 (fun _ h9 => h9) rfl dX0_canBreakAhead_7 ?_
    refine lv_icmp_ge (tgt := 17) hx hb dX0_canBreakAhead_10 (by decide) (fun c_2 => ?_) (fun c_2 => ?_)
    · replace hrun := it_pos c_2 hrun
      refine lv_iconst (v := 0) hx hb dX0_canBreakAhead_17 (by decide) ?_
      exact W.zret (v := 0) hx hb hr (by rfl) (fun t ht hW => ⟨0, rfl, ⟨si hrun, by rfl⟩, ht⟩) (fun _ h => absurd h List.not_mem_nil) dX0_canBreakAhead_18
    · replace hrun := it_neg c_2 hrun
      refine lv_iconst (v := 1) hx hb dX0_canBreakAhead_13 (by decide) ?_
      refine lv_goto (tgt := 18) hx hb dX0_canBreakAhead_14 (by decide) ?_
      exact W.zret (v := 1) hx hb hr (by rfl) (fun t ht hW => ⟨1, rfl, ⟨si hrun, by rfl⟩, ht⟩) (fun _ h => absurd h List.not_mem_nil) dX0_canBreakAhead_18
def p_X0_countBreaks_4 (B : Ob) : Nat → Int32 → Int32 → Option (Int32)
  | 0, _, _ => none
  | n + 1, x1, x2 => (if (B 3 0) ≤ x2 then (some x1) else ((ldI (B 1) 60 x2).bind fun v_2 => p_X0_countBreaks_4 B n (x1 + v_2) (x2 + 1)))
def p_X0_countBreaks (B : Ob)   : Option (Int32) := p_X0_countBreaks_4 B 200 0 0
abbrev rmX0_countBreaks : Room := { frames := 0, cells := 0, slots := 0, locals := 0 }
set_option maxHeartbeats 4000000 in
set_option maxRecDepth 100000 in
theorem c_X0_countBreaks (l : Launch) (G : GT) (ab : Nat → Nat) (B : Ob) (r0 : Int32) (hrun : p_X0_countBreaks B = some r0) : Met l yX0_countBreaks wsX0_countBreaks rmX0_countBreaks (PreR G [.ref (ab 0)] (wBook G ab B)) (Ri r0) 0 0 (fun _ => False) := by
  refine Met.ofW (cc := cX0_countBreaks) (maxL := 3) (ret := (some .int)) (by decide) rfl ?_
  intro p e s m args below meth c s₁ Bd hml hv
  obtain ⟨rfl, hP, hC⟩ := hv
  have hx := Bd.exec
  have hb := Bd.bytes
  have hr := Bd.returns
  have hts := atoms_spec (ws := wsX0_countBreaks) Bd.pre
  have hown : s.vm.findClass RX0 = some m.cls := findClass_of_methodNamed Bd.named
  have hlocks := Bd.notSynchronized
  have hK := hC.1
  have iwX0 : ∀ w ∈ wsX00, w ∈ wsX0_countBreaks := by decide +kernel
  have ha0 := hts (.fieldLink RX0 29 "HeadMarks$Book" "lines" "I") (by decide +kernel)
  have ha1 := hts (.fieldLink RX0 15 "HeadMarks$Book" "broken" "[I") (by decide +kernel)
  have kH_4 : ∀ (n : Nat) (x1 x2 : Int32) , ∀ (ls : Array Slot), lv_has ls 3 [(0, .ref (ab 0)), (1, .int x1), (2, .int x2)] → p_X0_countBreaks_4 B n x1 x2 = some r0 → W p l e (headSpec wsX0_countBreaks rmX0_countBreaks).room s m ([.ref (ab 0)] : List Value).toArray below meth c s.heap [] 0 0 (MQ below (Ri r0) ([.ref (ab 0)] : List Value).toArray s 0 0 (fun _ => False)) (F0 m 4 ls []) := by
    intro n
    induction n with
    | zero => intro x1 x2 ls hl hrun; exact absurd (hrun : (none : Option (Int32)) = some r0) (fun h => by cases h)
    | succ n ih =>
      intro x1 x2 ls hl hrun
      rw [p_X0_countBreaks_4] at hrun
      refine lv_iload_n hx hb dX0_countBreaks_4 rfl (lv_at hl 2 rfl) ?_
      refine lv_aload_n hx hb dX0_countBreaks_5 rfl (lv_at hl 0 rfl) ?_
      refine va_get (D := G.1) (ci := 0) (v := .int (B 3 0)) (C := RX0) (T := TX0) (N := 4) hx hb hts iwX0 hown hK hP 0 rfl rfl 3 (by decide) ha0 (fun _ h9 => h9) rfl dX0_countBreaks_6 ?_
      refine lv_icmp_ge (tgt := 27) hx hb dX0_countBreaks_9 (by decide) (fun c_1 => ?_) (fun c_1 => ?_)
      · replace hrun := it_pos c_1 hrun
        refine lv_iload_n hx hb dX0_countBreaks_27 rfl (lv_at hl 1 rfl) ?_
        exact W.iret (v := x1) hx hb hr (fun t ht hW => ⟨x1, rfl, si hrun, ht⟩) (fun _ h => absurd h List.not_mem_nil) dX0_countBreaks_28
      · replace hrun := it_neg c_1 hrun
        refine lv_iload_n hx hb dX0_countBreaks_12 rfl (lv_at hl 1 rfl) ?_
        refine lv_aload_n hx hb dX0_countBreaks_13 rfl (lv_at hl 0 rfl) ?_
        refine va_get (D := G.1) (ci := 0) (v := .ref (ab 2)) (C := RX0) (T := TX0) (N := 4) hx hb hts iwX0 hown hK hP 0 rfl rfl 1 (by decide) ha1 (fun _ h9 => h9) rfl dX0_countBreaks_14 ?_
        refine lv_iload_n hx hb dX0_countBreaks_17 rfl (lv_at hl 2 rfl) ?_
        obtain ⟨v_2, e_3, hrun⟩ := bd hrun
        refine y_ald hx hb hK hP 2 0 rfl rfl e_3 dX0_countBreaks_18 ?_
        refine lv_iadd hx hb dX0_countBreaks_19 ?_
        refine lv_istore_n (lv' := [(1, .int (x1 + v_2)), (0, .ref (ab 0)), (2, .int x2)]) hx hb dX0_countBreaks_20 rfl hl (by decide) rfl (fun ls hl => ?_)
        refine lv_iinc (v := (x2 + 1)) (lv' := [(2, .int (x2 + 1)), (1, .int (x1 + v_2)), (0, .ref (ab 0))]) hx hb dX0_countBreaks_21 hl (k := 2) rfl rfl (by decide) rfl (fun ls hl => ?_)
        refine lv_goto (tgt := 4) hx hb dX0_countBreaks_24 (by decide) ?_
        exact ih (x1 + v_2) (x2 + 1)  ls (lv_sub hl [2, 1, 0] rfl) hrun
  have hl := lv_entry [.ref (ab 0)] (n := 3) (Nat.le_of_ble_eq_true rfl)
  rw [lg_entry_eq]
  generalize (lg_sl [.ref (ab 0)] ++ List.replicate (3 - (lg_sl [.ref (ab 0)]).length) Slot.unset).toArray = ls at hl ⊢
  have hl : lv_has ls 3 [(0, .ref (ab 0))] := hl
  rw [p_X0_countBreaks] at hrun
  refine lv_iconst (v := 0) hx hb dX0_countBreaks_0 (by decide) ?_
  refine lv_istore_n (lv' := [(1, .int 0), (0, .ref (ab 0))]) hx hb dX0_countBreaks_1 rfl hl (by decide) rfl (fun ls hl => ?_)
  refine lv_iconst (v := 0) hx hb dX0_countBreaks_2 (by decide) ?_
  refine lv_istore_n (lv' := [(2, .int 0), (1, .int 0), (0, .ref (ab 0))]) hx hb dX0_countBreaks_3 rfl hl (by decide) rfl (fun ls hl => ?_)
  exact kH_4 200 0 0  ls (lv_sub hl [2, 1, 0] rfl) hrun
end
