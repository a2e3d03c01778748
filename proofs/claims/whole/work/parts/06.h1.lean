theorem jn_hm_S1_mS1 {G : GT} {a : Nat → Nat → Nat} {S : Nat → Ob} {N : Ob} {A : Nat → Prop} {H H1 : Heap} (hP : va_P G.1 vwCl (wHM G a S) H) (hD : va_D A (wHM G a S)) (hk : ∀ q : Nat, q < H.size → ¬ va_A (wPad G (a 1) (S 1)) H.size q → H1[q]? = H[q]?) (hF : ∀ q, va_A (wPad G (a 1) (S 1)) H.size q → A q) (hP1 : va_P G.1 vwCl (wPad G (a 1) N) H1) (hD1 : va_D (va_A (wPad G (a 1) (S 1)) H.size) (wPad G (a 1) N)) : va_P G.1 vwCl (wHM G a (va_up S 1 N)) H1 ∧ va_D A (wHM G a (va_up S 1 N)) := by
  obtain ⟨h1, h2⟩ := va_join (wr := wH0 G a (S 0 0 0) ++ wBook G (a 2) (S 2) ++ wBook G (a 3) (S 3) ++ wBook G (a 4) (S 4) ++ wLay G (a 5) (S 5) ++ wLay G (a 6) (S 6)) (w1 := wPad G (a 1) N) hP hD [2, 3] [0, 1, 4, 5, 6, 7, 8, 9, 10, 11, 12, 13, 14, 15, 16, 17, 18, 19, 20, 21, 22, 23, 24, 25, 26, 27, 28, 29, 30, 31, 32, 33, 34, 35, 36, 37, 38, 39] rfl rfl (by decide) (by decide) hk hF hP1 hD1
  exact ⟨h1.sub [0, 1, 38, 39, 2, 3, 4, 5, 6, 7, 8, 9, 10, 11, 12, 13, 14, 15, 16, 17, 18, 19, 20, 21, 22, 23, 24, 25, 26, 27, 28, 29, 30, 31, 32, 33, 34, 35, 36, 37] rfl, h2.sub [0, 1, 38, 39, 2, 3, 4, 5, 6, 7, 8, 9, 10, 11, 12, 13, 14, 15, 16, 17, 18, 19, 20, 21, 22, 23, 24, 25, 26, 27, 28, 29, 30, 31, 32, 33, 34, 35, 36, 37] (by decide) rfl⟩
theorem jn_hm_S5_S2_mS5 {G : GT} {a : Nat → Nat → Nat} {S : Nat → Ob} {N : Ob} {A : Nat → Prop} {H H1 : Heap} (hP : va_P G.1 vwCl (wHM G a S) H) (hD : va_D A (wHM G a S)) (hk : ∀ q : Nat, q < H.size → ¬ va_A (wLay G (a 5) (S 5) ++ wBook G (a 2) (S 2)) H.size q → H1[q]? = H[q]?) (hF : ∀ q, va_A (wLay G (a 5) (S 5) ++ wBook G (a 2) (S 2)) H.size q → A q) (hP1 : va_P G.1 vwCl (wLay G (a 5) N ++ wBook G (a 2) (S 2)) H1) (hD1 : va_D (va_A (wLay G (a 5) (S 5) ++ wBook G (a 2) (S 2)) H.size) (wLay G (a 5) N ++ wBook G (a 2) (S 2))) : va_P G.1 vwCl (wHM G a (va_up S 5 N)) H1 ∧ va_D A (wHM G a (va_up S 5 N)) := by
  obtain ⟨h1, h2⟩ := va_join (wr := wH0 G a (S 0 0 0) ++ wPad G (a 1) (S 1) ++ wBook G (a 3) (S 3) ++ wBook G (a 4) (S 4) ++ wLay G (a 6) (S 6)) (w1 := wLay G (a 5) N ++ wBook G (a 2) (S 2)) hP hD [16, 17, 18, 19, 20, 21, 22, 23, 24, 25, 26, 27, 4, 5, 6, 7] [0, 1, 2, 3, 8, 9, 10, 11, 12, 13, 14, 15, 28, 29, 30, 31, 32, 33, 34, 35, 36, 37, 38, 39] rfl rfl (by decide) (by decide) hk hF hP1 hD1
  exact ⟨h1.sub [0, 1, 2, 3, 36, 37, 38, 39, 4, 5, 6, 7, 8, 9, 10, 11, 24, 25, 26, 27, 28, 29, 30, 31, 32, 33, 34, 35, 12, 13, 14, 15, 16, 17, 18, 19, 20, 21, 22, 23] rfl, h2.sub [0, 1, 2, 3, 36, 37, 38, 39, 4, 5, 6, 7, 8, 9, 10, 11, 24, 25, 26, 27, 28, 29, 30, 31, 32, 33, 34, 35, 12, 13, 14, 15, 16, 17, 18, 19, 20, 21, 22, 23] (by decide) rfl⟩
theorem jn_hm_S2_S1_mS2 {G : GT} {a : Nat → Nat → Nat} {S : Nat → Ob} {N : Ob} {A : Nat → Prop} {H H1 : Heap} (hP : va_P G.1 vwCl (wHM G a S) H) (hD : va_D A (wHM G a S)) (hk : ∀ q : Nat, q < H.size → ¬ va_A (wBook G (a 2) (S 2) ++ wPad G (a 1) (S 1)) H.size q → H1[q]? = H[q]?) (hF : ∀ q, va_A (wBook G (a 2) (S 2) ++ wPad G (a 1) (S 1)) H.size q → A q) (hP1 : va_P G.1 vwCl (wBook G (a 2) N ++ wPad G (a 1) (S 1)) H1) (hD1 : va_D (va_A (wBook G (a 2) (S 2) ++ wPad G (a 1) (S 1)) H.size) (wBook G (a 2) N ++ wPad G (a 1) (S 1))) : va_P G.1 vwCl (wHM G a (va_up S 2 N)) H1 ∧ va_D A (wHM G a (va_up S 2 N)) := by
  obtain ⟨h1, h2⟩ := va_join (wr := wH0 G a (S 0 0 0) ++ wBook G (a 3) (S 3) ++ wBook G (a 4) (S 4) ++ wLay G (a 5) (S 5) ++ wLay G (a 6) (S 6)) (w1 := wBook G (a 2) N ++ wPad G (a 1) (S 1)) hP hD [4, 5, 6, 7, 2, 3] [0, 1, 8, 9, 10, 11, 12, 13, 14, 15, 16, 17, 18, 19, 20, 21, 22, 23, 24, 25, 26, 27, 28, 29, 30, 31, 32, 33, 34, 35, 36, 37, 38, 39] rfl rfl (by decide) (by decide) hk hF hP1 hD1
  exact ⟨h1.sub [0, 1, 38, 39, 34, 35, 36, 37, 2, 3, 4, 5, 6, 7, 8, 9, 10, 11, 12, 13, 14, 15, 16, 17, 18, 19, 20, 21, 22, 23, 24, 25, 26, 27, 28, 29, 30, 31, 32, 33] rfl, h2.sub [0, 1, 38, 39, 34, 35, 36, 37, 2, 3, 4, 5, 6, 7, 8, 9, 10, 11, 12, 13, 14, 15, 16, 17, 18, 19, 20, 21, 22, 23, 24, 25, 26, 27, 28, 29, 30, 31, 32, 33] (by decide) rfl⟩
theorem jn_hm_S6_S2_mS6 {G : GT} {a : Nat → Nat → Nat} {S : Nat → Ob} {N : Ob} {A : Nat → Prop} {H H1 : Heap} (hP : va_P G.1 vwCl (wHM G a S) H) (hD : va_D A (wHM G a S)) (hk : ∀ q : Nat, q < H.size → ¬ va_A (wLay G (a 6) (S 6) ++ wBook G (a 2) (S 2)) H.size q → H1[q]? = H[q]?) (hF : ∀ q, va_A (wLay G (a 6) (S 6) ++ wBook G (a 2) (S 2)) H.size q → A q) (hP1 : va_P G.1 vwCl (wLay G (a 6) N ++ wBook G (a 2) (S 2)) H1) (hD1 : va_D (va_A (wLay G (a 6) (S 6) ++ wBook G (a 2) (S 2)) H.size) (wLay G (a 6) N ++ wBook G (a 2) (S 2))) : va_P G.1 vwCl (wHM G a (va_up S 6 N)) H1 ∧ va_D A (wHM G a (va_up S 6 N)) := by
  obtain ⟨h1, h2⟩ := va_join (wr := wH0 G a (S 0 0 0) ++ wPad G (a 1) (S 1) ++ wBook G (a 3) (S 3) ++ wBook G (a 4) (S 4) ++ wLay G (a 5) (S 5)) (w1 := wLay G (a 6) N ++ wBook G (a 2) (S 2)) hP hD [28, 29, 30, 31, 32, 33, 34, 35, 36, 37, 38, 39, 4, 5, 6, 7] [0, 1, 2, 3, 8, 9, 10, 11, 12, 13, 14, 15, 16, 17, 18, 19, 20, 21, 22, 23, 24, 25, 26, 27] rfl rfl (by decide) (by decide) hk hF hP1 hD1
  exact ⟨h1.sub [0, 1, 2, 3, 36, 37, 38, 39, 4, 5, 6, 7, 8, 9, 10, 11, 12, 13, 14, 15, 16, 17, 18, 19, 20, 21, 22, 23, 24, 25, 26, 27, 28, 29, 30, 31, 32, 33, 34, 35] rfl, h2.sub [0, 1, 2, 3, 36, 37, 38, 39, 4, 5, 6, 7, 8, 9, 10, 11, 12, 13, 14, 15, 16, 17, 18, 19, 20, 21, 22, 23, 24, 25, 26, 27, 28, 29, 30, 31, 32, 33, 34, 35] (by decide) rfl⟩
theorem jn_hm_S3_S2_mS3 {G : GT} {a : Nat → Nat → Nat} {S : Nat → Ob} {N : Ob} {A : Nat → Prop} {H H1 : Heap} (hP : va_P G.1 vwCl (wHM G a S) H) (hD : va_D A (wHM G a S)) (hk : ∀ q : Nat, q < H.size → ¬ va_A (wBook G (a 3) (S 3) ++ wBook G (a 2) (S 2)) H.size q → H1[q]? = H[q]?) (hF : ∀ q, va_A (wBook G (a 3) (S 3) ++ wBook G (a 2) (S 2)) H.size q → A q) (hP1 : va_P G.1 vwCl (wBook G (a 3) N ++ wBook G (a 2) (S 2)) H1) (hD1 : va_D (va_A (wBook G (a 3) (S 3) ++ wBook G (a 2) (S 2)) H.size) (wBook G (a 3) N ++ wBook G (a 2) (S 2))) : va_P G.1 vwCl (wHM G a (va_up S 3 N)) H1 ∧ va_D A (wHM G a (va_up S 3 N)) := by
  obtain ⟨h1, h2⟩ := va_join (wr := wH0 G a (S 0 0 0) ++ wPad G (a 1) (S 1) ++ wBook G (a 4) (S 4) ++ wLay G (a 5) (S 5) ++ wLay G (a 6) (S 6)) (w1 := wBook G (a 3) N ++ wBook G (a 2) (S 2)) hP hD [8, 9, 10, 11, 4, 5, 6, 7] [0, 1, 2, 3, 12, 13, 14, 15, 16, 17, 18, 19, 20, 21, 22, 23, 24, 25, 26, 27, 28, 29, 30, 31, 32, 33, 34, 35, 36, 37, 38, 39] rfl rfl (by decide) (by decide) hk hF hP1 hD1
  exact ⟨h1.sub [0, 1, 2, 3, 36, 37, 38, 39, 32, 33, 34, 35, 4, 5, 6, 7, 8, 9, 10, 11, 12, 13, 14, 15, 16, 17, 18, 19, 20, 21, 22, 23, 24, 25, 26, 27, 28, 29, 30, 31] rfl, h2.sub [0, 1, 2, 3, 36, 37, 38, 39, 32, 33, 34, 35, 4, 5, 6, 7, 8, 9, 10, 11, 12, 13, 14, 15, 16, 17, 18, 19, 20, 21, 22, 23, 24, 25, 26, 27, 28, 29, 30, 31] (by decide) rfl⟩
theorem jn_hm_S4_S2_mS4 {G : GT} {a : Nat → Nat → Nat} {S : Nat → Ob} {N : Ob} {A : Nat → Prop} {H H1 : Heap} (hP : va_P G.1 vwCl (wHM G a S) H) (hD : va_D A (wHM G a S)) (hk : ∀ q : Nat, q < H.size → ¬ va_A (wBook G (a 4) (S 4) ++ wBook G (a 2) (S 2)) H.size q → H1[q]? = H[q]?) (hF : ∀ q, va_A (wBook G (a 4) (S 4) ++ wBook G (a 2) (S 2)) H.size q → A q) (hP1 : va_P G.1 vwCl (wBook G (a 4) N ++ wBook G (a 2) (S 2)) H1) (hD1 : va_D (va_A (wBook G (a 4) (S 4) ++ wBook G (a 2) (S 2)) H.size) (wBook G (a 4) N ++ wBook G (a 2) (S 2))) : va_P G.1 vwCl (wHM G a (va_up S 4 N)) H1 ∧ va_D A (wHM G a (va_up S 4 N)) := by
  obtain ⟨h1, h2⟩ := va_join (wr := wH0 G a (S 0 0 0) ++ wPad G (a 1) (S 1) ++ wBook G (a 3) (S 3) ++ wLay G (a 5) (S 5) ++ wLay G (a 6) (S 6)) (w1 := wBook G (a 4) N ++ wBook G (a 2) (S 2)) hP hD [12, 13, 14, 15, 4, 5, 6, 7] [0, 1, 2, 3, 8, 9, 10, 11, 16, 17, 18, 19, 20, 21, 22, 23, 24, 25, 26, 27, 28, 29, 30, 31, 32, 33, 34, 35, 36, 37, 38, 39] rfl rfl (by decide) (by decide) hk hF hP1 hD1
  exact ⟨h1.sub [0, 1, 2, 3, 36, 37, 38, 39, 4, 5, 6, 7, 32, 33, 34, 35, 8, 9, 10, 11, 12, 13, 14, 15, 16, 17, 18, 19, 20, 21, 22, 23, 24, 25, 26, 27, 28, 29, 30, 31] rfl, h2.sub [0, 1, 2, 3, 36, 37, 38, 39, 4, 5, 6, 7, 32, 33, 34, 35, 8, 9, 10, 11, 12, 13, 14, 15, 16, 17, 18, 19, 20, 21, 22, 23, 24, 25, 26, 27, 28, 29, 30, 31] (by decide) rfl⟩
theorem jn_hm_S2_S3_mS2 {G : GT} {a : Nat → Nat → Nat} {S : Nat → Ob} {N : Ob} {A : Nat → Prop} {H H1 : Heap} (hP : va_P G.1 vwCl (wHM G a S) H) (hD : va_D A (wHM G a S)) (hk : ∀ q : Nat, q < H.size → ¬ va_A (wBook G (a 2) (S 2) ++ wBook G (a 3) (S 3)) H.size q → H1[q]? = H[q]?) (hF : ∀ q, va_A (wBook G (a 2) (S 2) ++ wBook G (a 3) (S 3)) H.size q → A q) (hP1 : va_P G.1 vwCl (wBook G (a 2) N ++ wBook G (a 3) (S 3)) H1) (hD1 : va_D (va_A (wBook G (a 2) (S 2) ++ wBook G (a 3) (S 3)) H.size) (wBook G (a 2) N ++ wBook G (a 3) (S 3))) : va_P G.1 vwCl (wHM G a (va_up S 2 N)) H1 ∧ va_D A (wHM G a (va_up S 2 N)) := by
  obtain ⟨h1, h2⟩ := va_join (wr := wH0 G a (S 0 0 0) ++ wPad G (a 1) (S 1) ++ wBook G (a 4) (S 4) ++ wLay G (a 5) (S 5) ++ wLay G (a 6) (S 6)) (w1 := wBook G (a 2) N ++ wBook G (a 3) (S 3)) hP hD [4, 5, 6, 7, 8, 9, 10, 11] [0, 1, 2, 3, 12, 13, 14, 15, 16, 17, 18, 19, 20, 21, 22, 23, 24, 25, 26, 27, 28, 29, 30, 31, 32, 33, 34, 35, 36, 37, 38, 39] rfl rfl (by decide) (by decide) hk hF hP1 hD1
  exact ⟨h1.sub [0, 1, 2, 3, 32, 33, 34, 35, 36, 37, 38, 39, 4, 5, 6, 7, 8, 9, 10, 11, 12, 13, 14, 15, 16, 17, 18, 19, 20, 21, 22, 23, 24, 25, 26, 27, 28, 29, 30, 31] rfl, h2.sub [0, 1, 2, 3, 32, 33, 34, 35, 36, 37, 38, 39, 4, 5, 6, 7, 8, 9, 10, 11, 12, 13, 14, 15, 16, 17, 18, 19, 20, 21, 22, 23, 24, 25, 26, 27, 28, 29, 30, 31] (by decide) rfl⟩
theorem jn_hm_S2_S4_mS2 {G : GT} {a : Nat → Nat → Nat} {S : Nat → Ob} {N : Ob} {A : Nat → Prop} {H H1 : Heap} (hP : va_P G.1 vwCl (wHM G a S) H) (hD : va_D A (wHM G a S)) (hk : ∀ q : Nat, q < H.size → ¬ va_A (wBook G (a 2) (S 2) ++ wBook G (a 4) (S 4)) H.size q → H1[q]? = H[q]?) (hF : ∀ q, va_A (wBook G (a 2) (S 2) ++ wBook G (a 4) (S 4)) H.size q → A q) (hP1 : va_P G.1 vwCl (wBook G (a 2) N ++ wBook G (a 4) (S 4)) H1) (hD1 : va_D (va_A (wBook G (a 2) (S 2) ++ wBook G (a 4) (S 4)) H.size) (wBook G (a 2) N ++ wBook G (a 4) (S 4))) : va_P G.1 vwCl (wHM G a (va_up S 2 N)) H1 ∧ va_D A (wHM G a (va_up S 2 N)) := by
  obtain ⟨h1, h2⟩ := va_join (wr := wH0 G a (S 0 0 0) ++ wPad G (a 1) (S 1) ++ wBook G (a 3) (S 3) ++ wLay G (a 5) (S 5) ++ wLay G (a 6) (S 6)) (w1 := wBook G (a 2) N ++ wBook G (a 4) (S 4)) hP hD [4, 5, 6, 7, 12, 13, 14, 15] [0, 1, 2, 3, 8, 9, 10, 11, 16, 17, 18, 19, 20, 21, 22, 23, 24, 25, 26, 27, 28, 29, 30, 31, 32, 33, 34, 35, 36, 37, 38, 39] rfl rfl (by decide) (by decide) hk hF hP1 hD1
  exact ⟨h1.sub [0, 1, 2, 3, 32, 33, 34, 35, 4, 5, 6, 7, 36, 37, 38, 39, 8, 9, 10, 11, 12, 13, 14, 15, 16, 17, 18, 19, 20, 21, 22, 23, 24, 25, 26, 27, 28, 29, 30, 31] rfl, h2.sub [0, 1, 2, 3, 32, 33, 34, 35, 4, 5, 6, 7, 36, 37, 38, 39, 8, 9, 10, 11, 12, 13, 14, 15, 16, 17, 18, 19, 20, 21, 22, 23, 24, 25, 26, 27, 28, 29, 30, 31] (by decide) rfl⟩
def p_X3_fault (S : (Nat → Ob))   : Option (Int32) := ((p_X2_faultPlace (S 1)).bind fun v_1 => (some v_1))
abbrev rmX3_fault : Room := { frames := 2, cells := 0, slots := 0, locals := 44 }
set_option maxHeartbeats 4000000 in
set_option maxRecDepth 100000 in
theorem c_X3_fault (l : Launch) (G : GT) (a : Nat → Nat → Nat) (S : Nat → Ob) (r0 : Int32) (hrun : p_X3_fault S = some r0) : Met l yX3_fault wsX3_fault rmX3_fault (PreR G [.ref (a 0 0)] (wHM G a S)) (Ri r0) 0 0 (fun _ => False) := by
  refine Met.ofW (cc := cX3_fault) (maxL := 1) (ret := (some .int)) (by decide) rfl ?_
  intro p e s m args below meth c s₁ Bd hml hv
  obtain ⟨rfl, hP, hC⟩ := hv
  have hx := Bd.exec
  have hb := Bd.bytes
  have hr := Bd.returns
  have hts := atoms_spec (ws := wsX3_fault) Bd.pre
  have hown : s.vm.findClass RX3 = some m.cls := findClass_of_methodNamed Bd.named
  have hlocks := Bd.notSynchronized
  have hK := hC.1
  have iwX3 : ∀ w ∈ wsX30, w ∈ wsX3_fault := by decide +kernel
  have ha0 := hts (.fieldLink RX3 12 "HeadMarks" "pad" "LHeadMarks$Pad;") (by decide +kernel)
  have hl := lv_entry [.ref (a 0 0)] (n := 1) (Nat.le_of_ble_eq_true rfl)
  rw [lg_entry_eq]
  generalize (lg_sl [.ref (a 0 0)] ++ List.replicate (1 - (lg_sl [.ref (a 0 0)]).length) Slot.unset).toArray = ls at hl ⊢
  have hl : lv_has ls 1 [(0, .ref (a 0 0))] := hl
  rw [p_X3_fault] at hrun
  refine lv_aload_n hx hb dX3_fault_0 rfl (lv_at hl 0 rfl) ?_
  refine va_get (D := G.1) (ci := 3) (v := .ref ((a 1) 0)) (C := RX3) (T := TX3) (N := 6) hx hb hts iwX3 hown hK hP 0 rfl rfl 0 (by decide) ha0 (fun _ h9 => h9) rfl dX3_fault_1 ?_
  obtain ⟨v_1, e_2, hrun⟩ := bd hrun
  refine y_ro (va_runV (As := []) (rest := []) ⟨hx, hb, hml, hown, hts⟩ (c_X2_faultPlace l G (a 1) (S 1)  v_1 e_2) (cwV 0 hts gX3_fault_X2_faultPlace rfl rfl rfl (by decide +kernel) ⟨Nat.le_of_ble_eq_true rfl, Nat.le_of_ble_eq_true rfl⟩) ⟨PreR.blind, va_recv hK hP (ci := 2) (q0 := 2) rfl rfl, y_preR hC (hP.sub (ws' := wPad G (a 1) (S 1)) [2, 3] rfl)⟩ rfl rfl hl.1 rfl (lv_room (Nat.le_of_ble_eq_true rfl)) dX3_fault_4 ⟨Nat.zero_le _, Nat.zero_le _⟩) ?_
  exact W.iret (v := v_1) hx hb hr (fun t ht hW => ⟨v_1, rfl, si hrun, ht⟩) (fun _ h => absurd h List.not_mem_nil) dX3_fault_7
def p_X3_line (S : (Nat → Ob)) (u1 : Int32) (u2 : Int32)  : Option (Int32) := (if u1 < nI 0 then (some (-1)) else (if u1 < ((S 2) 3 0) then (if u2 = nI 0 then ((ldI ((S 2) 0) 60 u1).bind fun v_4 => ((p_X3_classOf v_4).bind fun v_6 => (if v_6 = (-6) then (some (-6)) else ((ldI ((S 2) 0) 60 u1).bind fun v_9 => (some v_9))))) else (if u2 = nI 1 then ((ldI ((S 5) 0) 60 u1).bind fun v_12 => (some v_12)) else (if u2 = nI 2 then ((ldI ((S 5) 0) 60 u1).bind fun v_15 => ((ldI ((S 5) 4) 120 v_15).bind fun v_17 => (some (u1 - v_17)))) else (if u2 = nI 3 then ((ldI ((S 2) 1) 60 u1).bind fun v_20 => (some v_20)) else (if u2 = nI 4 then ((ldI ((S 5) 2) 60 u1).bind fun v_23 => (some v_23)) else (if u2 = nI 5 then ((ldI ((S 5) 3) 60 u1).bind fun v_26 => (some v_26)) else (some (-2)))))))) else (some (-1))))
abbrev rmX3_line : Room := { frames := 1, cells := 0, slots := 0, locals := 20 }
set_option maxHeartbeats 4000000 in
set_option maxRecDepth 100000 in
theorem c_X3_line (l : Launch) (G : GT) (a : Nat → Nat → Nat) (S : Nat → Ob) (u1 u2 : Int32) (r0 : Int32) (hrun : p_X3_line S u1 u2 = some r0) : Met l yX3_line wsX3_line rmX3_line (PreR G [.ref (a 0 0), .int u1, .int u2] (wHM G a S)) (Ri r0) 0 0 (fun _ => False) := by
  refine Met.ofW (cc := cX3_line) (maxL := 3) (ret := (some .int)) (by decide) rfl ?_
  intro p e s m args below meth c s₁ Bd hml hv
  obtain ⟨rfl, hP, hC⟩ := hv
  have hx := Bd.exec
  have hb := Bd.bytes
  have hr := Bd.returns
  have hts := atoms_spec (ws := wsX3_line) Bd.pre
  have hown : s.vm.findClass RX3 = some m.cls := findClass_of_methodNamed Bd.named
  have hlocks := Bd.notSynchronized
  have hK := hC.1
  have iwX0 : ∀ w ∈ wsX00, w ∈ wsX3_line := by decide +kernel
  have iwX1 : ∀ w ∈ wsX10, w ∈ wsX3_line := by decide +kernel
  have iwX3 : ∀ w ∈ wsX30, w ∈ wsX3_line := by decide +kernel
  have ha0 := hts (.fieldLink RX3 19 "HeadMarks" "book" "LHeadMarks$Book;") (by decide +kernel)
  have ha1 := hts (.fieldLink RX3 59 "HeadMarks$Book" "lines" "I") (by decide +kernel)
  have ha2 := hts (.fieldLink RX3 80 "HeadMarks$Book" "signs" "[I") (by decide +kernel)
  have ha3 := hts (.fieldLink RX3 34 "HeadMarks" "now" "LHeadMarks$Layout;") (by decide +kernel)
  have ha4 := hts (.fieldLink RX3 87 "HeadMarks$Layout" "pageOf" "[I") (by decide +kernel)
  have ha5 := hts (.fieldLink RX3 90 "HeadMarks$Layout" "linesAhead" "[I") (by decide +kernel)
  have ha6 := hts (.fieldLink RX3 74 "HeadMarks$Book" "broken" "[I") (by decide +kernel)
  have ha7 := hts (.fieldLink RX3 93 "HeadMarks$Layout" "inForce" "[[I") (by decide +kernel)
  have hl := lv_entry [.ref (a 0 0), .int u1, .int u2] (n := 3) (Nat.le_of_ble_eq_true rfl)
  rw [lg_entry_eq]
  generalize (lg_sl [.ref (a 0 0), .int u1, .int u2] ++ List.replicate (3 - (lg_sl [.ref (a 0 0), .int u1, .int u2]).length) Slot.unset).toArray = ls at hl ⊢
  have hl : lv_has ls 3 [(0, .ref (a 0 0)), (1, .int u1), (2, .int u2)] := hl
  rw [p_X3_line] at hrun
  refine lv_iload_n hx hb dX3_line_0 rfl (lv_at hl 1 rfl) ?_
  refine lv_if_lt (tgt := 15) hx hb dX3_line_1 (by decide) (fun c_1 => ?_) (fun c_1 => ?_)
  · replace hrun := it_pos c_1 hrun
    refine lv_iconst (v := -1) hx hb dX3_line_15 (by decide) ?_
    exact W.iret (v := (-1)) hx hb hr (fun t ht hW => ⟨(-1), rfl, si hrun, ht⟩) (fun _ h => absurd h List.not_mem_nil) dX3_line_16
  · replace hrun := it_neg c_1 hrun
    refine lv_iload_n hx hb dX3_line_4 rfl (lv_at hl 1 rfl) ?_
    refine lv_aload_n hx hb dX3_line_5 rfl (lv_at hl 0 rfl) ?_
    refine va_get (D := G.1) (ci := 3) (v := .ref ((a 2) 0)) (C := RX3) (T := TX3) (N := 6) hx hb hts iwX3 hown hK hP 0 rfl rfl 1 (by decide) ha0 (fun _ h9 => h9) rfl dX3_line_6 ?_
    refine va_get (D := G.1) (ci := 0) (v := .int ((S 2) 3 0)) (C := RX0) (T := TX0) (N := 4) hx hb hts iwX0 hown hK hP 4 rfl rfl 3 (by decide) ha1 (fun _ h9 => h9) rfl dX3_line_9 ?_
    refine lv_icmp_lt (tgt := 17) hx hb dX3_line_12 (by decide) (fun c_2 => ?_) (fun c_2 => ?_)
    · replace hrun := it_pos c_2 hrun
      refine lv_iload_n hx hb dX3_line_17 rfl (lv_at hl 2 rfl) ?_
      by_cases c_3 : u2 = nI 0
      · replace hrun := it_pos c_3 hrun
        refine lv_tableIn (tgt := 56) hx hb dX3_line_18 (by rw [c_3]; decide) (by rw [c_3]; decide) (off := 38) (by rw [c_3]; rfl) (by decide) ?_
        refine lv_aload_n hx hb dX3_line_56 rfl (lv_at hl 0 rfl) ?_
        refine va_get (D := G.1) (ci := 3) (v := .ref ((a 2) 0)) (C := RX3) (T := TX3) (N := 6) hx hb hts iwX3 hown hK hP 0 rfl rfl 1 (by decide) ha0 (fun _ h9 => h9) rfl dX3_line_57 ?_
        refine va_get (D := G.1) (ci := 0) (v := .ref ((a 2) 1)) (C := RX0) (T := TX0) (N := 4) hx hb hts iwX0 hown hK hP 4 rfl rfl 0 (by decide) ha2 (fun _ h9 => h9) rfl dX3_line_60 ?_
        refine lv_iload_n hx hb dX3_line_63 rfl (lv_at hl 1 rfl) ?_
        obtain ⟨v_4, e_5, hrun⟩ := bd hrun
        refine y_ald hx hb hK hP 5 0 rfl rfl e_5 dX3_line_64 ?_
        obtain ⟨v_6, e_7, hrun⟩ := bd hrun
        refine y_ro (va_runS (As := [.int v_4]) (rest := []) ⟨hx, hb, hml, hown, hts⟩ (c_X3_classOf l G   v_4 v_6 e_7) (cwS 1 hts gX3_line_X3_classOf rfl rfl rfl (by decide +kernel) ⟨Nat.le_of_ble_eq_true rfl, Nat.le_of_ble_eq_true rfl⟩) ⟨PreR.blind, y_preR hC (fun _ _ h => by cases h)⟩ rfl rfl hl.1 rfl (lv_room (Nat.le_of_ble_eq_true rfl)) dX3_line_65 ⟨Nat.zero_le _, Nat.zero_le _⟩) ?_
        refine lv_bipush (v := -6) hx hb dX3_line_68 (by decide) ?_
        refine lv_icmp_ne (tgt := 78) hx hb dX3_line_70 (by decide) (fun c_8 => ?_) (fun c_8 => ?_)
        · replace hrun := it_neg c_8 hrun
          refine lv_aload_n hx hb dX3_line_78 rfl (lv_at hl 0 rfl) ?_
          refine va_get (D := G.1) (ci := 3) (v := .ref ((a 2) 0)) (C := RX3) (T := TX3) (N := 6) hx hb hts iwX3 hown hK hP 0 rfl rfl 1 (by decide) ha0 (fun _ h9 => h9) rfl dX3_line_79 ?_
          refine va_get (D := G.1) (ci := 0) (v := .ref ((a 2) 1)) (C := RX0) (T := TX0) (N := 4) hx hb hts iwX0 hown hK hP 4 rfl rfl 0 (by decide) ha2 (fun _ h9 => h9) rfl dX3_line_82 ?_
          refine lv_iload_n hx hb dX3_line_85 rfl (lv_at hl 1 rfl) ?_
          obtain ⟨v_9, e_10, hrun⟩ := bd hrun
          refine y_ald hx hb hK hP 5 0 rfl rfl e_10 dX3_line_86 ?_
          exact W.iret (v := v_9) hx hb hr (fun t ht hW => ⟨v_9, rfl, si hrun, ht⟩) (fun _ h => absurd h List.not_mem_nil) dX3_line_87
        · replace hrun := it_pos c_8 hrun
          refine lv_bipush (v := -6) hx hb dX3_line_73 (by decide) ?_
          refine lv_goto (tgt := 87) hx hb dX3_line_75 (by decide) ?_
          exact W.iret (v := (-6)) hx hb hr (fun t ht hW => ⟨(-6), rfl, si hrun, ht⟩) (fun _ h => absurd h List.not_mem_nil) dX3_line_87
      · replace hrun := it_neg c_3 hrun
        by_cases c_11 : u2 = nI 1
        · replace hrun := it_pos c_11 hrun
          refine lv_tableIn (tgt := 88) hx hb dX3_line_18 (by rw [c_11]; decide) (by rw [c_11]; decide) (off := 70) (by rw [c_11]; rfl) (by decide) ?_
          refine lv_aload_n hx hb dX3_line_88 rfl (lv_at hl 0 rfl) ?_
          refine va_get (D := G.1) (ci := 3) (v := .ref ((a 5) 0)) (C := RX3) (T := TX3) (N := 6) hx hb hts iwX3 hown hK hP 0 rfl rfl 4 (by decide) ha3 (fun _ h9 => h9) rfl dX3_line_89 ?_
          refine va_get (D := G.1) (ci := 1) (v := .ref ((a 5) 1)) (C := RX1) (T := TX1) (N := 9) hx hb hts iwX1 hown hK hP 16 rfl rfl 0 (by decide) ha4 (fun _ h9 => h9) rfl dX3_line_92 ?_
          refine lv_iload_n hx hb dX3_line_95 rfl (lv_at hl 1 rfl) ?_
          obtain ⟨v_12, e_13, hrun⟩ := bd hrun
          refine y_ald hx hb hK hP 17 0 rfl rfl e_13 dX3_line_96 ?_
          exact W.iret (v := v_12) hx hb hr (fun t ht hW => ⟨v_12, rfl, si hrun, ht⟩) (fun _ h => absurd h List.not_mem_nil) dX3_line_97
        · replace hrun := it_neg c_11 hrun
          by_cases c_14 : u2 = nI 2
          · replace hrun := it_pos c_14 hrun
            refine lv_tableIn (tgt := 98) hx hb dX3_line_18 (by rw [c_14]; decide) (by rw [c_14]; decide) (off := 80) (by rw [c_14]; rfl) (by decide) ?_
            refine lv_iload_n hx hb dX3_line_98 rfl (lv_at hl 1 rfl) ?_
            refine lv_aload_n hx hb dX3_line_99 rfl (lv_at hl 0 rfl) ?_
            refine va_get (D := G.1) (ci := 3) (v := .ref ((a 5) 0)) (C := RX3) (T := TX3) (N := 6) hx hb hts iwX3 hown hK hP 0 rfl rfl 4 (by decide) ha3 (fun _ h9 => h9) rfl dX3_line_100 ?_
            refine va_get (D := G.1) (ci := 1) (v := .ref ((a 5) 6)) (C := RX1) (T := TX1) (N := 9) hx hb hts iwX1 hown hK hP 16 rfl rfl 3 (by decide) ha5 (fun _ h9 => h9) rfl dX3_line_103 ?_
            refine lv_aload_n hx hb dX3_line_106 rfl (lv_at hl 0 rfl) ?_
            refine va_get (D := G.1) (ci := 3) (v := .ref ((a 5) 0)) (C := RX3) (T := TX3) (N := 6) hx hb hts iwX3 hown hK hP 0 rfl rfl 4 (by decide) ha3 (fun _ h9 => h9) rfl dX3_line_107 ?_
            refine va_get (D := G.1) (ci := 1) (v := .ref ((a 5) 1)) (C := RX1) (T := TX1) (N := 9) hx hb hts iwX1 hown hK hP 16 rfl rfl 0 (by decide) ha4 (fun _ h9 => h9) rfl dX3_line_110 ?_
            refine lv_iload_n hx hb dX3_line_113 rfl (lv_at hl 1 rfl) ?_
            obtain ⟨v_15, e_16, hrun⟩ := bd hrun
            refine y_ald hx hb hK hP 17 0 rfl rfl e_16 dX3_line_114 ?_
            obtain ⟨v_17, e_18, hrun⟩ := bd hrun
            refine y_ald hx hb hK hP 22 0 rfl rfl e_18 dX3_line_115 ?_
            refine lv_isub hx hb dX3_line_116 ?_
            exact W.iret (v := (u1 - v_17)) hx hb hr (fun t ht hW => ⟨(u1 - v_17), rfl, si hrun, ht⟩) (fun _ h => absurd h List.not_mem_nil) dX3_line_117
          · replace hrun := it_neg c_14 hrun
            by_cases c_19 : u2 = nI 3
            · replace hrun := it_pos c_19 hrun
              refine lv_tableIn (tgt := 118) hx hb dX3_line_18 (by rw [c_19]; decide) (by rw [c_19]; decide) (off := 100) (by rw [c_19]; rfl) (by decide) ?_
              refine lv_aload_n hx hb dX3_line_118 rfl (lv_at hl 0 rfl) ?_
              refine va_get (D := G.1) (ci := 3) (v := .ref ((a 2) 0)) (C := RX3) (T := TX3) (N := 6) hx hb hts iwX3 hown hK hP 0 rfl rfl 1 (by decide) ha0 (fun _ h9 => h9) rfl dX3_line_119 ?_
              refine va_get (D := G.1) (ci := 0) (v := .ref ((a 2) 2)) (C := RX0) (T := TX0) (N := 4) hx hb hts iwX0 hown hK hP 4 rfl rfl 1 (by decide) ha6 (fun _ h9 => h9) rfl dX3_line_122 ?_
              refine lv_iload_n hx hb dX3_line_125 rfl (lv_at hl 1 rfl) ?_
              obtain ⟨v_20, e_21, hrun⟩ := bd hrun
              refine y_ald hx hb hK hP 6 0 rfl rfl e_21 dX3_line_126 ?_
              exact W.iret (v := v_20) hx hb hr (fun t ht hW => ⟨v_20, rfl, si hrun, ht⟩) (fun _ h => absurd h List.not_mem_nil) dX3_line_127
            · replace hrun := it_neg c_19 hrun
              by_cases c_22 : u2 = nI 4
              · replace hrun := it_pos c_22 hrun
                refine lv_tableIn (tgt := 128) hx hb dX3_line_18 (by rw [c_22]; decide) (by rw [c_22]; decide) (off := 110) (by rw [c_22]; rfl) (by decide) ?_
                refine lv_aload_n hx hb dX3_line_128 rfl (lv_at hl 0 rfl) ?_
                refine va_get (D := G.1) (ci := 3) (v := .ref ((a 5) 0)) (C := RX3) (T := TX3) (N := 6) hx hb hts iwX3 hown hK hP 0 rfl rfl 4 (by decide) ha3 (fun _ h9 => h9) rfl dX3_line_129 ?_
                refine va_get (D := G.1) (ci := 1) (v := .ref ((a 5) 3)) (C := RX1) (T := TX1) (N := 9) hx hb hts iwX1 hown hK hP 16 rfl rfl 2 (by decide) ha7 (fun _ h9 => h9) rfl dX3_line_132 ?_
                refine lv_iconst (v := nI 0) hx hb dX3_line_135 (by decide) ?_
                refine y_aald (v := (a 5) 4) hx hb hK hP 19 3 rfl rfl rfl (by decide : ¬ (nI 0 < 0 ∨ 2 ≤ (nI 0).toNatClampNeg)) rfl dX3_line_136 ?_
                refine lv_iload_n hx hb dX3_line_137 rfl (lv_at hl 1 rfl) ?_
                obtain ⟨v_23, e_24, hrun⟩ := bd hrun
                refine y_ald hx hb hK hP 20 0 rfl rfl e_24 dX3_line_138 ?_
                exact W.iret (v := v_23) hx hb hr (fun t ht hW => ⟨v_23, rfl, si hrun, ht⟩) (fun _ h => absurd h List.not_mem_nil) dX3_line_139
              · replace hrun := it_neg c_22 hrun
                by_cases c_25 : u2 = nI 5
                · replace hrun := it_pos c_25 hrun
                  refine lv_tableIn (tgt := 140) hx hb dX3_line_18 (by rw [c_25]; decide) (by rw [c_25]; decide) (off := 122) (by rw [c_25]; rfl) (by decide) ?_
                  refine lv_aload_n hx hb dX3_line_140 rfl (lv_at hl 0 rfl) ?_
                  refine va_get (D := G.1) (ci := 3) (v := .ref ((a 5) 0)) (C := RX3) (T := TX3) (N := 6) hx hb hts iwX3 hown hK hP 0 rfl rfl 4 (by decide) ha3 (fun _ h9 => h9) rfl dX3_line_141 ?_
                  refine va_get (D := G.1) (ci := 1) (v := .ref ((a 5) 3)) (C := RX1) (T := TX1) (N := 9) hx hb hts iwX1 hown hK hP 16 rfl rfl 2 (by decide) ha7 (fun _ h9 => h9) rfl dX3_line_144 ?_
                  refine lv_iconst (v := nI 1) hx hb dX3_line_147 (by decide) ?_
                  refine y_aald (v := (a 5) 5) hx hb hK hP 19 3 rfl rfl rfl (by decide : ¬ (nI 1 < 0 ∨ 2 ≤ (nI 1).toNatClampNeg)) rfl dX3_line_148 ?_
                  refine lv_iload_n hx hb dX3_line_149 rfl (lv_at hl 1 rfl) ?_
                  obtain ⟨v_26, e_27, hrun⟩ := bd hrun
                  refine y_ald hx hb hK hP 21 0 rfl rfl e_27 dX3_line_150 ?_
                  exact W.iret (v := v_26) hx hb hr (fun t ht hW => ⟨v_26, rfl, si hrun, ht⟩) (fun _ h => absurd h List.not_mem_nil) dX3_line_151
                · replace hrun := it_neg c_25 hrun
                  refine lv_tableOut (tgt := 152) hx hb dX3_line_18 (tb_out (n := 6) (by decide) (fun k hk => by rcases (show k = 0 ∨ k = 1 ∨ k = 2 ∨ k = 3 ∨ k = 4 ∨ k = 5 by omega) with rfl | rfl | rfl | rfl | rfl | rfl <;> first | exact c_3 | exact c_11 | exact c_14 | exact c_19 | exact c_22 | exact c_25) (by decide)) (by decide) ?_
                  refine lv_bipush (v := -2) hx hb dX3_line_152 (by decide) ?_
                  exact W.iret (v := (-2)) hx hb hr (fun t ht hW => ⟨(-2), rfl, si hrun, ht⟩) (fun _ h => absurd h List.not_mem_nil) dX3_line_154
    · replace hrun := it_neg c_2 hrun
      refine lv_iconst (v := -1) hx hb dX3_line_15 (by decide) ?_
      exact W.iret (v := (-1)) hx hb hr (fun t ht hW => ⟨(-1), rfl, si hrun, ht⟩) (fun _ h => absurd h List.not_mem_nil) dX3_line_16
def p_X3_page (S : (Nat → Ob)) (u1 : Int32) (u2 : Int32)  : Option (Int32) := ((p_X1_hasPage (S 5) u1).bind fun v_1 => (if v_1 = nI 0 then (some (-1)) else (if u2 = nI 0 then ((ldI ((S 5) 5) 120 u1).bind fun v_6 => (some v_6)) else (if u2 = nI 1 then ((ldI ((S 5) 5) 120 u1).bind fun v_9 => (if v_9 = nI 0 then (some (-6)) else ((ldI ((S 5) 4) 120 u1).bind fun v_12 => (some v_12)))) else (if u2 = nI 2 then ((ldI ((S 5) 8) 120 u1).bind fun v_15 => (some v_15)) else (if u2 = nI 3 then ((p_X1_isShared (S 5) u1).bind fun v_18 => (if v_18 = nI 0 then (some (nI 0)) else (some (nI 1)))) else (some (-2))))))))
abbrev rmX3_page : Room := { frames := 2, cells := 0, slots := 0, locals := 53 }
set_option maxHeartbeats 4000000 in
set_option maxRecDepth 100000 in
theorem c_X3_page (l : Launch) (G : GT) (a : Nat → Nat → Nat) (S : Nat → Ob) (u1 u2 : Int32) (r0 : Int32) (hrun : p_X3_page S u1 u2 = some r0) : Met l yX3_page wsX3_page rmX3_page (PreR G [.ref (a 0 0), .int u1, .int u2] (wHM G a S)) (Ri r0) 0 0 (fun _ => False) := by
  refine Met.ofW (cc := cX3_page) (maxL := 3) (ret := (some .int)) (by decide) rfl ?_
  intro p e s m args below meth c s₁ Bd hml hv
  obtain ⟨rfl, hP, hC⟩ := hv
  have hx := Bd.exec
  have hb := Bd.bytes
  have hr := Bd.returns
  have hts := atoms_spec (ws := wsX3_page) Bd.pre
  have hown : s.vm.findClass RX3 = some m.cls := findClass_of_methodNamed Bd.named
  have hlocks := Bd.notSynchronized
  have hK := hC.1
  have iwX1 : ∀ w ∈ wsX10, w ∈ wsX3_page := by decide +kernel
  have iwX3 : ∀ w ∈ wsX30, w ∈ wsX3_page := by decide +kernel
  have ha0 := hts (.fieldLink RX3 34 "HeadMarks" "now" "LHeadMarks$Layout;") (by decide +kernel)
  have ha1 := hts (.fieldLink RX3 100 "HeadMarks$Layout" "linesOn" "[I") (by decide +kernel)
  have ha2 := hts (.fieldLink RX3 90 "HeadMarks$Layout" "linesAhead" "[I") (by decide +kernel)
  have ha3 := hts (.fieldLink RX3 103 "HeadMarks$Layout" "heads" "[I") (by decide +kernel)
  have hl := lv_entry [.ref (a 0 0), .int u1, .int u2] (n := 3) (Nat.le_of_ble_eq_true rfl)
  rw [lg_entry_eq]
  generalize (lg_sl [.ref (a 0 0), .int u1, .int u2] ++ List.replicate (3 - (lg_sl [.ref (a 0 0), .int u1, .int u2]).length) Slot.unset).toArray = ls at hl ⊢
  have hl : lv_has ls 3 [(0, .ref (a 0 0)), (1, .int u1), (2, .int u2)] := hl
  rw [p_X3_page] at hrun
  refine lv_aload_n hx hb dX3_page_0 rfl (lv_at hl 0 rfl) ?_
  refine va_get (D := G.1) (ci := 3) (v := .ref ((a 5) 0)) (C := RX3) (T := TX3) (N := 6) hx hb hts iwX3 hown hK hP 0 rfl rfl 4 (by decide) ha0 (fun _ h9 => h9) rfl dX3_page_1 ?_
  refine lv_iload_n hx hb dX3_page_4 rfl (lv_at hl 1 rfl) ?_
  obtain ⟨v_1, e_2, hrun⟩ := bd hrun
  refine y_roz (va_runV (As := [.int u1]) (rest := []) ⟨hx, hb, hml, hown, hts⟩ (c_X1_hasPage l G (a 5) (S 5) u1 v_1 e_2) (cwV 1 hts gX3_page_X1_hasPage rfl rfl rfl (by decide +kernel) ⟨Nat.le_of_ble_eq_true rfl, Nat.le_of_ble_eq_true rfl⟩) ⟨PreR.blind, va_recv hK hP (ci := 1) (q0 := 16) rfl rfl, y_preR hC (hP.sub (ws' := wLay G (a 5) (S 5)) [16, 17, 18, 19, 20, 21, 22, 23, 24, 25, 26, 27] rfl)⟩ rfl rfl hl.1 rfl (lv_room (Nat.le_of_ble_eq_true rfl)) dX3_page_5 ⟨Nat.zero_le _, Nat.zero_le _⟩) (fun z_3 => ?_)
  refine lv_if_ne (tgt := 13) hx hb dX3_page_8 (by decide) (fun c_4 => ?_) (fun c_4 => ?_)
  · replace hrun := it_neg c_4 hrun
    refine lv_iload_n hx hb dX3_page_13 rfl (lv_at hl 2 rfl) ?_
    by_cases c_5 : u2 = nI 0
    · replace hrun := it_pos c_5 hrun
      refine lv_tableIn (tgt := 44) hx hb dX3_page_14 (by rw [c_5]; decide) (by rw [c_5]; decide) (off := 30) (by rw [c_5]; rfl) (by decide) ?_
      refine lv_aload_n hx hb dX3_page_44 rfl (lv_at hl 0 rfl) ?_
      refine va_get (D := G.1) (ci := 3) (v := .ref ((a 5) 0)) (C := RX3) (T := TX3) (N := 6) hx hb hts iwX3 hown hK hP 0 rfl rfl 4 (by decide) ha0 (fun _ h9 => h9) rfl dX3_page_45 ?_
      refine va_get (D := G.1) (ci := 1) (v := .ref ((a 5) 7)) (C := RX1) (T := TX1) (N := 9) hx hb hts iwX1 hown hK hP 16 rfl rfl 4 (by decide) ha1 (fun _ h9 => h9) rfl dX3_page_48 ?_
      refine lv_iload_n hx hb dX3_page_51 rfl (lv_at hl 1 rfl) ?_
      obtain ⟨v_6, e_7, hrun⟩ := bd hrun
      refine y_ald hx hb hK hP 23 0 rfl rfl e_7 dX3_page_52 ?_
      exact W.iret (v := v_6) hx hb hr (fun t ht hW => ⟨v_6, rfl, si hrun, ht⟩) (fun _ h => absurd h List.not_mem_nil) dX3_page_53
    · replace hrun := it_neg c_5 hrun
      by_cases c_8 : u2 = nI 1
      · replace hrun := it_pos c_8 hrun
        refine lv_tableIn (tgt := 54) hx hb dX3_page_14 (by rw [c_8]; decide) (by rw [c_8]; decide) (off := 40) (by rw [c_8]; rfl) (by decide) ?_
        refine lv_aload_n hx hb dX3_page_54 rfl (lv_at hl 0 rfl) ?_
        refine va_get (D := G.1) (ci := 3) (v := .ref ((a 5) 0)) (C := RX3) (T := TX3) (N := 6) hx hb hts iwX3 hown hK hP 0 rfl rfl 4 (by decide) ha0 (fun _ h9 => h9) rfl dX3_page_55 ?_
        refine va_get (D := G.1) (ci := 1) (v := .ref ((a 5) 7)) (C := RX1) (T := TX1) (N := 9) hx hb hts iwX1 hown hK hP 16 rfl rfl 4 (by decide) ha1 (fun _ h9 => h9) rfl dX3_page_58 ?_
        refine lv_iload_n hx hb dX3_page_61 rfl (lv_at hl 1 rfl) ?_
        obtain ⟨v_9, e_10, hrun⟩ := bd hrun
        refine y_ald hx hb hK hP 23 0 rfl rfl e_10 dX3_page_62 ?_
        refine lv_if_ne (tgt := 71) hx hb dX3_page_63 (by decide) (fun c_11 => ?_) (fun c_11 => ?_)
        · replace hrun := it_neg c_11 hrun
          refine lv_aload_n hx hb dX3_page_71 rfl (lv_at hl 0 rfl) ?_
          refine va_get (D := G.1) (ci := 3) (v := .ref ((a 5) 0)) (C := RX3) (T := TX3) (N := 6) hx hb hts iwX3 hown hK hP 0 rfl rfl 4 (by decide) ha0 (fun _ h9 => h9) rfl dX3_page_72 ?_
          refine va_get (D := G.1) (ci := 1) (v := .ref ((a 5) 6)) (C := RX1) (T := TX1) (N := 9) hx hb hts iwX1 hown hK hP 16 rfl rfl 3 (by decide) ha2 (fun _ h9 => h9) rfl dX3_page_75 ?_
          refine lv_iload_n hx hb dX3_page_78 rfl (lv_at hl 1 rfl) ?_
          obtain ⟨v_12, e_13, hrun⟩ := bd hrun
          refine y_ald hx hb hK hP 22 0 rfl rfl e_13 dX3_page_79 ?_
          exact W.iret (v := v_12) hx hb hr (fun t ht hW => ⟨v_12, rfl, si hrun, ht⟩) (fun _ h => absurd h List.not_mem_nil) dX3_page_80
        · replace hrun := it_pos c_11 hrun
          refine lv_bipush (v := -6) hx hb dX3_page_66 (by decide) ?_
          refine lv_goto (tgt := 80) hx hb dX3_page_68 (by decide) ?_
          exact W.iret (v := (-6)) hx hb hr (fun t ht hW => ⟨(-6), rfl, si hrun, ht⟩) (fun _ h => absurd h List.not_mem_nil) dX3_page_80
      · replace hrun := it_neg c_8 hrun
        by_cases c_14 : u2 = nI 2
        · replace hrun := it_pos c_14 hrun
          refine lv_tableIn (tgt := 81) hx hb dX3_page_14 (by rw [c_14]; decide) (by rw [c_14]; decide) (off := 67) (by rw [c_14]; rfl) (by decide) ?_
          refine lv_aload_n hx hb dX3_page_81 rfl (lv_at hl 0 rfl) ?_
          refine va_get (D := G.1) (ci := 3) (v := .ref ((a 5) 0)) (C := RX3) (T := TX3) (N := 6) hx hb hts iwX3 hown hK hP 0 rfl rfl 4 (by decide) ha0 (fun _ h9 => h9) rfl dX3_page_82 ?_
          refine va_get (D := G.1) (ci := 1) (v := .ref ((a 5) 11)) (C := RX1) (T := TX1) (N := 9) hx hb hts iwX1 hown hK hP 16 rfl rfl 6 (by decide) ha3 (fun _ h9 => h9) rfl dX3_page_85 ?_
          refine lv_iload_n hx hb dX3_page_88 rfl (lv_at hl 1 rfl) ?_
          obtain ⟨v_15, e_16, hrun⟩ := bd hrun
          refine y_ald hx hb hK hP 27 0 rfl rfl e_16 dX3_page_89 ?_
          exact W.iret (v := v_15) hx hb hr (fun t ht hW => ⟨v_15, rfl, si hrun, ht⟩) (fun _ h => absurd h List.not_mem_nil) dX3_page_90
        · replace hrun := it_neg c_14 hrun
          by_cases c_17 : u2 = nI 3
          · replace hrun := it_pos c_17 hrun
            refine lv_tableIn (tgt := 91) hx hb dX3_page_14 (by rw [c_17]; decide) (by rw [c_17]; decide) (off := 77) (by rw [c_17]; rfl) (by decide) ?_
            refine lv_aload_n hx hb dX3_page_91 rfl (lv_at hl 0 rfl) ?_
            refine va_get (D := G.1) (ci := 3) (v := .ref ((a 5) 0)) (C := RX3) (T := TX3) (N := 6) hx hb hts iwX3 hown hK hP 0 rfl rfl 4 (by decide) ha0 (fun _ h9 => h9) rfl dX3_page_92 ?_
            refine lv_iload_n hx hb dX3_page_95 rfl (lv_at hl 1 rfl) ?_
            obtain ⟨v_18, e_19, hrun⟩ := bd hrun
            refine y_roz (va_runV (As := [.int u1]) (rest := []) ⟨hx, hb, hml, hown, hts⟩ (c_X1_isShared l G (a 5) (S 5) u1 v_18 e_19) (cwV 1 hts gX3_page_X1_isShared rfl rfl rfl (by decide +kernel) ⟨Nat.le_of_ble_eq_true rfl, Nat.le_of_ble_eq_true rfl⟩) ⟨PreR.blind, va_recv hK hP (ci := 1) (q0 := 16) rfl rfl, y_preR hC (hP.sub (ws' := wLay G (a 5) (S 5)) [16, 17, 18, 19, 20, 21, 22, 23, 24, 25, 26, 27] rfl)⟩ rfl rfl hl.1 rfl (lv_room (Nat.le_of_ble_eq_true rfl)) dX3_page_96 ⟨Nat.zero_le _, Nat.zero_le _⟩) (fun z_20 => ?_)
            refine lv_if_eq (tgt := 106) hx hb dX3_page_99 (by decide) (fun c_21 => ?_) (fun c_21 => ?_)
            · replace hrun := it_pos c_21 hrun
              refine lv_iconst (v := nI 0) hx hb dX3_page_106 (by decide) ?_
              exact W.iret (v := (nI 0)) hx hb hr (fun t ht hW => ⟨(nI 0), rfl, si hrun, ht⟩) (fun _ h => absurd h List.not_mem_nil) dX3_page_107
            · replace hrun := it_neg c_21 hrun
              refine lv_iconst (v := nI 1) hx hb dX3_page_102 (by decide) ?_
              refine lv_goto (tgt := 107) hx hb dX3_page_103 (by decide) ?_
              exact W.iret (v := (nI 1)) hx hb hr (fun t ht hW => ⟨(nI 1), rfl, si hrun, ht⟩) (fun _ h => absurd h List.not_mem_nil) dX3_page_107
          · replace hrun := it_neg c_17 hrun
            refine lv_tableOut (tgt := 108) hx hb dX3_page_14 (tb_out (n := 4) (by decide) (fun k hk => by rcases (show k = 0 ∨ k = 1 ∨ k = 2 ∨ k = 3 by omega) with rfl | rfl | rfl | rfl <;> first | exact c_5 | exact c_8 | exact c_14 | exact c_17) (by decide)) (by decide) ?_
            refine lv_bipush (v := -2) hx hb dX3_page_108 (by decide) ?_
            exact W.iret (v := (-2)) hx hb hr (fun t ht hW => ⟨(-2), rfl, si hrun, ht⟩) (fun _ h => absurd h List.not_mem_nil) dX3_page_110
  · replace hrun := it_pos c_4 hrun
    refine lv_iconst (v := -1) hx hb dX3_page_11 (by decide) ?_
    exact W.iret (v := (-1)) hx hb hr (fun t ht hW => ⟨(-1), rfl, si hrun, ht⟩) (fun _ h => absurd h List.not_mem_nil) dX3_page_12
def p_X3_mark (S : (Nat → Ob)) (u1 : Int32) (u2 : Int32) (u3 : Int32)  : Option (Int32) := ((p_X1_hasPage (S 5) u1).bind fun v_1 => (if v_1 = nI 0 then (some (-1)) else (if u2 < nI 0 then (some (-2)) else (if (nI 2) ≤ u2 then (some (-2)) else (if u3 < nI 0 then (some (-2)) else (if u3 ≤ (nI 2) then ((p_X1_markOf (S 5) u1 u2 u3).bind fun v_9 => (some v_9)) else (some (-2))))))))
abbrev rmX3_mark : Room := { frames := 2, cells := 0, slots := 0, locals := 45 }
set_option maxHeartbeats 4000000 in
set_option maxRecDepth 100000 in
theorem c_X3_mark (l : Launch) (G : GT) (a : Nat → Nat → Nat) (S : Nat → Ob) (u1 u2 u3 : Int32) (r0 : Int32) (hrun : p_X3_mark S u1 u2 u3 = some r0) : Met l yX3_mark wsX3_mark rmX3_mark (PreR G [.ref (a 0 0), .int u1, .int u2, .int u3] (wHM G a S)) (Ri r0) 0 0 (fun _ => False) := by
  refine Met.ofW (cc := cX3_mark) (maxL := 4) (ret := (some .int)) (by decide) rfl ?_
  intro p e s m args below meth c s₁ Bd hml hv
  obtain ⟨rfl, hP, hC⟩ := hv
  have hx := Bd.exec
  have hb := Bd.bytes
  have hr := Bd.returns
  have hts := atoms_spec (ws := wsX3_mark) Bd.pre
  have hown : s.vm.findClass RX3 = some m.cls := findClass_of_methodNamed Bd.named
  have hlocks := Bd.notSynchronized
  have hK := hC.1
  have iwX3 : ∀ w ∈ wsX30, w ∈ wsX3_mark := by decide +kernel
  have ha0 := hts (.fieldLink RX3 34 "HeadMarks" "now" "LHeadMarks$Layout;") (by decide +kernel)
  have hl := lv_entry [.ref (a 0 0), .int u1, .int u2, .int u3] (n := 4) (Nat.le_of_ble_eq_true rfl)
  rw [lg_entry_eq]
  generalize (lg_sl [.ref (a 0 0), .int u1, .int u2, .int u3] ++ List.replicate (4 - (lg_sl [.ref (a 0 0), .int u1, .int u2, .int u3]).length) Slot.unset).toArray = ls at hl ⊢
  have hl : lv_has ls 4 [(0, .ref (a 0 0)), (1, .int u1), (2, .int u2), (3, .int u3)] := hl
  rw [p_X3_mark] at hrun
  refine lv_aload_n hx hb dX3_mark_0 rfl (lv_at hl 0 rfl) ?_
  refine va_get (D := G.1) (ci := 3) (v := .ref ((a 5) 0)) (C := RX3) (T := TX3) (N := 6) hx hb hts iwX3 hown hK hP 0 rfl rfl 4 (by decide) ha0 (fun _ h9 => h9) rfl dX3_mark_1 ?_
  refine lv_iload_n hx hb dX3_mark_4 rfl (lv_at hl 1 rfl) ?_
  obtain ⟨v_1, e_2, hrun⟩ := bd hrun
  refine y_roz (va_runV (As := [.int u1]) (rest := []) ⟨hx, hb, hml, hown, hts⟩ (c_X1_hasPage l G (a 5) (S 5) u1 v_1 e_2) (cwV 1 hts gX3_mark_X1_hasPage rfl rfl rfl (by decide +kernel) ⟨Nat.le_of_ble_eq_true rfl, Nat.le_of_ble_eq_true rfl⟩) ⟨PreR.blind, va_recv hK hP (ci := 1) (q0 := 16) rfl rfl, y_preR hC (hP.sub (ws' := wLay G (a 5) (S 5)) [16, 17, 18, 19, 20, 21, 22, 23, 24, 25, 26, 27] rfl)⟩ rfl rfl hl.1 rfl (lv_room (Nat.le_of_ble_eq_true rfl)) dX3_mark_5 ⟨Nat.zero_le _, Nat.zero_le _⟩) (fun z_3 => ?_)
  refine lv_if_ne (tgt := 13) hx hb dX3_mark_8 (by decide) (fun c_4 => ?_) (fun c_4 => ?_)
  · replace hrun := it_neg c_4 hrun
    refine lv_iload_n hx hb dX3_mark_13 rfl (lv_at hl 2 rfl) ?_
    refine lv_if_lt (tgt := 31) hx hb dX3_mark_14 (by decide) (fun c_5 => ?_) (fun c_5 => ?_)
    · replace hrun := it_pos c_5 hrun
      refine lv_bipush (v := -2) hx hb dX3_mark_31 (by decide) ?_
      exact W.iret (v := (-2)) hx hb hr (fun t ht hW => ⟨(-2), rfl, si hrun, ht⟩) (fun _ h => absurd h List.not_mem_nil) dX3_mark_33
    · replace hrun := it_neg c_5 hrun
      refine lv_iload_n hx hb dX3_mark_17 rfl (lv_at hl 2 rfl) ?_
      refine lv_iconst (v := nI 2) hx hb dX3_mark_18 (by decide) ?_
      refine lv_icmp_ge (tgt := 31) hx hb dX3_mark_19 (by decide) (fun c_6 => ?_) (fun c_6 => ?_)
      · replace hrun := it_pos c_6 hrun
        refine lv_bipush (v := -2) hx hb dX3_mark_31 (by decide) ?_
        exact W.iret (v := (-2)) hx hb hr (fun t ht hW => ⟨(-2), rfl, si hrun, ht⟩) (fun _ h => absurd h List.not_mem_nil) dX3_mark_33
      · replace hrun := it_neg c_6 hrun
        refine lv_iload_n hx hb dX3_mark_22 rfl (lv_at hl 3 rfl) ?_
        refine lv_if_lt (tgt := 31) hx hb dX3_mark_23 (by decide) (fun c_7 => ?_) (fun c_7 => ?_)
        · replace hrun := it_pos c_7 hrun
          refine lv_bipush (v := -2) hx hb dX3_mark_31 (by decide) ?_
          exact W.iret (v := (-2)) hx hb hr (fun t ht hW => ⟨(-2), rfl, si hrun, ht⟩) (fun _ h => absurd h List.not_mem_nil) dX3_mark_33
        · replace hrun := it_neg c_7 hrun
          refine lv_iload_n hx hb dX3_mark_26 rfl (lv_at hl 3 rfl) ?_
          refine lv_iconst (v := nI 2) hx hb dX3_mark_27 (by decide) ?_
          refine lv_icmp_le (tgt := 34) hx hb dX3_mark_28 (by decide) (fun c_8 => ?_) (fun c_8 => ?_)
          · replace hrun := it_pos c_8 hrun
            refine lv_aload_n hx hb dX3_mark_34 rfl (lv_at hl 0 rfl) ?_
            refine va_get (D := G.1) (ci := 3) (v := .ref ((a 5) 0)) (C := RX3) (T := TX3) (N := 6) hx hb hts iwX3 hown hK hP 0 rfl rfl 4 (by decide) ha0 (fun _ h9 => h9) rfl dX3_mark_35 ?_
            refine lv_iload_n hx hb dX3_mark_38 rfl (lv_at hl 1 rfl) ?_
            refine lv_iload_n hx hb dX3_mark_39 rfl (lv_at hl 2 rfl) ?_
            refine lv_iload_n hx hb dX3_mark_40 rfl (lv_at hl 3 rfl) ?_
            obtain ⟨v_9, e_10, hrun⟩ := bd hrun
            refine y_ro (va_runV (As := [.int u1, .int u2, .int u3]) (rest := []) ⟨hx, hb, hml, hown, hts⟩ (c_X1_markOf l G (a 5) (S 5) u1 u2 u3 v_9 e_10) (cwV 3 hts gX3_mark_X1_markOf rfl rfl rfl (by decide +kernel) ⟨Nat.le_of_ble_eq_true rfl, Nat.le_of_ble_eq_true rfl⟩) ⟨PreR.blind, va_recv hK hP (ci := 1) (q0 := 16) rfl rfl, y_preR hC (hP.sub (ws' := wLay G (a 5) (S 5)) [16, 17, 18, 19, 20, 21, 22, 23, 24, 25, 26, 27] rfl)⟩ rfl rfl hl.1 rfl (lv_room (Nat.le_of_ble_eq_true rfl)) dX3_mark_41 ⟨Nat.zero_le _, Nat.zero_le _⟩) ?_
            exact W.iret (v := v_9) hx hb hr (fun t ht hW => ⟨v_9, rfl, si hrun, ht⟩) (fun _ h => absurd h List.not_mem_nil) dX3_mark_44
          · replace hrun := it_neg c_8 hrun
            refine lv_bipush (v := -2) hx hb dX3_mark_31 (by decide) ?_
            exact W.iret (v := (-2)) hx hb hr (fun t ht hW => ⟨(-2), rfl, si hrun, ht⟩) (fun _ h => absurd h List.not_mem_nil) dX3_mark_33
  · replace hrun := it_pos c_4 hrun
    refine lv_iconst (v := -1) hx hb dX3_mark_11 (by decide) ?_
    exact W.iret (v := (-1)) hx hb hr (fun t ht hW => ⟨(-1), rfl, si hrun, ht⟩) (fun _ h => absurd h List.not_mem_nil) dX3_mark_12
def p_X3_headed_54 (S : (Nat → Ob)) (K : Int32 → Int32 → Int32 → Int32 → Option (Int32)) (x1 : Int32) (x2 : Int32) (x3 : Int32) (x4 : Int32)  : Option (Int32) := K x1 x2 x3 (x4 + nI 1)
def p_X3_headed_17 (S : (Nat → Ob)) : Nat → Int32 → Int32 → Int32 → Int32 → Option (Int32)
  | 0, _, _, _, _ => none
  | n + 1, x1, x2, x3, x4 => (if ((S 5) 10 0) < x4 then (if x2 = (-1) then (some x3) else (some (-6))) else ((ldI ((S 5) 8) 120 x4).bind fun v_6 => (if v_6 = x1 then (if x3 = x2 then (some x4) else p_X3_headed_54 S (p_X3_headed_17 S n) x1 x2 (x3 + nI 1) x4) else p_X3_headed_54 S (p_X3_headed_17 S n) x1 x2 x3 x4)))
def p_X3_headed (S : (Nat → Ob)) (u1 : Int32) (u2 : Int32)  : Option (Int32) := ((p_X3_classOf u1).bind fun v_1 => (if v_1 = (-6) then (some (-2)) else p_X3_headed_17 S 200 u1 u2 (nI 0) (nI 1)))
abbrev rmX3_headed : Room := { frames := 1, cells := 0, slots := 0, locals := 20 }
set_option maxHeartbeats 4000000 in
set_option maxRecDepth 100000 in
theorem c_X3_headed (l : Launch) (G : GT) (a : Nat → Nat → Nat) (S : Nat → Ob) (u1 u2 : Int32) (r0 : Int32) (hrun : p_X3_headed S u1 u2 = some r0) : Met l yX3_headed wsX3_headed rmX3_headed (PreR G [.ref (a 0 0), .int u1, .int u2] (wHM G a S)) (Ri r0) 0 0 (fun _ => False) := by
  refine Met.ofW (cc := cX3_headed) (maxL := 5) (ret := (some .int)) (by decide) rfl ?_
  intro p e s m args below meth c s₁ Bd hml hv
  obtain ⟨rfl, hP, hC⟩ := hv
  have hx := Bd.exec
  have hb := Bd.bytes
  have hr := Bd.returns
  have hts := atoms_spec (ws := wsX3_headed) Bd.pre
  have hown : s.vm.findClass RX3 = some m.cls := findClass_of_methodNamed Bd.named
  have hlocks := Bd.notSynchronized
  have hK := hC.1
  have iwX1 : ∀ w ∈ wsX10, w ∈ wsX3_headed := by decide +kernel
  have iwX3 : ∀ w ∈ wsX30, w ∈ wsX3_headed := by decide +kernel
  have ha0 := hts (.fieldLink RX3 34 "HeadMarks" "now" "LHeadMarks$Layout;") (by decide +kernel)
  have ha1 := hts (.fieldLink RX3 113 "HeadMarks$Layout" "pages" "I") (by decide +kernel)
  have ha2 := hts (.fieldLink RX3 103 "HeadMarks$Layout" "heads" "[I") (by decide +kernel)
  have kH_17 : ∀ (n : Nat) (x1 x2 x3 x4 : Int32) , ∀ (ls : Array Slot), lv_has ls 5 [(0, .ref (a 0 0)), (1, .int x1), (2, .int x2), (3, .int x3), (4, .int x4)] → p_X3_headed_17 S n x1 x2 x3 x4 = some r0 → W p l e (headSpec wsX3_headed rmX3_headed).room s m ([.ref (a 0 0), .int u1, .int u2] : List Value).toArray below meth c s.heap [] 0 0 (MQ below (Ri r0) ([.ref (a 0 0), .int u1, .int u2] : List Value).toArray s 0 0 (fun _ => False)) (F0 m 17 ls []) := by
    intro n
    induction n with
    | zero => intro x1 x2 x3 x4 ls hl hrun; exact absurd (hrun : (none : Option (Int32)) = some r0) (fun h => by cases h)
    | succ n ih =>
      have kJ_54 : ∀ (x1 x2 x3 x4 : Int32) , ∀ (ls : Array Slot), lv_has ls 5 [(0, .ref (a 0 0)), (1, .int x1), (2, .int x2), (3, .int x3), (4, .int x4)] → p_X3_headed_54 S (p_X3_headed_17 S n) x1 x2 x3 x4 = some r0 → W p l e (headSpec wsX3_headed rmX3_headed).room s m ([.ref (a 0 0), .int u1, .int u2] : List Value).toArray below meth c s.heap [] 0 0 (MQ below (Ri r0) ([.ref (a 0 0), .int u1, .int u2] : List Value).toArray s 0 0 (fun _ => False)) (F0 m 54 ls []) := by
        intro x1 x2 x3 x4 ls hl hrun
        rw [p_X3_headed_54] at hrun
        refine lv_iinc (v := (x4 + nI 1)) (lv' := [(4, .int (x4 + nI 1)), (0, .ref (a 0 0)), (1, .int x1), (2, .int x2), (3, .int x3)]) hx hb dX3_headed_54 hl (k := 4) rfl rfl (by decide) rfl (fun ls hl => ?_)
        refine lv_goto (tgt := 17) hx hb dX3_headed_57 (by decide) ?_
        exact ih x1 x2 x3 (x4 + nI 1)  ls (lv_sub hl [1, 2, 3, 4, 0] rfl) hrun
      intro x1 x2 x3 x4 ls hl hrun
      rw [p_X3_headed_17] at hrun
      refine lv_iload hx hb dX3_headed_17 (lv_at hl 4 rfl) ?_
      refine lv_aload_n hx hb dX3_headed_19 rfl (lv_at hl 0 rfl) ?_
      refine va_get (D := G.1) (ci := 3) (v := .ref ((a 5) 0)) (C := RX3) (T := TX3) (N := 6) hx hb hts iwX3 hown hK hP 0 rfl rfl 4 (by decide) ha0 (fun _ h9 => h9) rfl dX3_headed_20 ?_
      refine va_get (D := G.1) (ci := 1) (v := .int ((S 5) 10 0)) (C := RX1) (T := TX1) (N := 9) hx hb hts iwX1 hown hK hP 16 rfl rfl 8 (by decide) ha1 (fun _ h9 => h9) rfl dX3_headed_23 ?_
      refine lv_icmp_gt (tgt := 60) hx hb dX3_headed_26 (by decide) (fun c_4 => ?_) (fun c_4 => ?_)
      · replace hrun := it_pos c_4 hrun
        refine lv_iload_n hx hb dX3_headed_60 rfl (lv_at hl 2 rfl) ?_
        refine lv_iconst (v := -1) hx hb dX3_headed_61 (by decide) ?_
        refine lv_icmp_ne (tgt := 69) hx hb dX3_headed_62 (by decide) (fun c_5 => ?_) (fun c_5 => ?_)
        · replace hrun := it_neg c_5 hrun
          refine lv_bipush (v := -6) hx hb dX3_headed_69 (by decide) ?_
          exact W.iret (v := (-6)) hx hb hr (fun t ht hW => ⟨(-6), rfl, si hrun, ht⟩) (fun _ h => absurd h List.not_mem_nil) dX3_headed_71
        · replace hrun := it_pos c_5 hrun
          refine lv_iload_n hx hb dX3_headed_65 rfl (lv_at hl 3 rfl) ?_
          refine lv_goto (tgt := 71) hx hb dX3_headed_66 (by decide) ?_
          exact W.iret (v := x3) hx hb hr (fun t ht hW => ⟨x3, rfl, si hrun, ht⟩) (fun _ h => absurd h List.not_mem_nil) dX3_headed_71
      · replace hrun := it_neg c_4 hrun
        refine lv_aload_n hx hb dX3_headed_29 rfl (lv_at hl 0 rfl) ?_
        refine va_get (D := G.1) (ci := 3) (v := .ref ((a 5) 0)) (C := RX3) (T := TX3) (N := 6) hx hb hts iwX3 hown hK hP 0 rfl rfl 4 (by decide) ha0 (fun _ h9 => h9) rfl dX3_headed_30 ?_
        refine va_get (D := G.1) (ci := 1) (v := .ref ((a 5) 11)) (C := RX1) (T := TX1) (N := 9) hx hb hts iwX1 hown hK hP 16 rfl rfl 6 (by decide) ha2 (fun _ h9 => h9) rfl dX3_headed_33 ?_
        refine lv_iload hx hb dX3_headed_36 (lv_at hl 4 rfl) ?_
        obtain ⟨v_6, e_7, hrun⟩ := bd hrun
        refine y_ald hx hb hK hP 27 0 rfl rfl e_7 dX3_headed_38 ?_
        refine lv_iload_n hx hb dX3_headed_39 rfl (lv_at hl 1 rfl) ?_
        refine lv_icmp_ne (tgt := 54) hx hb dX3_headed_40 (by decide) (fun c_8 => ?_) (fun c_8 => ?_)
        · replace hrun := it_neg c_8 hrun
          exact kJ_54 x1 x2 x3 x4  ls (lv_sub hl [0, 1, 2, 3, 4] rfl) hrun
        · replace hrun := it_pos c_8 hrun
          refine lv_iload_n hx hb dX3_headed_43 rfl (lv_at hl 3 rfl) ?_
          refine lv_iload_n hx hb dX3_headed_44 rfl (lv_at hl 2 rfl) ?_
          refine lv_icmp_ne (tgt := 51) hx hb dX3_headed_45 (by decide) (fun c_9 => ?_) (fun c_9 => ?_)
          · replace hrun := it_neg c_9 hrun
            refine lv_iinc (v := (x3 + nI 1)) (lv' := [(3, .int (x3 + nI 1)), (0, .ref (a 0 0)), (1, .int x1), (2, .int x2), (4, .int x4)]) hx hb dX3_headed_51 hl (k := 3) rfl rfl (by decide) rfl (fun ls hl => ?_)
            exact kJ_54 x1 x2 (x3 + nI 1) x4  ls (lv_sub hl [1, 2, 3, 0, 4] rfl) hrun
          · replace hrun := it_pos c_9 hrun
            refine lv_iload hx hb dX3_headed_48 (lv_at hl 4 rfl) ?_
            exact W.iret (v := x4) hx hb hr (fun t ht hW => ⟨x4, rfl, si hrun, ht⟩) (fun _ h => absurd h List.not_mem_nil) dX3_headed_50
  have hl := lv_entry [.ref (a 0 0), .int u1, .int u2] (n := 5) (Nat.le_of_ble_eq_true rfl)
  rw [lg_entry_eq]
  generalize (lg_sl [.ref (a 0 0), .int u1, .int u2] ++ List.replicate (5 - (lg_sl [.ref (a 0 0), .int u1, .int u2]).length) Slot.unset).toArray = ls at hl ⊢
  have hl : lv_has ls 5 [(0, .ref (a 0 0)), (1, .int u1), (2, .int u2)] := hl
  rw [p_X3_headed] at hrun
  refine lv_iload_n hx hb dX3_headed_0 rfl (lv_at hl 1 rfl) ?_
  obtain ⟨v_1, e_2, hrun⟩ := bd hrun
  refine y_ro (va_runS (As := [.int u1]) (rest := []) ⟨hx, hb, hml, hown, hts⟩ (c_X3_classOf l G   u1 v_1 e_2) (cwS 1 hts gX3_headed_X3_classOf rfl rfl rfl (by decide +kernel) ⟨Nat.le_of_ble_eq_true rfl, Nat.le_of_ble_eq_true rfl⟩) ⟨PreR.blind, y_preR hC (fun _ _ h => by cases h)⟩ rfl rfl hl.1 rfl (lv_room (Nat.le_of_ble_eq_true rfl)) dX3_headed_1 ⟨Nat.zero_le _, Nat.zero_le _⟩) ?_
  refine lv_bipush (v := -6) hx hb dX3_headed_4 (by decide) ?_
  refine lv_icmp_ne (tgt := 12) hx hb dX3_headed_6 (by decide) (fun c_3 => ?_) (fun c_3 => ?_)
  · replace hrun := it_neg c_3 hrun
    refine lv_iconst (v := nI 0) hx hb dX3_headed_12 (by decide) ?_
    refine lv_istore_n (lv' := [(3, .int (nI 0)), (0, .ref (a 0 0)), (1, .int u1), (2, .int u2)]) hx hb dX3_headed_13 rfl hl (by decide) rfl (fun ls hl => ?_)
    refine lv_iconst (v := nI 1) hx hb dX3_headed_14 (by decide) ?_
    refine lv_istore (lv' := [(4, .int (nI 1)), (3, .int (nI 0)), (0, .ref (a 0 0)), (1, .int u1), (2, .int u2)]) hx hb dX3_headed_15 hl (by decide) rfl (fun ls hl => ?_)
    exact kH_17 200 u1 u2 (nI 0) (nI 1)  ls (lv_sub hl [2, 3, 4, 1, 0] rfl) hrun
  · replace hrun := it_pos c_3 hrun
    refine lv_bipush (v := -2) hx hb dX3_headed_9 (by decide) ?_
    exact W.iret (v := (-2)) hx hb hr (fun t ht hW => ⟨(-2), rfl, si hrun, ht⟩) (fun _ h => absurd h List.not_mem_nil) dX3_headed_11
