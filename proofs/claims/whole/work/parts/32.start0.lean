/-! what holds at first, and the law from its entry -/
def ruZ : Nat → Nat := fun j => ([5, 0, 1, 1, 0, 0, 1, 1, 2] : List Nat).getD j 0
theorem ruZ_ok : RuR ruZ := by unfold RuR; decide
theorem tZ_ok : ∀ r, r < 9 → tFirst r = nI (ruZ r) ∧ stZ (121 + r) = nI (ruZ r) := by decide
theorem inv_0 : Inv SZ MZ := by
  have z : (0 : Int32) = nI 0 := by decide
  refine ⟨⟨(0, fun _ => 0, fun _ => 0, ruZ), ?_, ?_, ?_, ruZ_ok⟩, ⟨0, fun _ => 0, ⟨z, by omega, fun j hj => by omega⟩, z, fun j hj => by omega⟩, ⟨fun _ => 0, fun _ => (0, fun _ => 0, fun _ => 0, ruZ), z, fun i hi => ⟨Nat.zero_le 1, z, fun h => absurd h (show ¬ (0:Nat) = 1 by decide)⟩⟩⟩
  · exact ⟨⟨by omega, fun j hj => by omega, fun r q1 q2 => (tZ_ok r q2).1, ruZ_ok.nine, ruZ_ok.ok.1⟩, z, fun j hj => by omega, (tZ_ok 0 (by omega)).1⟩
  · exact ⟨⟨z, z, fun j hj => by omega, fun p a b => absurd (Nat.le_trans a b) (by show ¬ 1 ≤ 0; omega)⟩, fun p a b => absurd (Nat.le_trans a b) (by show ¬ 1 ≤ 0; omega)⟩
  · exact ⟨by show stZ 120 = nI 0; decide, by omega, fun j hj => by omega, fun r hr => ⟨(tZ_ok r hr).2, ruZ_ok.nine r hr⟩, ruZ_ok.ok.1⟩
theorem inv_ok : LawOK Inv := ⟨inv_0, k_say, k_wipe, k_fault, k_read, k_rule, k_cut, k_line, k_page, k_mark, k_headed, k_chapter, k_changed, k_worst, k_fit, k_image, k_restore, k_count⟩
