/-! bits counted: Integer.bitCount and the reference's ones -/
section BT1
set_option maxRecDepth 100000 in
set_option maxHeartbeats 4000000 in
theorem x_bc : ∀ S, S < 4096 → f_J6_bitCount_0f7a4 (nI S) = some (nI (pc 12 S)) := by decide +kernel
theorem x_number {S : Nat} (h : S < 4096) : f_X9_number (nI S) = some (nI (pc 12 S)) := by
  unfold f_X9_number
  rw [x_bc S h, Option.bind_some]
theorem m_ones {S : Nat} (h : S < 2 ^ 31) : f_X11_ones (nI S) = some (nI (pc 12 S)) := by
  have hl : f_X11_ones_4 (nI S) FU 0 0 = some (nI (pc 12 S)) := by
    refine lp_at (fun m i z => f_X11_ones_4 (nI S) m z (nI i)) 12 (fun i => nI (pc i S)) rfl (by omega) ?_ ?_
    · intro m
      rw [f_X11_ones_4_s, if_pos (by decide)]
    · intro m i hi
      rw [f_X11_ones_4_s, if_neg (show ¬ (12 : Int32) ≤ nI i from ng_le (a := 12) (by omega) (by omega) hi), nu_bit h (by omega), nI_1]
      cases hb : S.testBit i with
      | true =>
        rw [if_pos rfl, nI_1]
        simp [pc, hb]
      | false =>
        rw [if_neg (by decide), show (0 : Int32) = nI 0 from rfl, nI_add]
        simp [pc, hb]
  unfold f_X11_ones
  rw [hl, Option.bind_some]
end BT1
