/-! the start -/
section BG1
theorem bg_rows : ∃ z, f_X3_init = some z ∧ LR z := by
  obtain ⟨z, m, k1, k2⟩ := lp_inv (fun m i z => f_X3_init_15 m (nI (i + 3)) z) 198 (fun i z => ∀ j, j < i + 3 → z j = nI (bt j)) (fun m i z hi hI => by
    refine ⟨upd z (i + 3) (nI (bt (i + 3))), fun j hj => ?_, ?_⟩
    · by_cases e : j = i + 3
      · subst e; exact pk_us
      · rw [pk_un e]; exact hI j (by omega)
    · have ed : odivI (nI (i + 2)) 2 = some (nI ((i + 2) / 2)) := by
        rw [show (2 : Int32) = nI 2 from rfl]
        unfold odivI
        rw [if_neg (nI_ne0 (by omega) (by omega)), pk_div (by omega) (by omega) (by omega)]
      try dsimp only
      rw [f_X3_init_15_s, if_neg (show ¬ (200 : Int32) < nI (i + 3) from fun e => by have := (nI_ltI (a := 200) (by omega) (by omega)).mp e; omega), nI_p (by omega), show i + 3 - 1 = i + 2 by omega, ed, Option.bind_some, nu_get _ (show (i + 2) / 2 < 201 by omega) (by omega), Option.bind_some, pk_sub (by omega), nu_get _ (show i + 2 - (i + 2) / 2 < 201 by omega) (by omega), Option.bind_some, hI _ (by omega), hI _ (by omega), show (1 : Int32) = nI 1 from rfl, nI_add, nI_add, nu_set _ _ (show i + 3 < 201 by omega) (by omega), Option.bind_some, nI_add, bt_eq (x := i + 3) (by omega), if_neg (by omega), show i + 3 - 1 = i + 2 by omega, show i + 3 + 1 = i + 1 + 3 by omega]) FU 0 (fun _ => 0) (by omega) (by rw [FU_eq]; omega) (fun j hj => by
      show (0 : Int32) = nI (if j < 3 then 0 else 1 + btF 200 ((j - 1) / 2) + btF 200 (j - 1 - (j - 1) / 2))
      rw [if_pos (by omega)]; rfl)
  refine ⟨z, ?_, fun i hi => k1 i (by omega)⟩
  have k2' : f_X3_init_15 FU 3 (fun _ => 0) = _ := k2
  unfold f_X3_init
  rw [k2', f_X3_init_15_s, if_pos (show (200 : Int32) < nI (198 + 3) by decide), Option.bind_some]
theorem bg_all : AllSt Inv := ⟨s_say, s_wipe, s_fault, s_room, s_worth, s_bear, s_far, s_may, s_takes, s_fill, s_whole, s_ways, s_mean, s_odds, s_first, s_game, s_pairs, s_late, s_rows, s_longer, s_arms, s_rests, s_minutes, s_away, s_come, s_forget, s_sits, s_begin, s_see, s_fits, s_judge, s_image, s_restore, s_told⟩
theorem bg_start : ∃ ox om, f_X10_init = some ox ∧ f_X11_init = some om ∧ Inv (0 : Int32) (fun _ => 0) (1 : Int32) (2 : Int32) (0 : Int32) (0 : Int32) (fun _ => 0) (fun _ => 0) (fun _ => 0) (fun _ => 0) (fun _ => 0) ox.1 ox.2.1 ox.2.2.1 (fun _ => 0) (fun _ => 0) (fun _ => 0) (0 : Int32) (0 : Int32) (fun _ => 0) (0 : Int32) (0 : Int32) (fun _ => 0) (0 : Int32) (0 : Int32) (fun _ => 0) (fun _ => 0) (fun _ => 0) (0 : Int32) (0 : Int32) (0 : Int32) (fun _ => 0) (fun _ => 0) (0 : Int32) (fun _ => 0) (fun _ => 0) (0 : Int32) (fun _ => 0) (fun _ => 0) (fun _ => 0) (fun _ => 0) (0 : Int64) (0 : Int64) (0 : Int32) (fun _ => 0) ox.2.2.2 (0 : Int32) (1 : Int32) (2 : Int32) (0 : Int64) (0 : Int64) (0 : Int64) (0 : Int32) (0 : Int32) (0 : Int32) (0 : Int32) (fun _ => 0) (fun _ => 0) (fun _ => 0) om (fun _ => 0) (fun _ => 0) (fun _ => 0) (fun _ => 0) (fun _ => 0) (fun _ => 0) (fun _ => 0) (fun _ => 0) (fun _ => 0) (fun _ => 0) (fun _ => 0) (fun _ => 0) (fun _ => 0) none none := by
  have hst : ∀ i, i < 1 → (fun _ : Nat => (0 : Int32)) i = nI ((fun _ : Nat => 0) i) ∧ (fun _ : Nat => 0) i ≤ 98 := fun i _ => ⟨rfl, Nat.zero_le _⟩
  obtain ⟨zr, r1, r2⟩ := bg_rows
  obtain ⟨g', g1, g2⟩ := x_measure (n := 1) (B := 2) (g := fun _ => 0) (fc := fun _ => 0) (fb := fun _ => 0) (m := 0) (by omega) (by omega) (by omega) hst (by decide)
  obtain ⟨far', m1, m2⟩ := m_findFar (n := 1) (f := fun _ => 0) (m := 0) (by omega) (by omega) hst (by omega)
  refine ⟨(g', (fun j => if j < 1 then nI (clm (Dd 1 (Ef 1 (fun _ => 0) 0)) 2 j 1) else 0), (fun j => if j < 1 then nI (nbr (Dd 1 (Ef 1 (fun _ => 0) 0)) j 1) else 0), zr), far', ?_, ?_, 1, 2, 0, 0, (fun _ => 0), (fun _ => 0), (fun _ => 0), (fun _ => 0), (fun _ => 0), 0, ⟨rfl, by omega, rfl, rfl⟩, ⟨rfl, by omega, by omega, rfl, by omega, by omega, rfl, by omega, rfl, by omega, hst, fun j _ => ⟨rfl, Nat.zero_le _⟩, fun i hi => by omega, fun q hq => by omega⟩, ⟨rfl, rfl, rfl, rfl, rfl, rfl, rfl, rfl, rfl⟩, ⟨g2, m2, fun j hj => if_pos hj, fun j hj => if_pos hj⟩, Or.inl rfl, Or.inl rfl, r2, rfl, rfl⟩
  · unfold f_X10_init f_X5_init f_X7_init f_X0_init f_X9_init f_X8_init f_X1_init f_X4_init f_X2_init f_X6_init
    rw [Option.bind_some, Option.bind_some, Option.bind_some, Option.bind_some, Option.bind_some, Option.bind_some, Option.bind_some, Option.bind_some, Option.bind_some, Option.bind_some, Option.bind_some, r1, Option.bind_some, show f_X0_measure 1 2 (fun _ => 0) (fun _ => 0) (fun _ => 0) (fun _ => 0) 0 = _ from g1, Option.bind_some]
  · unfold f_X11_init
    rw [show f_X11_findFar 1 (fun _ => 0) (fun _ => 0) 0 = _ from m1, Option.bind_some]
end BG1
