/-! minutes: the class -/
section MN2
theorem x_go {n : Nat} {Dm : Nat → Nat → Nat} {B h : Nat} {w : Nat → Nat} {g fw fb : Nat → Int32} (hD : Dok n Dm) (hB : B ≤ 99) (hF : Far n Dm g) (hw : Wor n w fw) (hnb : Nbs n Dm fb) (hh : h < 6) : ∀ j, j ≤ 3 → ∀ f k S t (o : Nat → Nat) (ss sb : Int32) (sn : Nat → Int32) (vo : Nat → Int64), j < f → S < 2 ^ n → fil n Dm B S → 55440 ^ j * k < 2 ^ 62 → (∀ c, c ≤ 12 → vo c = lN (o c)) → ∃ ss' sb' sn' vo', goN f (lN t) (nI h) ss sb (nI n) (nI B) sn g fw fb vo (nI S) (nI j) (lN (55440 ^ j * k)) = some (lN (t + k * aF n Dm B w h j S), ss', sb', sn', vo') ∧ ∀ c, c ≤ 12 → vo' c = lN (o c + k * pF n Dm B w h (ind c) j S) := by
  have hn := hD.1
  have hp12 : 2 ^ n ≤ 2 ^ 12 := Nat.pow_le_pow_right (by omega) hn
  intro j
  induction j with
  | zero =>
    intro _ f k S t o ss sb sn vo hf hS hfl hb ho
    obtain ⟨f', rfl⟩ : ∃ f', f = f' + 1 := ⟨f - 1, by omega⟩
    have hpS := pc_le S 12
    refine ⟨ss, sb, sn, vp_updL vo (pc 12 S) (lN (o (pc 12 S) + k)), ?_, ?_⟩
    · show f_X6_go (goN f') (lN t) (nI h) ss sb (nI n) (nI B) sn g fw fb vo (nI S) (nI 0) (lN (55440 ^ 0 * k)) = _
      unfold f_X6_go
      rw [if_neg (show ¬ (0 : Int32) < nI 0 by decide), x_bc S (by omega), Option.bind_some, nu_get _ (show pc 12 S < 13 by omega) (by omega), Option.bind_some, ho _ hpS, Nat.pow_zero, Nat.one_mul, lN_add, nu_setL _ _ (show pc 12 S < 13 by omega) (by omega), Option.bind_some]
      show _ = some (lN (t + k * 0), _)
      rw [Nat.mul_zero, Nat.add_zero]
    · intro c hc
      show _ = lN (o c + k * ind c S)
      unfold ind
      by_cases e : c = pc 12 S
      · subst e; rw [pk_uLs, if_pos rfl, Nat.mul_one]
      · rw [pk_uLn e, ho c hc, if_neg (fun h => e h.symm), Nat.mul_zero, Nat.add_zero]
  | succ j ih =>
    intro hj f k S t o ss sb sn vo hf hS hfl hb ho
    obtain ⟨f', rfl⟩ : ∃ f', f = f' + 1 := ⟨f - 1, by omega⟩
    have hpS := pc_le S 12
    rw [Nat.pow_succ] at hb
    have hb2 : 55440 ^ j * (27720 * k) < 2 ^ 62 := by
      have e : 55440 ^ j * 55440 * k = 2 * (55440 ^ j * (27720 * k)) := by
        rw [Nat.mul_assoc, Nat.mul_left_comm _ 27720 k, Nat.mul_left_comm _ 55440 k]; omega
      omega
    have hj1 : nI (j + 1) - 1 = nI j := nI_p (by omega)
    -- one comes
    have hc1 : ∃ ss' sb' sn' vo', f_X6_oneComes (goN f') (lN t) (nI h) (nI n) (nI B) sn g fw fb vo (nI S) (nI (j + 1)) (lN (55440 ^ j * (27720 * k))) = some (lN (t + k * ((if tak n Dm B w S h = none then 55440 ^ j * 27720 else 0) + 27720 * aF n Dm B w h j (st1 n Dm B w h S))), ss', sb', sn', vo') ∧ ∀ c, c ≤ 12 → vo' c = lN (o c + k * (27720 * pF n Dm B w h (ind c) j (st1 n Dm B w h S))) := by
      unfold f_X6_oneComes
      rw [(x_seatSet hD hB hF hS).1 hfl, Option.bind_some]
      dsimp only
      rw [x_choice hn (by omega) (NF_nea n Dm _ S) hw hnb hh, Option.bind_some, hj1]
      cases ht : tak n Dm B w S h with
      | none =>
        obtain ⟨ss', sb', sn', vo', e1, e2⟩ := ih (by omega) f' (27720 * k) S (t + 55440 ^ j * (27720 * k)) o (nI S) (nI B) (NF n Dm (fun j => if j < 12 then 99 else sn j) S) vo (by omega) hS hfl hb2 ho
        refine ⟨ss', sb', sn', vo', ?_, ?_⟩
        · rw [if_pos (show eO32 none = -6 from rfl), lN_add, e1, Option.bind_some, Option.bind_some]
          dsimp only
          rw [st1_none ht, if_pos rfl]
          congr 3
          rw [Nat.mul_add, Nat.mul_left_comm k, Nat.mul_comm k 27720, Nat.mul_left_comm k, Nat.mul_assoc 27720 k]
          omega
        · intro c hc
          rw [e2 c hc, st1_none ht]
          congr 2
          rw [Nat.mul_left_comm k, Nat.mul_assoc]
      | some u =>
        have hu := (tak_lt ht).1
        obtain ⟨ss', sb', sn', vo', e1, e2⟩ := ih (by omega) f' (27720 * k) (S ||| 2 ^ u) t o (nI S) (nI B) (NF n Dm (fun j => if j < 12 then 99 else sn j) S) vo (by omega) (Nat.or_lt_two_pow hS (Nat.pow_lt_pow_right (by omega) hu)) (by rw [← st1_some ht]; exact fil_st1 hD hB hfl) hb2 ho
        refine ⟨ss', sb', sn', vo', ?_, ?_⟩
        · rw [if_neg (show ¬ eO32 (some u) = -6 from eO32_neg (by omega)), show eO32 (some u) = nI u from rfl, nu_or (by omega), e1, Option.bind_some, Option.bind_some]
          dsimp only
          rw [st1_some ht, if_neg (by simp), Nat.zero_add]
          congr 3
          rw [Nat.mul_left_comm k, Nat.mul_assoc]
        · intro c hc
          rw [e2 c hc, st1_some ht]
          congr 2
          rw [Nat.mul_left_comm k, Nat.mul_assoc]
    obtain ⟨s1, b1, n1, v1, a1, a2⟩ := hc1
    -- one goes
    have hc2 : ∀ t (o : Nat → Nat) (ss sb : Int32) (sn : Nat → Int32) (vo : Nat → Int64), (∀ c, c ≤ 12 → vo c = lN (o c)) → ∃ ss' sb' sn' vo', f_X6_oneGoes (goN f') (lN t) (nI h) ss sb (nI n) (nI B) sn g fw fb vo (nI S) (nI (j + 1)) (lN (55440 ^ j * (27720 * k))) = some (lN (t + k * gs (aF n Dm B w h j) S), ss', sb', sn', vo') ∧ ∀ c, c ≤ 12 → vo' c = lN (o c + k * gs (pF n Dm B w h (ind c) j) S) := by
      intro t o ss sb sn vo ho
      unfold f_X6_oneGoes
      rw [x_bc S (by omega), Option.bind_some]
      by_cases h0 : pc 12 S = 0
      · obtain ⟨ss', sb', sn', vo', e1, e2⟩ := ih (by omega) f' (27720 * k) S t o ss sb sn vo (by omega) hS hfl hb2 ho
        refine ⟨ss', sb', sn', vo', ?_, ?_⟩
        · rw [h0, if_pos (show nI 0 = 0 from rfl), hj1, e1, Option.bind_some]
          unfold gs
          rw [if_pos h0, Nat.mul_left_comm k, Nat.mul_assoc]
        · intro c hc
          rw [e2 c hc]
          unfold gs
          rw [if_pos h0, Nat.mul_left_comm k, Nat.mul_assoc]
      · rw [if_neg (nI_ne0 (by omega) (by omega))]
        obtain ⟨s', m, k1, k2⟩ := lp_inv (fun m i (z : Int64 × Int32 × Int32 × (Nat → Int32) × (Nat → Int64)) => f_X6_oneGoes_24 (goN f') (nI h) (nI n) (nI B) g fw fb (nI S) (nI (j + 1)) (lN (55440 ^ j * (27720 * k))) (nI (pc 12 S)) m (nI i) z.1 z.2.1 z.2.2.1 z.2.2.2.1 z.2.2.2.2) 12 (fun i z => z.1 = lN (t + k * sm (fun s => if S.testBit s then 27720 / pc 12 S * aF n Dm B w h j (andn S (2 ^ s)) else 0) i) ∧ ∀ c, c ≤ 12 → z.2.2.2.2 c = lN (o c + k * sm (fun s => if S.testBit s then 27720 / pc 12 S * pF n Dm B w h (ind c) j (andn S (2 ^ s)) else 0) i)) (fun m i z hi hI => by
          obtain ⟨i1, i2⟩ := hI
          cases hbt : S.testBit i with
          | false =>
            refine ⟨z, ⟨?_, ?_⟩, ?_⟩
            · rw [i1]
              show _ = lN (t + k * (sm (fun s => if S.testBit s then 27720 / pc 12 S * aF n Dm B w h j (andn S (2 ^ s)) else 0) i + (if S.testBit i then _ else 0)))
              rw [hbt, if_neg (by decide), Nat.add_zero]
            · intro c hc
              rw [i2 c hc]
              show _ = lN (o c + k * (sm (fun s => if S.testBit s then 27720 / pc 12 S * pF n Dm B w h (ind c) j (andn S (2 ^ s)) else 0) i + (if S.testBit i then _ else 0)))
              rw [hbt, if_neg (by decide), Nat.add_zero]
            · try dsimp only
              rw [f_X6_oneGoes_24_s, if_neg (show ¬ (12 : Int32) ≤ nI i from ng_le (a := 12) (by omega) (by omega) hi), if_pos ((nu_bit0 (by omega) (by omega)).mpr hbt), Option.bind_some, nI_1]
          | true =>
            have hq : 55440 ^ j * (27720 / pc 12 S * k) < 2 ^ 62 := Nat.lt_of_le_of_lt (Nat.mul_le_mul_left _ (Nat.mul_le_mul_right k (Nat.div_le_self 27720 _))) hb2
            obtain ⟨ss', sb', sn', vo', e1, e2⟩ := ih (by omega) f' (27720 / pc 12 S * k) (andn S (2 ^ i)) (t + k * sm (fun s => if S.testBit s then 27720 / pc 12 S * aF n Dm B w h j (andn S (2 ^ s)) else 0) i) (fun c => o c + k * sm (fun s => if S.testBit s then 27720 / pc 12 S * pF n Dm B w h (ind c) j (andn S (2 ^ s)) else 0) i) z.2.1 z.2.2.1 z.2.2.2.1 z.2.2.2.2 (by omega) (andn_lt hS) (fil_sub hfl (fun t ht => by rw [andn_bit, Bool.and_eq_true] at ht; exact ht.1)) hq i2
            refine ⟨(lN (t + k * sm (fun s => if S.testBit s then 27720 / pc 12 S * aF n Dm B w h j (andn S (2 ^ s)) else 0) i + 27720 / pc 12 S * k * aF n Dm B w h j (andn S (2 ^ i))), ss', sb', sn', vo'), ⟨?_, ?_⟩, ?_⟩
            · show _ = lN (t + k * (sm (fun s => if S.testBit s then 27720 / pc 12 S * aF n Dm B w h j (andn S (2 ^ s)) else 0) i + (if S.testBit i then 27720 / pc 12 S * aF n Dm B w h j (andn S (2 ^ i)) else 0)))
              rw [hbt, if_pos rfl, Nat.mul_add, Nat.mul_left_comm k, Nat.mul_assoc (27720 / pc 12 S), Nat.add_assoc]
            · intro c hc
              show vo' c = lN (o c + k * (sm (fun s => if S.testBit s then 27720 / pc 12 S * pF n Dm B w h (ind c) j (andn S (2 ^ s)) else 0) i + (if S.testBit i then 27720 / pc 12 S * pF n Dm B w h (ind c) j (andn S (2 ^ i)) else 0)))
              rw [e2 c hc, hbt, if_pos rfl, Nat.mul_add, Nat.mul_left_comm k (27720 / pc 12 S), Nat.mul_assoc (27720 / pc 12 S), Nat.add_assoc]
            · try dsimp only
              rw [f_X6_oneGoes_24_s, if_neg (show ¬ (12 : Int32) ≤ nI i from ng_le (a := 12) (by omega) (by omega) hi), if_neg (fun e => by rw [(nu_bit0 (by omega) (by omega)).mp e] at hbt; cases hbt), odvp (by omega) hpS hb2, Option.bind_some, nu_shl (by omega), nu_andn, hj1, i1, e1, Option.bind_some, Option.bind_some, nI_1]) FU 0 (lN t, ss, sb, sn, vo) (Nat.zero_le _) (by rw [FU_eq]; omega) (by
          refine ⟨?_, fun c hc => ?_⟩
          · show lN t = lN (t + k * 0)
            rw [Nat.mul_zero, Nat.add_zero]
          · show vo c = lN (o c + k * 0)
            rw [Nat.mul_zero, Nat.add_zero]
            exact ho c hc)
        refine ⟨s'.2.1, s'.2.2.1, s'.2.2.2.1, s'.2.2.2.2, ?_, ?_⟩
        · have k2' : f_X6_oneGoes_24 (goN f') (nI h) (nI n) (nI B) g fw fb (nI S) (nI (j + 1)) (lN (55440 ^ j * (27720 * k))) (nI (pc 12 S)) FU 0 (lN t) ss sb sn vo = _ := k2
          rw [k2', f_X6_oneGoes_24_s, if_pos (show (12 : Int32) ≤ nI 12 by decide), Option.bind_some, k1.1]
          unfold gs
          rw [if_neg h0]
        · intro c hc
          rw [k1.2 c hc]
          unfold gs
          rw [if_neg h0]
    obtain ⟨s2, b2, n2, v2, a3, a4⟩ := hc2 _ _ s1 b1 n1 v1 a2
    refine ⟨s2, b2, n2, v2, ?_, ?_⟩
    · show f_X6_go (goN f') (lN t) (nI h) ss sb (nI n) (nI B) sn g fw fb vo (nI S) (nI (j + 1)) (lN (55440 ^ (j + 1) * k)) = _
      unfold f_X6_go
      rw [if_pos (show (0 : Int32) < nI (j + 1) from (nI_ltI (a := 0) (by omega) (by omega)).mpr (by omega)), Nat.pow_succ, odv2 hb, Option.bind_some, a1, Option.bind_some, Option.bind_some]
      dsimp only
      rw [a3, Option.bind_some, aF_s]
      congr 3
      rw [Nat.add_assoc, ← Nat.mul_add, Nat.add_assoc]
    · intro c hc
      rw [a4 c hc, pF_s]
      congr 1
      rw [Nat.add_assoc, ← Nat.mul_add]
theorem x_start {n : Nat} {Dm : Nat → Nat → Nat} {B h S M : Nat} {w : Nat → Nat} {g fw fb : Nat → Int32} (hD : Dok n Dm) (hB : B ≤ 99) (hF : Far n Dm g) (hw : Wor n w fw) (hnb : Nbs n Dm fb) (hh : h < 6) (hS : S < 2 ^ n) (hfl : fil n Dm B S) (hM : M ≤ 3) (vo : Nat → Int64) (ss sb : Int32) (sn : Nat → Int32) : ∃ ss' sb' sn' vo', f_X6_start vo ss sb (nI n) (nI B) sn g fw fb (nI S) (nI h) (nI M) = some (lN (aF n Dm B w h M S), lN (55440 ^ M), nI h, vo', ss', sb', sn') ∧ ∀ c, c ≤ 12 → vo' c = lN (pF n Dm B w h (ind c) M S) := by
  have hpw : 55440 ^ M ≤ 55440 ^ 3 := Nat.pow_le_pow_right (by omega) hM
  have hl : f_X6_start_26 (nI M) FU 0 1 = some (lN (55440 ^ M)) := by
    refine lp_at (fun m i y => f_X6_start_26 (nI M) m (nI i) y) M (fun i => lN (55440 ^ i)) rfl (by omega) ?_ ?_
    · intro m
      rw [f_X6_start_26_s, if_pos (ps_le (by omega) (by omega) (Nat.le_refl _))]
    · intro m i hi
      rw [f_X6_start_26_s, if_neg (ng_le (by omega) (by omega) hi), show (55440 : Int64) = lN 55440 from rfl, lN_mul, nI_1, Nat.pow_succ]
  obtain ⟨ss', sb', sn', vo', e1, e2⟩ := x_go (w := w) hD hB hF hw hnb hh M hM 4 1 S 0 (fun _ => 0) ss sb sn (fun j => if j < 13 then 0 else vo j) (by omega) hS hfl (by omega) (fun c hc => by rw [if_pos (by omega)]; rfl)
  refine ⟨ss', sb', sn', vo', ?_, ?_⟩
  · unfold f_X6_start
    rw [Nat.mul_one] at e1
    rw [x_fillL 13 (by omega), Option.bind_some, hl, Option.bind_some, show goN 4 0 (nI h) ss sb (nI n) (nI B) sn g fw fb (fun j => if j < 13 then 0 else vo j) (nI S) (nI M) (lN (55440 ^ M)) = _ from e1, Option.bind_some]
    rw [Nat.zero_add, Nat.one_mul]
  · intro c hc
    rw [e2 c hc, Nat.zero_add, Nat.one_mul]
end MN2
