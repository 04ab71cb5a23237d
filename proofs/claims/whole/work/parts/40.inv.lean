/-! THE INVARIANT: the class and the reference, and one picture of both -/
section IV1
def rset (row : Nat → Nat) : Nat → Nat
  | 0 => 0
  | j + 1 => rset row j ||| 2 ^ row j
def SeenOK (n : Nat) (Dm : Nat → Nat → Nat) (B : Nat) (row : Nat → Nat) (len : Nat) : Prop := len ≤ 12 ∧ ∀ j, j < len → row j < n ∧ B ≤ aw Dm (rset row j) (row j) n
def SC (n B k r : Nat) (st w hb sn ln : Nat → Nat) (seats bear cc sr : Int32) (steps worths comers seen sl : Nat → Int32) : Prop :=
  seats = nI n ∧ 1 ≤ n ∧ n ≤ 12 ∧ bear = nI B ∧ 1 ≤ B ∧ B ≤ 4 ∧ cc = nI k ∧ k ≤ 12 ∧ sr = nI r ∧ r ≤ 8 ∧ (∀ i, i < n → steps i = nI (st i) ∧ st i ≤ 98) ∧ Wor n w worths ∧ (∀ i, i < k → comers i = nI (hb i) ∧ hb i < 6) ∧
  ∀ q, q < r → sl q = nI (ln q) ∧ SeenOK n (Dd n (Ef n st 0)) B (fun j => sn (12 * q + j)) (ln q) ∧ ∀ j, j < ln q → seen (12 * q + j) = nI (sn (12 * q + j))
def BN (n B : Nat) (st : Nat → Nat) (apart clash neigh far : Nat → Int32) : Prop := Far n (Dd n (Ef n st 0)) apart ∧ FarM n (Dd n (Ef n st 0)) far ∧ (∀ j, j < n → clash j = nI (clm (Dd n (Ef n st 0)) B j n)) ∧ Nbs n (Dd n (Ef n st 0)) neigh
/-- whole sets -/
def whB (n : Nat) (Dm : Nat → Nat → Nat) (B S : Nat) : Bool := flb n Dm B S n && decide (opm n Dm B S n = 0)
def wyc (n : Nat) (Dm : Nat → Nat → Nat) (B c : Nat) : Nat → Nat
  | 0 => 0
  | S + 1 => wyc n Dm B c S + (if whB n Dm B S = true ∧ pc 12 S = c then 1 else 0)
/-- in how many of T ways ANY comes through each set, the sets below i worked off -/
def chT (n : Nat) (Dm : Nat → Nat → Nat) (B T : Nat) : Nat → Nat → Nat
  | 0 => fun S => if S = 0 then T else 0
  | i + 1 => fun S => chT n Dm B T i S + (if flb n Dm B i n = true ∧ ∃ s, s < n ∧ (opm n Dm B i n).testBit s = true ∧ S = i ||| 2 ^ s then chT n Dm B T i i / pc 12 (opm n Dm B i n) else 0)
def orc (n : Nat) (Dm : Nat → Nat → Nat) (B T c : Nat) : Nat → Nat
  | 0 => 0
  | S + 1 => orc n Dm B T c S + (if whB n Dm B S = true ∧ pc 12 S = c then chT n Dm B T (2 ^ n) S else 0)
def CenOK (n B : Nat) (Dm : Nat → Nat → Nat) (least most : Int32) (ws : Nat → Int32) (od : Nat → Int64) : Prop :=
  least = eO32 (bst (whB n Dm B) (fun S => -(pc 12 S : Int)) (2 ^ n)) ∧ most = eO32 (bst (whB n Dm B) (fun S => (pc 12 S : Int)) (2 ^ n)) ∧ (∀ c, c ≤ 12 → ws c = nI (wyc n Dm B c (2 ^ n))) ∧ ∀ c, c ≤ 12 → od c = lN (orc n Dm B 479001600 c (2 ^ n))
/-- the game: t = 0 the kind one's turn -/
def gmx (n : Nat) (Dm : Nat → Nat → Nat) (B : Nat) : Nat → Nat → Nat → Nat
  | 0, _, S => pc 12 S
  | f + 1, t, S => if opm n Dm B S n = 0 then pc 12 S else
    match bst (fun s => (opm n Dm B S n).testBit s) (fun s => if t = 0 then (gmx n Dm B f 1 (S ||| 2 ^ s) : Int) else -(gmx n Dm B f 0 (S ||| 2 ^ s) : Int)) n with
    | none => 0
    | some s => gmx n Dm B f (1 - t) (S ||| 2 ^ s)
def MatOK (n B : Nat) (Dm : Nat → Nat → Nat) (kind wicked : Nat → Int32) : Prop := ∀ S, S < 2 ^ n → fil n Dm B S → kind S = nI (gmx n Dm B 13 0 S) ∧ wicked S = nI (gmx n Dm B 13 1 S)
def btF : Nat → Nat → Nat
  | 0, _ => 0
  | f + 1, x => if x < 3 then 0 else 1 + btF f ((x - 1) / 2) + btF f (x - 1 - (x - 1) / 2)
def LR (f : Nat → Int32) : Prop := ∀ i, i ≤ 200 → f i = nI (btF 201 i)
def ImgOK (q : Nat) (d : Option DT) (kept isKept : Nat → Int32) : Prop := match d with
  | none => isKept q = 0
  | some d => isKept q = 1 ∧ (∃ (n B k r : Nat) (st w hb sn ln : Nat → Nat), SC n B k r st w hb sn ln d.1 d.2.1 d.2.2.1 d.2.2.2.1 d.2.2.2.2.1 d.2.2.2.2.2.1 d.2.2.2.2.2.2.1 d.2.2.2.2.2.2.2.1 d.2.2.2.2.2.2.2.2) ∧ kept (200 * q) = d.1 ∧ kept (200 * q + 1) = d.2.1 ∧ kept (200 * q + 2) = d.2.2.1 ∧ kept (200 * q + 3) = d.2.2.2.1 ∧ (∀ i, i < 12 → kept (200 * q + 4 + 3 * i) = d.2.2.2.2.1 i ∧ kept (200 * q + 5 + 3 * i) = d.2.2.2.2.2.1 i ∧ kept (200 * q + 6 + 3 * i) = d.2.2.2.2.2.2.1 i) ∧ (∀ i, i < 8 → kept (200 * q + 40 + i) = d.2.2.2.2.2.2.2.2 i) ∧ ∀ i, i < 96 → kept (200 * q + 48 + i) = d.2.2.2.2.2.2.2.1 i
def Inv : InvT := fun v_pad_count v_pad_signs v_scene_seats v_scene_bear v_scene_comerCount v_scene_seenRows v_scene_steps v_scene_worths v_scene_comers v_scene_seen v_scene_seenLengths v_bench_apart v_bench_clash v_bench_neighbours v_trial_apart v_trial_clash v_trial_neighbours v_sitters_set v_sitters_bear v_sitters_nearest v_trialSitters_set v_trialSitters_bear v_trialSitters_nearest v_sets_size v_sets_places v_sets_filled v_sets_open v_sets_chance v_census_least v_census_most v_census_known v_census_wholeSets v_census_orders v_match_known v_match_kind v_match_wicked v_couples_count v_couples_lesser v_couples_greater v_couples_tooNear v_couples_clash v_passing_turnedAway v_passing_parts v_passing_habit v_passing_odds v_longRows_between v_signMany v_seats v_bearIs v_rowsAll v_awayUpper v_lower v_comerMany v_seenRows v_place v_isWriting v_signs v_links v_worths v_far v_mays v_rowsTo v_endIn v_ends v_pairSets v_awayIn v_now v_then v_comers v_seen v_seenMany v_kept v_isKept d0 d1 => ∃ (n B k r : Nat) (st w hb sn ln : Nat → Nat) (cnt : Nat), (v_pad_count = nI cnt ∧ cnt ≤ 30 ∧ v_signMany = nI cnt ∧ v_signs = v_pad_signs) ∧ SC n B k r st w hb sn ln v_scene_seats v_scene_bear v_scene_comerCount v_scene_seenRows v_scene_steps v_scene_worths v_scene_comers v_scene_seen v_scene_seenLengths ∧ (v_seats = v_scene_seats ∧ v_bearIs = v_scene_bear ∧ v_comerMany = v_scene_comerCount ∧ v_seenRows = v_scene_seenRows ∧ v_links = v_scene_steps ∧ v_worths = v_scene_worths ∧ v_comers = v_scene_comers ∧ v_seen = v_scene_seen ∧ v_seenMany = v_scene_seenLengths) ∧ BN n B st v_bench_apart v_bench_clash v_bench_neighbours v_far ∧ (v_census_known = 0 ∨ v_census_known = 1 ∧ CenOK n B (Dd n (Ef n st 0)) v_census_least v_census_most v_census_wholeSets v_census_orders) ∧ (v_match_known = 0 ∨ v_match_known = 1 ∧ MatOK n B (Dd n (Ef n st 0)) v_match_kind v_match_wicked) ∧ LR v_longRows_between ∧ ImgOK 0 d0 v_kept v_isKept ∧ ImgOK 1 d1 v_kept v_isKept
end IV1
