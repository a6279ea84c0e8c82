/-! the page as a house rule -/
def tl (T i : Nat) : Nat := T / 2 ^ (7 * i) % 2 ^ 7
theorem tl_bit (T i j : Nat) : (tl T i).testBit j = (decide (j < 7) && T.testBit (7 * i + j)) := by
  unfold tl
  rw [Nat.testBit_mod_two_pow, Nat.testBit_div_two_pow, Nat.add_comm j]
theorem tl_lt (T i : Nat) : tl T i < 128 := Nat.mod_lt _ (by decide)
theorem tl_or {T a d : Nat} (hd : d < 7) (i : Nat) : tl (T ||| 2 ^ (7 * a + d)) i = if i = a then tl T a ||| 2 ^ d else tl T i := by
  by_cases q : i = a
  · subst q
    rw [if_pos rfl]
    apply Nat.eq_of_testBit_eq
    intro j
    rw [tl_bit, Nat.testBit_or, Nat.testBit_or, tl_bit, Nat.testBit_two_pow, Nat.testBit_two_pow]
    by_cases h1 : j < 7
    · have e : decide (7 * i + d = 7 * i + j) = decide (d = j) := by
        by_cases z : d = j
        · rw [decide_eq_true z, decide_eq_true (by omega)]
        · rw [decide_eq_false z, decide_eq_false (by omega)]
      rw [decide_eq_true h1, e]; simp
    · rw [decide_eq_false h1, decide_eq_false (show ¬ d = j by omega)]; simp
  · rw [if_neg q]
    apply Nat.eq_of_testBit_eq
    intro j
    rw [tl_bit, tl_bit, Nat.testBit_or, Nat.testBit_two_pow]
    by_cases h1 : j < 7
    · rw [decide_eq_false (show ¬ 7 * a + d = 7 * i + j by omega), Bool.or_false]
    · rw [decide_eq_false h1]; simp
def SX (X X2 : St) : Prop := (∀ q, q ≠ 48 → q ≠ 49 → q ≠ 51 → q ≠ 52 → sF X2 q = sF X q) ∧ (∀ q, q ≠ 50 → sG X2 q = sG X q) ∧ (∀ i k, sM X2 i k = sM X i k) ∧ ∀ a, sA X2 a = sA X a
def SY (Y Y2 : St) : Prop := (∀ q, q ≠ 6 → q ≠ 7 → q ≠ 8 → q ≠ 9 → sF Y2 q = sF Y q) ∧ ∀ a, a ≠ 3 → sA Y2 a = sA Y a
theorem SX.rf {X : St} : SX X X := ⟨fun _ _ _ _ _ => rfl, fun _ _ => rfl, fun _ _ => rfl, fun _ => rfl⟩
theorem SY.rf {Y : St} : SY Y Y := ⟨fun _ _ _ _ _ => rfl, fun _ _ => rfl⟩
theorem SX.tr {X X2 X3 : St} (a : SX X X2) (b : SX X2 X3) : SX X X3 := ⟨fun q h1 h2 h3 h4 => (b.1 q h1 h2 h3 h4).trans (a.1 q h1 h2 h3 h4), fun q h => (b.2.1 q h).trans (a.2.1 q h), fun i k => (b.2.2.1 i k).trans (a.2.2.1 i k), fun i => (b.2.2.2 i).trans (a.2.2.2 i)⟩
theorem SY.tr {X X2 X3 : St} (a : SY X X2) (b : SY X2 X3) : SY X X3 := ⟨fun q h1 h2 h3 h4 => (b.1 q h1 h2 h3 h4).trans (a.1 q h1 h2 h3 h4), fun i h => (b.2 i h).trans (a.2 i h)⟩
theorem SX.F {X : St} {k : Nat} (hk : k = 48 ∨ k = 49 ∨ k = 51 ∨ k = 52) (v : Int32) : SX X (pF X k v) := ⟨fun q h1 h2 h3 h4 => by rw [sF_pF, if_neg (by omega)], fun _ _ => rfl, fun _ _ => rfl, fun _ => rfl⟩
theorem SX.G {X : St} (v : Int64) : SX X (pG X 50 v) := ⟨fun _ _ _ _ _ => rfl, fun q h => by rw [sG_pG, if_neg h], fun _ _ => rfl, fun _ => rfl⟩
theorem SY.F {Y : St} {k : Nat} (hk : k = 6 ∨ k = 7 ∨ k = 8 ∨ k = 9) (v : Int32) : SY Y (pF Y k v) := ⟨fun q h1 h2 h3 h4 => by rw [sF_pF, if_neg (by omega)], fun _ _ => rfl⟩
theorem SY.A {Y : St} (j : Nat) (v : Int32) : SY Y (pA Y 3 j v) := ⟨fun _ _ _ _ _ => rfl, fun a h => by rw [sA_pA, if_neg h]⟩
def RR (s a T : Nat) (pv lv : Int32) (X Y : St) : Prop := (sF X 48 = nI s ∧ sF Y 9 = nI s ∧ s ≤ 4) ∧ (sF X 49 = nI a ∧ (s = 1 → sF Y 8 = nI a) ∧ a < 7) ∧ (sG X 50 = lN T ∧ T < 2 ^ 49 ∧ ∀ i, i < 7 → sA Y 3 i = nI (tl T i)) ∧ (sF X 51 = pv ∧ sF Y 6 = pv) ∧ (sF X 52 = lv ∧ sF Y 7 = lv)
theorem cmp0 (x y : Int64) : lg_cmp x y = 0 ↔ x = y := by
  unfold lg_cmp
  by_cases h1 : x > y
  · rw [if_pos h1]
    constructor
    · intro h; exact absurd h (by decide)
    · intro h
      rw [h] at h1
      exact absurd h1 (fun z => by rw [gt_iff_lt, Int64.lt_iff_toInt_lt] at z; omega)
  · rw [if_neg h1]
    by_cases h2 : x = y
    · rw [if_pos h2]; exact ⟨fun _ => h2, fun _ => rfl⟩
    · rw [if_neg h2]; exact ⟨fun h => absurd h (by decide), fun h => absurd h h2⟩
theorem told_bit {T j : Nat} (hT : T < 2 ^ 49) (hj : j < 49) : lg_cmp (lN T &&& lsh 1 (nI j)) 0 = 0 ↔ T.testBit j = false := by
  have h2 : 2 ^ j < 2 ^ 49 := Nat.pow_lt_pow_right (by decide) hj
  rw [cmp0, show (1 : Int64) = lN 1 from rfl, lshN 1 (by omega), Nat.one_mul, wb_and (by omega) (by omega), show (0 : Int64) = lN 0 from rfl, pk_lEQ (Nat.lt_of_le_of_lt Nat.and_le_left (by omega)) (by omega)]
  constructor
  · intro h
    have h1 : (T &&& 2 ^ j).testBit j = false := by rw [h]; simp
    rw [Nat.testBit_and, Nat.testBit_two_pow_self, Bool.and_true] at h1
    exact h1
  · intro h
    apply Nat.eq_of_testBit_eq
    intro i
    rw [Nat.testBit_and, Nat.testBit_two_pow, Nat.zero_testBit]
    by_cases q : j = i
    · rw [← q, h, Bool.false_and]
    · rw [decide_eq_false q, Bool.and_false]
theorem told_or {T j : Nat} (hT : T < 2 ^ 49) (hj : j < 49) : lN T ||| lsh 1 (nI j) = lN (T ||| 2 ^ j) ∧ T ||| 2 ^ j < 2 ^ 49 := by
  have h2 : 2 ^ j < 2 ^ 49 := Nat.pow_lt_pow_right (by decide) hj
  rw [show (1 : Int64) = lN 1 from rfl, lshN 1 (by omega), Nat.one_mul, wb_or (by omega) (by omega)]
  exact ⟨rfl, Nat.or_lt_two_pow hT h2⟩
theorem rule_step {s a T : Nat} {pv lv : Int32} {X Y : St} (r : RR s a T pv lv X Y) {c : Nat} (hc : 1 ≤ c ∧ c ≤ 126) : ∃ (b : Bool) (X2 Y2 : St), jRt_takes X (nI c) = some (bI b, X2) ∧ jM_goRule Y (nI c) = some (bI b, Y2) ∧ SX X X2 ∧ SY Y Y2 ∧ (b = true → ∃ s2 a2 T2 pv2 lv2, RR s2 a2 T2 pv2 lv2 X2 Y2) := by
  obtain ⟨⟨r1, r2, r3⟩, ⟨r4, r5, r6⟩, ⟨r7, r8, r9⟩, ⟨r10, r11⟩, ⟨r12, r13⟩⟩ := r
  unfold jRt_takes jM_goRule
  rw [r1, r2]
  rcases (show s = 0 ∨ s = 1 ∨ s = 2 ∨ s = 3 ∨ s = 4 by omega) with rfl | rfl | rfl | rfl | rfl
  · rw [if_pos (show nI 0 = 0 from rfl), if_pos (show nI 0 = 0 from rfl)]
    unfold jRt_takesReplier
    rw [between_eq, in_int, show (0 : Int64).toInt = (0 : Int32).toInt from rfl, show (6 : Int64).toInt = (6 : Int32).toInt from rfl, bS, bS, bI_and, if_pos rfl]
    by_cases q : 48 ≤ c ∧ c ≤ 54
    · have q' := (digit_of hc.2 6 (n := 6) rfl).mpr q
      rw [if_neg (bI_T q'), decide_eq_true q', bS]
      dsimp only
      rw [if_pos (by decide), digit_eq q.1]
      refine ⟨true, _, _, rfl, rfl, (SX.F (by omega) _).tr (SX.F (by omega) _), (SY.F (by omega) _).tr (SY.F (by omega) _), fun _ => ⟨1, c - 48, T, pv, lv, ⟨rfl, rfl, by omega⟩, ⟨rfl, fun _ => rfl, by omega⟩, ⟨r7, r8, r9⟩, ⟨r10, r11⟩, ⟨r12, r13⟩⟩⟩
    · have q' := fun z => q ((digit_of hc.2 6 (n := 6) rfl).mp z)
      rw [if_pos (bI_F q'), decide_eq_false q', bS]
      dsimp only
      rw [if_pos (by decide)]
      exact ⟨false, _, _, rfl, rfl, SX.rf, (SY.F (by omega) _).tr (SY.F (by omega) _), fun z => by cases z⟩
  · rw [if_neg (by decide), if_pos (show nI 1 = 1 from rfl), if_neg (by decide), if_pos (show nI 1 = 1 from rfl)]
    unfold jRt_takesReplied
    have e8 : sF (pF Y 9 2) 8 = nI a := r5 rfl
    rw [between_eq, in_int, show (0 : Int64).toInt = (0 : Int32).toInt from rfl, show (6 : Int64).toInt = (6 : Int32).toInt from rfl, bS, bS]
    by_cases q : 48 ≤ c ∧ c ≤ 54
    · have q' := (digit_of hc.2 6 (n := 6) rfl).mpr q
      rw [if_neg (bI_T q'), if_neg (bI_T q'), digit_eq q.1, r4, e8]
      generalize hdd : c - 48 = d
      have hd : d < 7 := by omega
      by_cases q2 : d = a
      · rw [if_pos (by rw [q2]), if_pos (by rw [q2]), bS]
        dsimp only
        rw [if_pos (by decide)]
        exact ⟨false, _, _, rfl, rfl, SX.rf, SY.F (by omega) _, fun z => by cases z⟩
      · have ne := fun z => q2 (nI_inj (a := d) (b := a) (by omega) (by omega) z)
        have e3 : sA (pF Y 9 2) 3 a = nI (tl T a) := r9 a r6
        rw [if_neg ne, if_neg ne, if_pos (ibN r6 (by omega)), clN (by omega), e3, r7, show (7 : Int32) * nI a + nI d = nI (7 * a + d) by rw [show (7 : Int32) = nI 7 from rfl, pk_mul, nI_add], bit_shr (Nat.lt_trans (tl_lt T a) (by decide)) hd, tl_bit, decide_eq_true hd, Bool.true_and]
        by_cases q3 : T.testBit (7 * a + d) = true
        · rw [if_neg (fun z => by rw [(told_bit r8 (by omega)).mp z] at q3; cases q3), q3, if_pos (by decide), bS]
          dsimp only
          rw [if_pos (by decide)]
          exact ⟨false, _, _, rfl, rfl, SX.rf, SY.F (by omega) _, fun z => by cases z⟩
        · have q3' := Bool.eq_false_iff.mpr q3
          obtain ⟨o1, o2⟩ := told_or r8 (show 7 * a + d < 49 by omega)
          rw [if_pos ((told_bit r8 (by omega)).mpr q3'), q3', if_neg (by decide), if_pos (ibN r6 (by omega)), if_pos (ibN r6 (by omega)), bS]
          dsimp only
          rw [if_pos (by decide), o1, one_shl (by omega), fa_or]
          refine ⟨true, _, _, rfl, rfl, ((SX.G _).tr (SX.F (by omega) _)).tr (SX.F (by omega) _), ((SY.F (by omega) _).tr (SY.A _ _)).tr (SY.F (by omega) _), fun _ => ⟨2, a, T ||| 2 ^ (7 * a + d), pv + 1, lv, ⟨rfl, rfl, by omega⟩, ⟨r4, fun z => absurd z (by decide), r6⟩, ⟨rfl, o2, fun i hi => ?_⟩, ⟨?_, ?_⟩, ⟨r12, r13⟩⟩⟩
          · show upd (sA Y 3) a (nI (tl T a ||| 2 ^ d)) i = _
            unfold upd
            rw [tl_or hd]
            by_cases z : i = a
            · rw [if_pos z, if_pos z]
            · rw [if_neg z, if_neg z]; exact r9 i hi
          · show sF X 51 + 1 = _
            rw [r10]
          · show sF Y 6 + 1 = _
            rw [r11]
    · have q' := fun z => q ((digit_of hc.2 6 (n := 6) rfl).mp z)
      rw [if_pos (bI_F q'), if_pos (bI_F q'), bS]
      dsimp only
      rw [if_pos (by decide)]
      exact ⟨false, _, _, rfl, rfl, SX.rf, SY.F (by omega) _, fun z => by cases z⟩
  · rw [if_neg (by decide), if_neg (by decide), if_pos (show nI 2 = 2 from rfl), if_neg (by decide), if_neg (by decide), if_pos (show nI 2 = 2 from rfl)]
    unfold jRt_takesMark jRt_takesMark_22 jM_goRule_143
    rw [r10, show ∀ v, sF (pF Y 9 v) 6 = pv from fun _ => r11]
    by_cases q : nI c = 44
    · rw [if_pos q, if_pos q, if_pos q]
      by_cases q2 : (10 : Int32) ≤ pv
      · rw [if_pos q2, if_pos q2, q, if_neg (by decide), bS]
        dsimp only
        rw [if_pos (by decide)]
        exact ⟨false, _, _, rfl, rfl, SX.rf, SY.F (by omega) _, fun z => by cases z⟩
      · rw [if_neg q2, if_neg q2, bS]
        dsimp only
        rw [if_pos (by decide)]
        exact ⟨true, _, _, rfl, rfl, SX.F (by omega) _, SY.F (by omega) _, fun _ => ⟨0, a, T, pv, lv, ⟨rfl, rfl, by omega⟩, ⟨r4, fun z => absurd z (by decide), r6⟩, ⟨r7, r8, r9⟩, ⟨r10, r11⟩, ⟨r12, r13⟩⟩⟩
    · rw [if_neg q, if_neg q, if_neg q]
      by_cases q2 : nI c = 59
      · rw [if_pos q2, if_pos q2, bS]
        dsimp only
        rw [if_pos (by decide)]
        exact ⟨true, _, _, rfl, rfl, SX.F (by omega) _, SY.F (by omega) _, fun _ => ⟨3, a, T, pv, lv, ⟨rfl, rfl, by omega⟩, ⟨r4, fun z => absurd z (by decide), r6⟩, ⟨r7, r8, r9⟩, ⟨r10, r11⟩, ⟨r12, r13⟩⟩⟩
      · rw [if_neg q2, if_neg q2, bS]
        dsimp only
        rw [if_pos (by decide)]
        exact ⟨false, _, _, rfl, rfl, SX.rf, SY.F (by omega) _, fun z => by cases z⟩
  · rw [if_neg (by decide), if_neg (by decide), if_neg (by decide), if_pos (show nI 3 = 3 from rfl), if_neg (by decide), if_neg (by decide), if_neg (by decide), if_pos (show nI 3 = 3 from rfl)]
    unfold jRt_takesLimit
    rw [between_eq, in_int, show (0 : Int64).toInt = (0 : Int32).toInt from rfl, show (9 : Int64).toInt = (9 : Int32).toInt from rfl, bS, bS, bI_and, if_pos rfl]
    by_cases q : 48 ≤ c ∧ c ≤ 57
    · have q' := (digit_of hc.2 9 (n := 9) rfl).mpr q
      rw [if_neg (bI_T q'), decide_eq_true q', bS]
      dsimp only
      rw [if_pos (by decide)]
      exact ⟨true, _, _, rfl, rfl, (SX.F (by omega) _).tr (SX.F (by omega) _), (SY.F (by omega) _).tr (SY.F (by omega) _), fun _ => ⟨4, a, T, pv, nI c - 48, ⟨rfl, rfl, by omega⟩, ⟨r4, fun z => absurd z (by decide), r6⟩, ⟨r7, r8, r9⟩, ⟨r10, r11⟩, ⟨rfl, rfl⟩⟩⟩
    · have q' := fun z => q ((digit_of hc.2 9 (n := 9) rfl).mp z)
      rw [if_pos (bI_F q'), decide_eq_false q', bS]
      dsimp only
      rw [if_pos (by decide)]
      exact ⟨false, _, _, rfl, rfl, SX.rf, (SY.F (by omega) _).tr (SY.F (by omega) _), fun z => by cases z⟩
  · rw [if_neg (by decide), if_neg (by decide), if_neg (by decide), if_neg (by decide), if_neg (by decide), if_neg (by decide), if_neg (by decide), if_neg (by decide)]
    exact ⟨false, _, _, rfl, rfl, SX.rf, SY.rf, fun z => by cases z⟩
theorem rule_lp {pg : List Nat} (hl : pg.length ≤ 32) (h126 : ∀ c ∈ pg, 1 ≤ c ∧ c ≤ 126) : ∀ (f k : Nat) (X Y : St) (s a T : Nat) (pv lv : Int32), RR s a T pv lv X Y → sF X 17 = nI pg.length → Arr (sA X 2) pg → sF Y 1 = nI pg.length → Arr (sA Y 1) pg → k ≤ pg.length → pg.length < k + f → ∃ (j : Nat) (X2 Y2 : St), jPg_faultOf_r_6 f X (nI k) = some (nI j, X2) ∧ jM_ruleFault_38 f Y (nI k) = some (nI j, Y2) ∧ SX X X2 ∧ SY Y Y2 ∧ j ≤ pg.length ∧ (j = pg.length → ∃ s2 a2 T2 pv2 lv2, RR s2 a2 T2 pv2 lv2 X2 Y2)
  | 0, k, X, Y, _, _, _, _, _, _, _, _, _, _, _, h2 => absurd h2 (by omega)
  | f + 1, k, X, Y, s, a, T, pv, lv, r, e1, e2, e3, e4, hk, h2 => by
    rw [jPg_faultOf_r_6, jM_ruleFault_38, e1, e3]
    by_cases q : k = pg.length
    · rw [if_pos (nI_le (by omega) (by omega)), if_pos (nI_le (by omega) (by omega)), q]
      exact ⟨_, X, Y, rfl, rfl, SX.rf, SY.rf, by omega, fun _ => ⟨s, a, T, pv, lv, r⟩⟩
    · have hk2 : k < pg.length := by omega
      have hc := h126 _ (List.getElem_mem hk2)
      rw [if_neg (nI_ge (by omega) (by omega)), if_neg (nI_ge (by omega) (by omega)), letter_eq hl e1 e2 hk2, if_pos (ibN (by omega) (by omega)), clN (by omega), e4 k hk2, bS]
      obtain ⟨b, X2, Y2, x1, y1, sx, sy, n⟩ := rule_step r hc
      rw [x1, y1, bS, bS]
      cases b with
      | false =>
        rw [if_pos (show ((bI false, X2) : Int32 × St).1 = 0 from rfl), if_pos (show ((bI false, Y2) : Int32 × St).1 = 0 from rfl)]
        exact ⟨k, X2, Y2, rfl, rfl, sx, sy, by omega, fun z => absurd z q⟩
      | true =>
        rw [if_neg (show ¬ ((bI true, X2) : Int32 × St).1 = 0 from by show ¬ (1 : Int32) = 0; decide), if_neg (show ¬ ((bI true, Y2) : Int32 × St).1 = 0 from by show ¬ (1 : Int32) = 0; decide), nI_1]
        obtain ⟨s2, a2, T2, pv2, lv2, r2⟩ := n rfl
        obtain ⟨j, X3, Y3, u1, u2, u3, u4, u5, u6⟩ := rule_lp hl h126 f (k + 1) X2 Y2 s2 a2 T2 pv2 lv2 r2 ((sx.1 17 (by decide) (by decide) (by decide) (by decide)).trans e1) (by rw [sx.2.2.2]; exact e2) ((sy.1 1 (by decide) (by decide) (by decide) (by decide)).trans e3) (by rw [sy.2 1 (by decide)]; exact e4) (by omega) (by omega)
        exact ⟨j, X3, Y3, u1, u2, sx.tr u3, sy.tr u4, u5, u6⟩
theorem zero_lp : ∀ (f k : Nat) (Y : St), k ≤ 7 → 7 < k + f → ∃ Y2, jM_ruleFault_2 f Y (nI k) = jM_ruleFault_38 40 (pF (pF (pF Y2 6 0) 7 3) 9 0) 0 ∧ SY Y Y2 ∧ ∀ i, i < 7 → sA Y2 3 i = if k ≤ i then 0 else sA Y 3 i
  | 0, k, Y, _, h2 => absurd h2 (by omega)
  | f + 1, k, Y, hk, h2 => by
    rw [jM_ruleFault_2]
    by_cases q : 7 ≤ k
    · rw [if_pos (show (7 : Int32) ≤ nI k from nI_le q (by omega))]
      exact ⟨Y, rfl, SY.rf, fun i hi => by rw [if_neg (by omega)]⟩
    · rw [if_neg (show ¬ (7 : Int32) ≤ nI k from nI_ge (b := 7) (by omega) (by omega)), if_pos (ibN (by omega) (by omega)), clN (by omega), nI_1]
      obtain ⟨Y2, e, e1, e2⟩ := zero_lp f (k + 1) (pA Y 3 k 0) (by omega) (by omega)
      refine ⟨Y2, e, (SY.A _ _).tr e1, fun i hi => ?_⟩
      rw [e2 i hi]
      show (if k + 1 ≤ i then 0 else upd (sA Y 3) k 0 i) = _
      unfold upd
      by_cases z : k + 1 ≤ i
      · rw [if_pos z, if_pos (by omega)]
      · rw [if_neg z]
        by_cases y : i = k
        · rw [if_pos y, if_pos (by omega)]
        · rw [if_neg y, if_neg (by omega)]
theorem EqX_r {X X2 : St} (s : SX X X2) : EqX X X2 :=
  ⟨⟨s.1 _ (by decide) (by decide) (by decide) (by decide), s.1 _ (by decide) (by decide) (by decide) (by decide), s.1 _ (by decide) (by decide) (by decide) (by decide), s.1 _ (by decide) (by decide) (by decide) (by decide), s.1 _ (by decide) (by decide) (by decide) (by decide)⟩, ⟨s.1 _ (by decide) (by decide) (by decide) (by decide), s.1 _ (by decide) (by decide) (by decide) (by decide), s.1 _ (by decide) (by decide) (by decide) (by decide), s.1 _ (by decide) (by decide) (by decide) (by decide), s.1 _ (by decide) (by decide) (by decide) (by decide)⟩, s.2.1 _ (by decide), s.2.2.1, ⟨s.2.2.2 _, s.2.2.2 _, s.2.2.2 _⟩⟩
theorem EqY_r {Y Y2 : St} (s : SY Y Y2) : EqY Y Y2 :=
  ⟨⟨s.1 _ (by decide) (by decide) (by decide) (by decide), s.1 _ (by decide) (by decide) (by decide) (by decide), s.1 _ (by decide) (by decide) (by decide) (by decide), s.1 _ (by decide) (by decide) (by decide) (by decide), s.1 _ (by decide) (by decide) (by decide) (by decide)⟩, ⟨s.1 _ (by decide) (by decide) (by decide) (by decide), s.1 _ (by decide) (by decide) (by decide) (by decide), s.1 _ (by decide) (by decide) (by decide) (by decide), s.1 _ (by decide) (by decide) (by decide) (by decide), s.1 _ (by decide) (by decide) (by decide) (by decide)⟩, ⟨s.2 _ (by decide), s.2 _ (by decide), s.2 _ (by decide), s.2 _ (by decide)⟩, ⟨s.2 _ (by decide), s.2 _ (by decide), s.2 _ (by decide)⟩⟩
theorem rule_fault {X Y : St} {h : House} {t pg : List Nat} (hr : RelH h t pg X Y) : ∃ (j : Nat) (X2 Y2 : St), jPg_faultOf_r X = some (nI j, X2) ∧ jM_ruleFault Y = some (nI j, Y2) ∧ SX X X2 ∧ SY Y Y2 ∧ j ≤ pg.length ∧ (j = pg.length → ∃ s2 a2 T2 pv2 lv2, RR s2 a2 T2 pv2 lv2 X2 Y2) := by
  obtain ⟨-, -, ⟨g1, g2, g3, g4, g5, g6⟩, -⟩ := hr
  obtain ⟨Y1, z1, z2, z3⟩ := zero_lp 10 0 Y (by omega) (by omega)
  have sx : SX X (pF (pF (pG (pF (pF X 48 0) 49 0) 50 0) 51 0) 52 3) := ((((SX.F (by omega) _).tr (SX.F (by omega) _)).tr (SX.G _)).tr (SX.F (by omega) _)).tr (SX.F (by omega) _)
  have sy : SY Y (pF (pF (pF Y1 6 0) 7 3) 9 0) := ((z2.tr (SY.F (by omega) _)).tr (SY.F (by omega) _)).tr (SY.F (by omega) _)
  have r : RR 0 0 0 0 3 (pF (pF (pG (pF (pF X 48 0) 49 0) 50 0) 51 0) 52 3) (pF (pF (pF Y1 6 0) 7 3) 9 0) := ⟨⟨rfl, rfl, by omega⟩, ⟨rfl, fun z => absurd z (by decide), by omega⟩, ⟨rfl, by decide, fun i hi => by
    show sA Y1 3 i = _
    rw [z3 i hi, if_pos (by omega)]
    unfold tl
    rw [Nat.zero_div]; rfl⟩, ⟨rfl, rfl⟩, ⟨rfl, rfl⟩⟩
  obtain ⟨j, X3, Y3, u1, u2, u3, u4, u5, u6⟩ := rule_lp g1 g6 40 0 _ _ 0 0 0 0 3 r ((sx.1 17 (by decide) (by decide) (by decide) (by decide)).trans g2) (by rw [sx.2.2.2]; exact g4) ((sy.1 1 (by decide) (by decide) (by decide) (by decide)).trans g3) (by rw [sy.2 1 (by decide)]; exact g5) (by omega) (by omega)
  exact ⟨j, X3, Y3, u1, z1.trans u2, sx.tr u3, sy.tr u4, u5, u6⟩
theorem op_fault : Op_fault Rel := by
  intro X Y a1 hr
  obtain ⟨h, t, pg, hr⟩ := hr
  unfold jT_fault jM_fault
  by_cases q : a1 = 0
  · obtain ⟨j, X2, Y2, e1, e2, sx, sy, -⟩ := rule_fault hr
    rw [if_pos q, if_pos q, e1, e2]
    exact ⟨_, _, _, rfl, rfl, h, t, pg, hr.scr (EqX_r sx) (EqY_r sy)⟩
  · rw [if_neg q, if_neg q]
    by_cases q2 : a1 = 1
    · obtain ⟨X2, e1, sx, -⟩ := L_dfault hr
      obtain ⟨Y2, e2, sy, -⟩ := M_dfault hr
      rw [if_pos q2, if_pos q2, e1, e2]
      exact ⟨_, _, _, rfl, rfl, h, t, pg, hr.scr sx sy⟩
    · rw [if_neg q2, if_neg q2]
      exact ⟨_, _, _, rfl, rfl, h, t, pg, hr⟩
theorem copy_lp : ∀ (f k : Nat) (Y : St), k ≤ 7 → 7 < k + f → ∃ Y2, jM_rule_32 f Y (nI k) = some (sF Y 6, Y2) ∧ (∀ q, sF Y2 q = if q = 1 then 0 else if q = 4 then sF Y 7 else if q = 3 then sF Y 6 else sF Y q) ∧ (∀ a, a ≠ 2 → sA Y2 a = sA Y a) ∧ ∀ i, i < 7 → sA Y2 2 i = if k ≤ i then sA Y 3 i else sA Y 2 i
  | 0, k, Y, _, h2 => absurd h2 (by omega)
  | f + 1, k, Y, hk, h2 => by
    rw [jM_rule_32]
    by_cases q : 7 ≤ k
    · rw [if_pos (show (7 : Int32) ≤ nI k from nI_le q (by omega))]
      refine ⟨_, rfl, fun p => ?_, fun _ _ => rfl, fun i hi => ?_⟩
      · rw [sF_pF, sF_pF, sF_pF]; rfl
      · rw [if_neg (by omega)]; rfl
    · rw [if_neg (show ¬ (7 : Int32) ≤ nI k from nI_ge (b := 7) (by omega) (by omega)), if_pos (ibN (by omega) (by omega)), if_pos (ibN (by omega) (by omega)), clN (by omega), nI_1]
      obtain ⟨Y2, e, e1, e2, e3⟩ := copy_lp f (k + 1) (pA Y 2 k (sA Y 3 k)) (by omega) (by omega)
      refine ⟨Y2, e, e1, fun a ha => ?_, fun i hi => ?_⟩
      · rw [e2 a ha, sA_pA, if_neg ha]
      · rw [e3 i hi]
        show (if k + 1 ≤ i then sA Y 3 i else upd (sA Y 2) k (sA Y 3 k) i) = _
        unfold upd
        by_cases z : k + 1 ≤ i
        · rw [if_pos z, if_pos (by omega)]
        · rw [if_neg z]
          by_cases y : i = k
          · rw [if_pos y, if_pos (by omega), y]
          · rw [if_neg y, if_neg (by omega)]
theorem op_rule : Op_rule Rel := by
  intro X Y hr
  obtain ⟨h, t, pg, hr⟩ := hr
  obtain ⟨j, X2, Y2, e1, e2, sx, sy, hj, n⟩ := rule_fault hr
  have hr2 := hr.scr (EqX_r sx) (EqY_r sy)
  have hr20 := hr2
  obtain ⟨⟨O, ⟨h1, h2, h3, h4, h5⟩, ⟨k1, k2, k3, k4, k5⟩, F⟩, ⟨T, tx, ty, ta⟩, ⟨g1, g2, g3, g4, g5, g6⟩, ⟨p1, p2⟩, ⟨d, x1, x2, x3⟩, ⟨d2, y1, y2, y3⟩, I⟩ := hr2
  unfold jT_rule jM_rule jPg_isWhole_r
  rw [e1, e2, bS, bS]
  dsimp only
  rw [g2, g3]
  by_cases q : j = pg.length
  · obtain ⟨s, a, U, pv, lv, ⟨r1, r2, r3⟩, r456, ⟨r7, r8, r9⟩, ⟨r10, r11⟩, ⟨r12, r13⟩⟩ := n q
    rw [if_pos (by rw [q]), if_neg (nI_nlt (by omega) (by omega)), r2]
    have eC : jRt_canEnd X2 = some (bI (decide (s = 2 ∨ s = 4))) := by
      unfold jRt_canEnd jRt_canEnd_16
      rw [r1]
      by_cases z : s = 2
      · rw [z]; rfl
      · rw [if_neg (show ¬ nI s = 2 from fun w => z (nI_inj (b := 2) (by omega) (by decide) w))]
        by_cases y : s = 4
        · rw [y]; rfl
        · rw [if_neg (show ¬ nI s = 4 from fun w => y (nI_inj (b := 4) (by omega) (by decide) w)), decide_eq_false (by omega)]; rfl
    rw [eC, bS]
    by_cases z : s = 2 ∨ s = 4
    · rw [if_neg (bI_T z), bS]
      dsimp only
      rw [if_neg (by decide)]
      have eA : jCh_adopt X2 = some (pF (pF (pG X2 85 (lN U)) 86 pv) 87 lv) := by
        unfold jCh_adopt jRt_told jRt_pairs jRt_limit
        rw [r7, bS, show sF (pG X2 85 (lN U)) 51 = pv from r10, bS, show sF (pF (pG X2 85 (lN U)) 86 pv) 52 = lv from r12, bS]
      rw [eA, bS, show jPg_clear (pF (pF (pG X2 85 (lN U)) 86 pv) 87 lv) = some (pF (pF (pF (pG X2 85 (lN U)) 86 pv) 87 lv) 17 0) from rfl, bS, show jCh_pairs (pF (pF (pF (pG X2 85 (lN U)) 86 pv) 87 lv) 17 0) = some pv from rfl, bS]
      obtain ⟨Y3, c, c1, c2, c3⟩ := copy_lp 10 0 Y2 (by omega) (by omega)
      have eM : (if nI s = 2 then jM_rule_30 Y2 else if nI s = 4 then jM_rule_30 Y2 else some ((-103 : Int32), Y2)) = some (pv, Y3) := by
        have : jM_rule_30 Y2 = some (pv, Y3) := by rw [← r11]; exact c
        rcases z with z | z
        · rw [if_pos (by rw [z]; rfl)]; exact this
        · rw [z, if_neg (by decide), if_pos (by rfl)]; exact this
      rw [eM]
      refine ⟨pv, _, Y3, rfl, rfl, (hn h, lv, fun i k => if k = 12 then nI (tl U i) else hg h i k), t, [], ⟨?_, ⟨h1, h2, rfl, ?_, ?_⟩, ⟨h1, ?_, ?_, ?_, ?_⟩, F⟩, ⟨T, tx, ?_, ?_⟩, ⟨by simp, rfl, ?_, fun k hk => absurd hk (by simp), fun k hk => absurd hk (by simp), fun _ hh => by simp at hh⟩, ⟨?_, ?_⟩, ⟨d, x1, x2, ?_⟩, ⟨d2, y1, y2, ?_⟩, ?_⟩
      · exact O
      · intro i hi k hk
        show _ = if k = 12 then nI (tl U i) else hg h i k
        rw [if_neg (by omega)]; exact h4 i hi k hk
      · intro i hi
        show (lush (lN U) (7 * nI i)).toInt32 &&& 127 = if 12 = 12 then nI (tl U i) else hg h i 12
        rw [if_pos rfl, show (7 : Int32) * nI i = nI (7 * i) from pk_mul 7 i, lushN (by omega) (by omega), lN_i, show (127 : Int32) = nI (2 ^ 7 - 1) from rfl, fa_mask]
        rfl
      · rw [c1, if_neg (by decide), if_neg (by decide), if_neg (by decide)]; exact k2
      · rw [c1, if_neg (by decide), if_pos rfl]; exact r13
      · intro i hi k hk
        show _ = if k = 12 then nI (tl U i) else hg h i k
        rw [if_neg (by omega), c2 5 (by decide)]; exact k4 i hi k hk
      · intro i hi
        show _ = if 12 = 12 then nI (tl U i) else hg h i 12
        rw [if_pos rfl, c3 i hi, if_pos (by omega)]; exact r9 i hi
      · rw [c1, if_neg (by decide), if_neg (by decide), if_neg (by decide)]; exact ty
      · rw [c2 6 (by decide)]; exact ta
      · rw [c1, if_pos rfl]; rfl
      · rw [c1, if_neg (by decide), if_neg (by decide), if_pos rfl]; exact r11.symm
      · rw [c1, if_neg (by decide), if_neg (by decide), if_neg (by decide)]; exact p2
      · rw [c1, if_neg (by decide), if_neg (by decide), if_neg (by decide)]; exact x3
      · rw [c1, if_neg (by decide), if_neg (by decide), if_neg (by decide)]; exact y3
      · unfold ImR
        rw [c1, c1, if_neg (by decide), if_neg (by decide), if_neg (by decide), if_neg (by decide), if_neg (by decide), if_neg (by decide), c2 16 (by decide), c2 17 (by decide), c2 18 (by decide)]
        exact I
    · rw [if_pos (bI_F z), bS]
      dsimp only
      rw [if_pos rfl, if_neg (show ¬ nI s = 2 from fun w => z (Or.inl (nI_inj (b := 2) (by omega) (by decide) w))), if_neg (show ¬ nI s = 4 from fun w => z (Or.inr (nI_inj (b := 4) (by omega) (by decide) w)))]
      exact ⟨_, _, _, rfl, rfl, h, t, pg, hr20⟩
  · rw [if_neg (fun w => q (nI_inj (by omega) (by omega) w)), if_pos (nI_lt (by omega) (by omega)), bS]
    dsimp only
    rw [if_pos rfl]
    exact ⟨_, _, _, rfl, rfl, h, t, pg, hr20⟩
