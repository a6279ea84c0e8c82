/-! the digest -/
def DG (a : Option (Int64 × St)) (b : Nat → Option (Int64 × St)) : Prop := ∃ (N : Nat) (r : Int64) (X2 Y2 : St), a = some (r, X2) ∧ b N = some (r, Y2) ∧ Rel X2 Y2
theorem DG.eq {a a2 : Option (Int64 × St)} {b b2 : Nat → Option (Int64 × St)} (h : DG a b) (ea : a2 = a) (eb : ∀ N, b2 N = b N) : DG a2 b2 := by
  obtain ⟨N, r, X2, Y2, h1, h2, h3⟩ := h
  exact ⟨N, r, X2, Y2, ea.trans h1, (eb N).trans h2, h3⟩
def DGA (a : Option (Int64 × St)) (b : Nat → Option (Int64 × St)) : Prop := ∃ (r : Int64) (X2 Y2 : St), a = some (r, X2) ∧ (∀ N, b N = some (r, Y2)) ∧ Rel X2 Y2
theorem DGA.eq {a a2 : Option (Int64 × St)} {b b2 : Nat → Option (Int64 × St)} (h : DGA a b) (ea : a2 = a) (eb : ∀ N, b2 N = b N) : DGA a2 b2 := by
  obtain ⟨r, X2, Y2, h1, h2, h3⟩ := h
  exact ⟨r, X2, Y2, ea.trans h1, fun N => (eb N).trans (h2 N), h3⟩
theorem RelH.say {h : House} {t pg : List Nat} {X Y : St} (r : RelH h t pg X Y) (v : Int64) : RelH h t pg X (pG Y 36 v) := r.scr (Y2 := pG Y 36 v) EqX.rfl (EqY.rfl (Y := Y))
theorem say_eq {Y : St} {v : Int64} (e : sG Y 36 = v) (x : Int64) : jM_say Y x = some (pG Y 36 (31 * v + x)) := by
  unfold jM_say
  rw [e]
theorem g36 (Y : St) (v : Int64) : sG (pG Y 36 v) 36 = v := rfl
theorem dg5 {h : House} {t pg : List Nat} : ∀ (f k : Nat) (X Y : St) (v : Int64), RelH h t pg X Y → sG Y 36 = v → k ≤ 8 → 8 < k + f → DGA (jT_digest_194 f X v (nI k)) (fun N => jM_digest_190 N f Y (nI k))
  | 0, k, _, _, _, _, _, _, hf => absurd hf (by omega)
  | f + 1, k, X, Y, v, hr, e36, hk, hf => by
    by_cases q : k = 8
    · refine ⟨v, X, Y, ?_, fun N => ?_, h, t, pg, hr⟩
      · rw [jT_digest_194, if_pos (show (7 : Int32) < nI k from nI_lt (a := 7) (by omega) (by omega))]
      · show jM_digest_190 N (f + 1) Y (nI k) = _
        rw [jM_digest_190, if_pos (show (8 : Int32) ≤ nI k from nI_le (a := 8) (by omega) (by omega)), e36]
    · obtain ⟨r, r1, r2⟩ := op_count X Y (nI k) ⟨h, t, pg, hr⟩
      unfold jM_count at r2
      rw [bO] at r2
      refine (dg5 f (k + 1) X (pG Y 36 (31 * v + r.toInt64)) (31 * v + r.toInt64) (hr.say _) (g36 _ _) (by omega) (by omega)).eq ?_ (fun N => ?_)
      · rw [jT_digest_194, if_neg (show ¬ (7 : Int32) < nI k from nI_nlt (a := 7) (by omega) (by omega)), r1, bS, nI_1]
      · rw [jM_digest_190, if_neg (show ¬ (8 : Int32) ≤ nI k from nI_ge (b := 8) (by omega) (by omega)), r2, bS, say_eq e36, bS, nI_1]
theorem dg4 {h : House} {t pg : List Nat} : ∀ (f k : Nat) (X Y : St) (v : Int64), RelH h t pg X Y → sG Y 36 = v → k ≤ pg.length → pg.length < k + f → DGA (jT_digest_159 f X v (nI k)) (fun N => jM_digest_163 N f Y (nI k))
  | 0, k, _, _, _, _, _, _, hf => absurd hf (by omega)
  | f + 1, k, X, Y, v, hr, e36, hk, hf => by
    obtain ⟨g1, g2, g3, g4, g5, g6⟩ := hr.2.2.1
    by_cases q : k = pg.length
    · refine (dg5 10 0 X Y v hr e36 (by omega) (by omega)).eq ?_ (fun N => ?_)
      · rw [jT_digest_159, jPg_length, bS, g2, if_pos (nI_le (by omega) (by omega))]
        rfl
      · rw [jM_digest_163, g3, if_pos (nI_le (by omega) (by omega))]
        rfl
    · have hk2 : k < pg.length := by omega
      refine (dg4 f (k + 1) X (pG Y 36 (31 * v + (nI pg[k]).toInt64)) (31 * v + (nI pg[k]).toInt64) (hr.say _) (g36 _ _) (by omega) (by omega)).eq ?_ (fun N => ?_)
      · rw [jT_digest_159, jPg_length, bS, g2, if_neg (nI_ge (by omega) (by omega)), letter_eq g1 g2 g4 hk2, bS, nI_1]
      · rw [jM_digest_163, g3, if_neg (nI_ge (by omega) (by omega)), if_pos (ibN (by omega) (by omega)), clN (by omega), g5 k hk2, say_eq e36, bS, nI_1]
theorem dg3 {h : House} {t pg : List Nat} : ∀ (f k : Nat) (X Y : St) (v : Int64), RelH h t pg X Y → sG Y 36 = v → k ≤ t.length → t.length < k + f → DG (jT_digest_103 f X v (nI (k + 1))) (fun N => jM_digest_110 N f Y (nI k))
  | 0, k, _, _, _, _, _, _, hf => absurd hf (by omega)
  | f + 1, k, X, Y, v, hr, e36, hk, hf => by
    obtain ⟨⟨O, H, K, F⟩, ⟨T, tx, ty, ta⟩, ⟨g1, -⟩, -⟩ := id hr
    have h7 := H.1
    have hl := T.len
    by_cases q : k = t.length
    · have hr2 := hr.say (31 * v + (billS h t).toInt64)
      obtain ⟨-, ⟨-, -, ty2, ta2⟩, -⟩ := id hr2
      obtain ⟨M, r, X2, Y2, c1, c2, cx, cy⟩ := chg_eq O H hr2.1.2.2.1 T tx ty2 ta2
      have hr3 := hr2.scr cx cy.eq
      have e37 : sG Y2 36 = 31 * v + (billS h t).toInt64 := cy.2.2 36
      obtain ⟨r9, X9, Y9, d1, d2, d3⟩ := dg4 40 0 X2 (pG Y2 36 (31 * (31 * v + (billS h t).toInt64) + r.toInt64)) _ (hr3.say _) (g36 _ _) (by omega) (by omega)
      refine ⟨M, r9, X9, Y9, ?_, ?_, d3⟩
      · rw [jT_digest_103, tx, L_size2 h7 T, bS, if_pos (nI_lt (by omega) (by omega)), jT_bill, tx, L_bill2 H T, bS, bS, c1, bS]
        exact d1
      · show jM_digest_110 M (f + 1) Y (nI k) = _
        rw [jM_digest_110, ty, if_pos (nI_le (by omega) (by omega)), M_bill K T.2 (by omega) ta, bS, say_eq e36, bS, c2, bS]
        dsimp only
        rw [say_eq e37, bS]
        exact d2 M
    · have hk2 : k < t.length := by omega
      have hm := T.2 _ (List.getElem_mem hk2)
      refine (dg3 f (k + 1) X (pG Y 36 (31 * v + (nI t[k]).toInt64)) (31 * v + (nI t[k]).toInt64) (hr.say _) (g36 _ _) (by omega) (by omega)).eq ?_ (fun N => ?_)
      · rw [jT_digest_103, tx, L_size2 h7 T, bS, if_neg (nI_nlt (by omega) (by omega)), jT_at, tx, memberAt_k ⟨T.1, memn_7 h7 T.2⟩ hk2, bS, if_neg (nI_m1 (by omega)), bS, nI_1]
      · rw [jM_digest_110, ty, if_neg (nI_ge (by omega) (by omega)), if_pos (ibN (by omega) (by omega)), clN (by omega), ta k hk2, say_eq e36, bS, nI_1]
theorem dg2 {h : House} {t pg : List Nat} {i : Nat} (hi : i < hn h) (kX : St → Int64 → Int32 → Option (Int64 × St)) (kY : Nat → St → Int32 → Option (Int64 × St)) (hk : ∀ X Y v, RelH h t pg X Y → sG Y 36 = v → DG (kX X v (nI (i + 1))) (fun N => kY N Y (nI (i + 1)))) : ∀ (f k : Nat) (X Y : St) (v : Int64), RelH h t pg X Y → sG Y 36 = v → k ≤ 12 → 12 < k + f → DG (jT_digest_54 kX f X v (nI i) (nI k)) (fun N => jM_digest_54 N (kY N) f Y (nI i) (nI k))
  | 0, k, _, _, _, _, _, _, hf => absurd hf (by omega)
  | f + 1, k, X, Y, v, hr, e36, hk2, hf => by
    obtain ⟨⟨O, H, K, F⟩, ⟨T, tx, ty, ta⟩, -⟩ := id hr
    have h7 := H.1
    have hl := T.len
    by_cases q : k = 12
    · have em : jT_may X (nI i) = some (bI (mayS h t i)) := by
        unfold jT_may
        rw [L_has H (by omega), bS, if_neg (bI_T hi), tx, L_canRise2 H T (by omega), bS]
        cases mayS h t i <;> rfl
      refine (hk X (pG Y 36 (31 * v + (bI (mayS h t i)).toInt64)) (31 * v + (bI (mayS h t i)).toInt64) (hr.say _) (g36 _ _)).eq ?_ (fun N => ?_)
      · rw [jT_digest_54, if_pos (show (11 : Int32) < nI k from nI_lt (a := 11) (by omega) (by omega)), em, bS, nI_1]
      · rw [jM_digest_54, if_pos (show (12 : Int32) ≤ nI k from nI_le (a := 12) (by omega) (by omega)), ty, M_mayRise2 K T.2 (by omega) ta hi, bS]
        unfold jM_digest_99
        rw [say_eq e36, say_eq e36, bS, bS, nI_1]
        cases mayS h t i <;> rfl
    · obtain ⟨r, r1, r2⟩ := tell_eq hr hi (nI k)
      refine (dg2 hi kX kY hk f (k + 1) X (pG Y 36 (31 * v + r.toInt64)) (31 * v + r.toInt64) (hr.say _) (g36 _ _) (by omega) (by omega)).eq ?_ (fun N => ?_)
      · rw [jT_digest_54, if_neg (show ¬ (11 : Int32) < nI k from nI_nlt (a := 11) (by omega) (by omega)), r1, bS, nI_1]
      · rw [jM_digest_54, if_neg (show ¬ (12 : Int32) ≤ nI k from nI_ge (b := 12) (by omega) (by omega)), r2, bS, say_eq e36, bS, nI_1]
theorem dg1 {h : House} {t pg : List Nat} : ∀ (f k : Nat) (X Y : St) (v : Int64), RelH h t pg X Y → sG Y 36 = v → k ≤ hn h → hn h < k + f → DG (jT_digest_40 f X v (nI k)) (fun N => jM_digest_44 N f Y (nI k))
  | 0, k, _, _, _, _, _, _, hf => absurd hf (by omega)
  | f + 1, k, X, Y, v, hr, e36, hk, hf => by
    have H := hr.1.2.1
    have K := hr.1.2.2.1
    have h7 := H.1
    have hl := hr.2.1.1.len
    by_cases q : k = hn h
    · refine (dg3 10 0 X Y v hr e36 (by omega) (by omega)).eq ?_ (fun N => ?_)
      · rw [jT_digest_40, jCh_size, bS, H.2.1, if_pos (nI_le (by omega) (by omega))]
        rfl
      · rw [jM_digest_44, K.2.1, if_pos (nI_le (by omega) (by omega))]
        rfl
    · refine (dg2 (i := k) (by omega) (jT_digest_40 f) (fun N => jM_digest_44 N f) (fun X Y v hr e36 => dg1 f (k + 1) X Y v hr e36 (by omega) (by omega)) 20 0 X Y v hr e36 (by omega) (by omega)).eq ?_ (fun N => ?_)
      · rw [jT_digest_40, jCh_size, bS, H.2.1, if_neg (nI_ge (by omega) (by omega))]
        rfl
      · rw [jM_digest_44, K.2.1, if_neg (nI_ge (by omega) (by omega))]
        rfl
theorem dg0 {h : House} {t pg : List Nat} : ∀ (f k : Nat) (X Y : St) (v : Int64), RelH h t pg X Y → sG Y 36 = v → k ≤ 49 → 49 < k + f → DG (jT_digest_6 f X v (nI k)) (fun N => jM_digest_9 N f Y (nI k))
  | 0, k, _, _, _, _, _, _, hf => absurd hf (by omega)
  | f + 1, k, X, Y, v, hr, e36, hk, hf => by
    have H := hr.1.2.1
    have K := hr.1.2.2.1
    have h7 := H.1
    by_cases q : k = 49
    · refine (dg1 10 0 X Y v hr e36 (by omega) (by omega)).eq ?_ (fun N => ?_)
      · rw [jT_digest_6, if_pos (show (49 : Int32) ≤ nI k from nI_le (a := 49) (by omega) (by omega))]
        rfl
      · rw [jM_digest_9, if_pos (show (49 : Int32) ≤ nI k from nI_le (a := 49) (by omega) (by omega))]
        rfl
    · have hi7 : k / 7 < 7 := by omega
      have hk7 : k % 7 < 7 := by omega
      obtain ⟨S, hS, eS⟩ := rep_nat H hi7
      have ed : nI k / 7 = nI (k / 7) := pk_div (d := 7) (by omega) (by omega) (by omega)
      have er : nI k - nI (k / 7) * 7 = nI (k % 7) := by
        rw [← ed]
        exact pk_rem (d := 7) (by omega) (by omega) (by omega)
      have e0 : (0 : Int32).toInt = 0 := rfl
      have e6 : (6 : Int32).toInt = 6 := rfl
      have ej : jT_replies X (nI (k / 7)) (nI (k % 7)) = some (if S.testBit (k % 7) = true then 1 else 0) := by
        unfold jT_replies
        rw [between_eq, bS, if_neg (bI_T (by rw [nI_toInt (by omega), e0, e6]; omega)), between_eq, bS, if_neg (bI_T (by rw [nI_toInt (by omega), e0, e6]; omega)), jCh_repliesOf, bS, H.2.2.2.2 _ hi7, eS, bit_ush (by omega) hk7]
      refine (dg0 f (k + 1) X (pG Y 36 (31 * v + (if S.testBit (k % 7) = true then (1 : Int32) else 0).toInt64)) _ (hr.say _) (g36 _ _) (by omega) (by omega)).eq ?_ (fun N => ?_)
      · rw [jT_digest_6, if_neg (show ¬ (49 : Int32) ≤ nI k from nI_ge (b := 49) (by omega) (by omega)), ed, er, ej, bS, nI_1]
      · rw [jM_digest_9, if_neg (show ¬ (49 : Int32) ≤ nI k from nI_ge (b := 49) (by omega) (by omega)), ed, er, if_pos (ibN hi7 (by omega)), clN (by omega), K.2.2.2.2 _ hi7, eS, bit_shr (by omega) hk7, say_eq e36, bS, nI_1]
theorem op_digest : Op_digest Rel := by
  intro X Y hr
  obtain ⟨h, t, pg, hr⟩ := hr
  exact (dg0 60 0 X (pG Y 36 653) 653 (hr.say _) (g36 _ _) (by omega) (by omega)).eq rfl (fun N => rfl)
