/-! the plain calls -/
theorem bO {α : Type} (o : Option α) : (o.bind fun q => some q) = o := by cases o <;> rfl
theorem tw_r {h : House} {t : List Nat} (T : Tw (hn h) t) : memn (hn h) t.reverse := memn_rev.mpr T.2
theorem L_canRise2 {h : House} {X : St} (H : HX h X) {t : List Nat} (T : Tw (hn h) t) {m : Nat} (hm : m < 7) : jCh_canRise X (enc t) (nI m) = some (bI (mayS h t m)) := by
  have h7 := H.1
  have := T.len
  have e := L_canRise H (tw_r T) (by simp; omega) hm
  rw [List.reverse_reverse] at e
  exact e
theorem L_bill2 {h : House} {X : St} (H : HX h X) {t : List Nat} (T : Tw (hn h) t) : jCh_billOf X (enc t) = some (billS h t) := by
  have h7 := H.1
  have := T.len
  have e := L_bill H (tw_r T) (by simp; omega)
  rw [List.reverse_reverse] at e
  exact e
theorem L_size2 {n : Nat} (h7 : n ≤ 7) {t : List Nat} (T : Tw n t) : jRo_size (enc t) = some (nI t.length) := by
  have := T.len
  have e := L_size (all7_rev.mpr (memn_7 h7 T.2)) (by simp; omega)
  rw [List.length_reverse] at e
  exact e
theorem L_height2 {n : Nat} (h7 : n ≤ 7) {t : List Nat} (T : Tw n t) {m : Nat} (hm : m < 7) : jRo_heightOf (enc t) (nI m) = some (nI (idxH t m)) := by
  have := T.len
  have e := L_heightOf (all7_rev.mpr (memn_7 h7 T.2)) (by simp; omega) hm
  rw [hgt_idx t T.1] at e
  exact e
theorem op_replies : Op_replies Rel := by
  intro X Y a1 a2 hr
  obtain ⟨h, t, pg, ⟨O, H, K, F⟩, -⟩ := hr
  unfold jT_replies jM_replies
  rw [between_eq, between_eq, in_int, in_int, show (0 : Int64).toInt = (0 : Int32).toInt from rfl, show (6 : Int64).toInt = (6 : Int32).toInt from rfl]
  simp only [bS]
  by_cases q1 : (0 : Int32).toInt ≤ a1.toInt ∧ a1.toInt ≤ (6 : Int32).toInt
  · rw [if_neg (bI_T q1), if_neg (bI_T q1)]
    by_cases q2 : (0 : Int32).toInt ≤ a2.toInt ∧ a2.toInt ≤ (6 : Int32).toInt
    · obtain ⟨i, rfl, hi, -⟩ := toInt_nI q1.1
      obtain ⟨k, rfl, hk, -⟩ := toInt_nI q2.1
      have e6 : (6 : Int32).toInt = 6 := rfl
      have hi7 : i < 7 := by omega
      have hk7 : k < 7 := by omega
      obtain ⟨S, hS, eS⟩ := rep_nat H hi7
      rw [if_neg (bI_T q2), if_neg (bI_T q2), jCh_repliesOf, bS, H.2.2.2.2 i hi7, if_pos (ibN hi7 (by omega)), clN (by omega), K.2.2.2.2 i hi7, eS, bit_ush (by omega) hk7, bit_shr (by omega) hk7]
      exact ⟨_, rfl, rfl⟩
    · rw [if_pos (bI_F q2), if_pos (bI_F q2)]
      exact ⟨_, rfl, rfl⟩
  · rw [if_pos (bI_F q1), if_pos (bI_F q1)]
    exact ⟨_, rfl, rfl⟩
theorem op_may : Op_may Rel := by
  intro X Y a1 hr
  obtain ⟨h, t, pg, ⟨O, H, K, F⟩, ⟨T, tx, ty, ta⟩, -⟩ := hr
  have h7 := H.1
  have hl := T.len
  unfold jT_may jM_may
  rw [has_eq H, isMember_eq K, bS, bS]
  by_cases q : 0 ≤ a1.toInt ∧ a1.toInt < hn h
  · obtain ⟨i, hi, rfl⟩ := mem_of q
    rw [if_neg (bI_T q), if_neg (bI_T q), tx, ty, L_canRise2 H T (by omega), M_mayRise2 K T.2 (by omega) ta hi]
    simp only [bS]
    refine ⟨bI (mayS h t i), ?_, ?_⟩ <;> cases mayS h t i <;> rfl
  · rw [if_pos (bI_F q), if_pos (bI_F q)]
    exact ⟨_, rfl, rfl⟩
theorem op_bill : Op_bill Rel := by
  intro X Y hr
  obtain ⟨h, t, pg, ⟨O, H, K, F⟩, ⟨T, tx, ty, ta⟩, -⟩ := hr
  have h7 := H.1
  have hl := T.len
  unfold jT_bill jM_bill
  rw [tx, ty, L_bill2 H T, M_bill K T.2 (by omega) ta]
  exact ⟨_, rfl, rfl⟩
theorem op_down : Op_down Rel := by
  intro X Y hr
  obtain ⟨h, t, pg, ⟨O, H, K, F⟩, ⟨T, tx, ty, ta⟩, P, Q, D1, D2, I⟩ := hr
  unfold jT_down jM_down
  rw [tx, ty, L_size2 H.1 T, bS]
  refine ⟨_, _, _, rfl, rfl, h, [], pg, ⟨O, H, K, F⟩, ⟨⟨List.nodup_nil, fun _ h => by simp at h⟩, rfl, rfl, fun k hk => absurd hk (by simp)⟩, P, Q, D1, D2, I⟩
theorem op_blank : Op_blank Rel := by
  intro X Y hr
  obtain ⟨h, t, pg, ⟨O, H, K, F⟩, T, ⟨g1, g2, g3, g4, g5, g6⟩, Q, D1, D2, I⟩ := hr
  unfold jT_blank jM_blank jPg_length jPg_clear
  rw [g2, g3, bS, bS]
  refine ⟨_, _, _, rfl, rfl, h, t, [], ⟨O, H, K, F⟩, T, ⟨by simp, rfl, rfl, fun k hk => absurd hk (by simp), fun k hk => absurd hk (by simp), fun _ h => by simp at h⟩, Q, D1, D2, I⟩
theorem getD_get {t : List Nat} {k : Nat} (hk : k < t.length) : t.getD k 0 = t[k] := by simp [List.getD, hk]
theorem memberAt_eq {t : List Nat} (h7 : all7 t) (hl : t.length ≤ 7) (a : Int32) : jRo_memberAt (enc t) a = some (if 1 ≤ a.toInt ∧ a.toInt ≤ t.length then nI (t.getD (a.toInt.toNat - 1) 0) else -1) := by
  have e1 : (1 : Int32).toInt = 1 := rfl
  have er : (nI t.reverse.length).toInt = (t.length : Int) := by rw [List.length_reverse]; exact nI_toInt (by omega)
  by_cases q : 1 ≤ a.toInt ∧ a.toInt ≤ t.length
  · rw [if_pos q]
    obtain ⟨k, rfl, hk, -⟩ := toInt_nI (by omega : 0 ≤ a.toInt)
    have hk1 : k - 1 < t.length := by omega
    have e := L_memberAt (all7_rev.mpr h7) (by simp; omega) (k := t.length - k) (by simp; omega)
    rw [List.getElem_reverse] at e
    simp only [List.length_reverse] at e
    rw [show t.length - (t.length - k) = k by omega] at e
    unfold enc
    rw [e, ← hk, Int.toNat_natCast, getD_get hk1]
    congr 3
    omega
  · rw [if_neg q]
    refine L_memberAt_out (all7_rev.mpr h7) (by simp; omega) ?_
    rw [Int32.lt_iff_toInt_lt, Int32.lt_iff_toInt_lt, e1, er]
    omega
theorem op_at : Op_at Rel := by
  intro X Y a1 hr
  obtain ⟨h, t, pg, ⟨O, H, K, F⟩, ⟨T, tx, ty, ta⟩, -⟩ := hr
  have h7 := H.1
  have hl := T.len
  unfold jT_at jM_at
  have e1 : (1 : Int64).toInt = 1 := rfl
  have et : ((nI t.length).toInt64).toInt = (t.length : Int) := by rw [Int32.toInt_toInt64]; exact nI_toInt (by omega)
  rw [tx, ty, memberAt_eq (memn_7 h7 T.2) (by omega), bS, in_int, bS, e1, et]
  by_cases q : 1 ≤ a1.toInt ∧ a1.toInt ≤ t.length
  · obtain ⟨k, rfl, hk, -⟩ := toInt_nI (by omega : 0 ≤ a1.toInt)
    have hk1 : k - 1 < t.length := by omega
    have hm := memn_7 h7 T.2 _ (List.getElem_mem hk1)
    rw [if_pos q, if_neg (bI_T q), ← hk, Int.toNat_natCast, getD_get hk1, if_neg, show nI k - 1 = nI (k - 1) from pk_sub (a := k) (b := 1) (by omega), if_pos (ibN (by omega) (by omega)), clN (by omega), ta _ hk1]
    · exact ⟨_, rfl, rfl⟩
    · intro z
      have z1 : (nI t[k - 1]).toInt = (-1 : Int32).toInt := by rw [z]
      rw [nI_toInt (by omega)] at z1
      have : (-1 : Int32).toInt = -1 := rfl
      omega
  · rw [if_neg q, if_pos (bI_F q), if_pos rfl]
    exact ⟨_, rfl, rfl⟩
theorem op_count : Op_count Rel := by
  intro X Y a1 hr
  obtain ⟨h, t, pg, ⟨O, H, K, F⟩, ⟨T, tx, ty, ta⟩, ⟨g1, g2, g3, g4, g5, g6⟩, ⟨p1, p2⟩, ⟨d, d1, d2, d3⟩, ⟨c, c1, c2, c3⟩, I⟩ := hr
  unfold jT_count jM_count jM_countOf jCh_size jCh_pairs jCh_limit jPg_length
  rw [tx, L_size2 H.1 T, H.2.1, H.2.2.1, g2, g3, p1, p2, d2, d3, c2, c3, K.2.1, K.2.2.1, ty]
  simp only [bS, bO]
  have key : ∀ e : Option Int32, (∃ r, e = some r) → ∃ r, e = some r ∧ e = some r := fun e ⟨r, h⟩ => ⟨r, h, h⟩
  apply key
  repeat' split
  all_goals exact ⟨_, rfl⟩
theorem isA_eq {h : House} {X : St} (H : HX h X) {i : Nat} (hi : i < hn h) (a : Int32) : jMe_isA X i a = some (bI (decide (a = 0 ∨ a = hg h i 0 ∨ (a = 2 ∧ hg h i 0 = 4)))) := by
  unfold jMe_isA jMe_isA_25
  rw [H.2.2.2.1 i hi 0 (by omega)]
  by_cases q1 : a = 0
  · rw [if_pos q1, decide_eq_true (Or.inl q1)]; rfl
  · rw [if_neg q1]
    by_cases q2 : a = hg h i 0
    · rw [if_pos q2, decide_eq_true (Or.inr (Or.inl q2))]; rfl
    · rw [if_neg q2]
      by_cases q3 : a = 2
      · rw [if_pos q3]
        by_cases q4 : hg h i 0 = 4
        · rw [if_pos q4, decide_eq_true (Or.inr (Or.inr ⟨q3, q4⟩))]; rfl
        · rw [if_neg q4, decide_eq_false]; rfl
          rintro (z | z | z)
          · exact q1 z
          · exact q2 z
          · exact q4 z.2
      · rw [if_neg q3, decide_eq_false]; rfl
        rintro (z | z | z)
        · exact q1 z
        · exact q2 z
        · exact q3 z.1
theorem op_as : Op_as Rel := by
  intro X Y a1 a2 hr
  obtain ⟨h, t, pg, ⟨O, H, K, F⟩, -⟩ := hr
  have h7 := H.1
  unfold jT_as jM_as jM_as_55 jM_as_59 jM_as_60
  rw [has_eq H, isMember_eq K, bS, bS]
  by_cases q : 0 ≤ a1.toInt ∧ a1.toInt < hn h
  · obtain ⟨i, hi, rfl⟩ := mem_of q
    rw [if_neg (bI_T q), if_neg (bI_T q), between_eq, in_int, show (0 : Int64).toInt = (0 : Int32).toInt from rfl, show (4 : Int64).toInt = (4 : Int32).toInt from rfl, bS, bS]
    by_cases q2 : (0 : Int32).toInt ≤ a2.toInt ∧ a2.toInt ≤ (4 : Int32).toInt
    · obtain ⟨m1, m2⟩ := M_0 K hi
      rw [if_neg (bI_T q2), if_neg (bI_T q2), L_who (by omega), bS, if_pos (by omega), isA_eq H hi, bS, if_pos m1, m2]
      by_cases z1 : a2 = 0
      · rw [decide_eq_true (Or.inl z1), if_neg (by decide), if_pos z1]; exact ⟨_, rfl, rfl⟩
      · rw [if_neg z1]
        by_cases z2 : a2 = hg h i 0
        · rw [decide_eq_true (Or.inr (Or.inl z2)), if_neg (by decide), if_pos z2]; exact ⟨_, rfl, rfl⟩
        · rw [if_neg z2]
          by_cases z3 : a2 = 2
          · rw [if_pos z3]
            by_cases z4 : hg h i 0 = 4
            · rw [decide_eq_true (Or.inr (Or.inr ⟨z3, z4⟩)), if_neg (by decide), if_pos z4]; exact ⟨_, rfl, rfl⟩
            · rw [decide_eq_false, if_pos (by decide), if_neg z4]; exact ⟨_, rfl, rfl⟩
              rintro (y | y | y)
              · exact z1 y
              · exact z2 y
              · exact z4 y.2
          · rw [decide_eq_false, if_pos (by decide), if_neg z3]; exact ⟨_, rfl, rfl⟩
            rintro (y | y | y)
            · exact z1 y
            · exact z2 y
            · exact z3 y.1
    · rw [if_pos (bI_F q2), if_pos (bI_F q2)]
      exact ⟨_, rfl, rfl⟩
  · rw [if_pos (bI_F q), if_pos (bI_F q)]
    exact ⟨_, rfl, rfl⟩
theorem split_at {t : List Nat} {x : Nat} (h : x ∈ t) (hd : t.Nodup) : ∃ b c, t = b ++ x :: c ∧ ¬ x ∈ c ∧ ¬ x ∈ b ∧ t.idxOf x = b.length := by
  obtain ⟨b, c, rfl⟩ := List.append_of_mem h
  have h1 := List.nodup_append.mp hd
  have h2 := List.nodup_cons.mp h1.2.1
  have h3 : ¬ x ∈ b := fun q => h1.2.2 x q x List.mem_cons_self rfl
  refine ⟨b, c, rfl, h2.1, h3, ?_⟩
  rw [List.idxOf_append, if_neg h3, List.idxOf_cons_self, Nat.zero_add]
/-- what is told of one, both ways -/
theorem tell_eq {X Y : St} {h : House} {t pg : List Nat} (hr : RelH h t pg X Y) {i : Nat} (hi : i < hn h) (a2 : Int32) : ∃ r, jT_about X (nI i) a2 = some r ∧ jM_tell Y (nI i) a2 = some r := by
  obtain ⟨⟨O, H, K, F⟩, ⟨T, tx, ty, ta⟩, -⟩ := hr
  have h7 := H.1
  have hl := T.len
  have q : 0 ≤ (nI i).toInt ∧ (nI i).toInt < hn h := by rw [nI_toInt (by omega)]; omega
  unfold jT_about
  rw [has_eq H, bS, if_neg (bI_T q), L_who (by omega), bS, if_pos (by omega), tx, L_height2 h7 T (by omega), L_canBear H hi]
  have hload : jCh_loadOn X (enc t) (nI i) = some (ldR h i t.reverse []) := L_loadOn H (by omega) (tw_r T) (by simp; omega)
  rw [hload]
  simp only [bS]
  have low : ∀ k, k < 7 → a2 = nI k → jM_tell Y (nI i) a2 = some (sM X i k) := by
    intro k hk e
    subst e
    have ne : ∀ (j : Nat) (jj : Int32), jj = nI j → 7 ≤ j → j < 12 → ¬ nI k = jj := fun j jj e h1 h2 z => by rw [e] at z; have := nI_inj (by omega) (by omega) z; omega
    obtain ⟨m1, m2⟩ := M_k K hi (k := k) (by omega) (nI k) rfl
    unfold jM_tell
    rw [if_neg (ne 7 7 rfl (by omega) (by omega)), if_neg (ne 8 8 rfl (by omega) (by omega)), if_neg (ne 9 9 rfl (by omega) (by omega)), if_neg (ne 10 10 rfl (by omega) (by omega)), if_neg (ne 11 11 rfl (by omega) (by omega)), in_int, bS, if_neg (bI_T ?_), if_pos m1, m2, H.2.2.2.1 i hi k (by omega)]
    rw [nI_toInt (by omega), show (0 : Int64).toInt = 0 from rfl, show (6 : Int64).toInt = 6 from rfl]
    omega
  by_cases z0 : a2 = 0
  · exact ⟨_, if_pos z0, low 0 (by omega) z0⟩
  by_cases z1 : a2 = 1
  · exact ⟨_, by rw [if_neg z0, if_pos z1], low 1 (by omega) z1⟩
  by_cases z2 : a2 = 2
  · exact ⟨_, by rw [if_neg z0, if_neg z1, if_pos z2], low 2 (by omega) z2⟩
  by_cases z3 : a2 = 3
  · exact ⟨_, by rw [if_neg z0, if_neg z1, if_neg z2, if_pos z3], low 3 (by omega) z3⟩
  by_cases z4 : a2 = 4
  · exact ⟨_, by rw [if_neg z0, if_neg z1, if_neg z2, if_neg z3, if_pos z4], low 4 (by omega) z4⟩
  by_cases z5 : a2 = 5
  · exact ⟨_, by rw [if_neg z0, if_neg z1, if_neg z2, if_neg z3, if_neg z4, if_pos z5], low 5 (by omega) z5⟩
  by_cases z6 : a2 = 6
  · exact ⟨_, by rw [if_neg z0, if_neg z1, if_neg z2, if_neg z3, if_neg z4, if_neg z5, if_pos z6], low 6 (by omega) z6⟩
  rw [if_neg z0, if_neg z1, if_neg z2, if_neg z3, if_neg z4, if_neg z5, if_neg z6]
  unfold jM_tell
  rw [M_height (memn_7 h7 T.2) (by omega) ty ta (by omega), M_weighs O K hi, M_canBear O K hi]
  simp only [bS]
  by_cases z7 : a2 = 7
  · rw [if_pos z7, if_pos z7]; exact ⟨_, rfl, rfl⟩
  by_cases z8 : a2 = 8
  · obtain ⟨m1, m2⟩ := M_k K hi (k := 7) (by omega) 7 rfl
    rw [if_neg z7, if_pos z8, if_neg z7, if_pos z8, if_pos m1, m2, H.2.2.2.1 i hi 7 (by omega)]; exact ⟨_, rfl, rfl⟩
  by_cases z9 : a2 = 9
  · rw [if_neg z7, if_neg z8, if_pos z9, if_neg z7, if_neg z8, if_pos z9, H.2.2.2.1 i hi 9 (by omega)]; exact ⟨_, rfl, rfl⟩
  by_cases z10 : a2 = 10
  · rw [if_neg z7, if_neg z8, if_neg z9, if_pos z10, if_neg z7, if_neg z8, if_neg z9, if_pos z10]; exact ⟨_, rfl, rfl⟩
  rw [if_neg z7, if_neg z8, if_neg z9, if_neg z10, if_neg z7, if_neg z8, if_neg z9, if_neg z10]
  by_cases z11 : a2 = 11
  · rw [if_pos z11, if_pos z11]
    by_cases hin : i ∈ t
    · obtain ⟨b, c, e, hc, -, he⟩ := split_at hin T.1
      have hp : t.idxOf i < t.length := by rw [he, e]; simp
      have hget : t[t.idxOf i] = i := List.getElem_idxOf hp
      rw [idxH, if_pos hin, if_neg (nI_ne0 (by omega) (by omega)), ty, show nI (t.idxOf i + 1) - 1 = nI (t.idxOf i) from nI_pred _, M_bears O K T.2 (by omega) ta hp, bS]
      refine ⟨_, rfl, ?_⟩
      rw [hget]
      congr 1
      have e2 : t.reverse = c.reverse ++ i :: b.reverse := by rw [e]; simp
      have e3 : t.drop (t.idxOf i + 1) = c := by rw [he]; rw [e]; simp
      rw [e2, ldR_in h i c.reverse b.reverse [] (by simpa using hc), List.reverse_reverse, List.append_nil, e3]
    · rw [idxH, if_neg hin, if_pos (show nI 0 = 0 from rfl), ldR_out h i _ _ (by simpa using hin)]
      exact ⟨_, rfl, rfl⟩
  · rw [if_neg z11, if_neg z11, in_int, bS, if_pos (bI_F ?_)]
    · exact ⟨_, rfl, rfl⟩
    · rintro ⟨y1, y2⟩
      obtain ⟨k, rfl, hk, -⟩ := toInt_nI y1
      have e6 : (6 : Int64).toInt = 6 := rfl
      have hk6 : k ≤ 6 := by omega
      rcases (show k = 0 ∨ k = 1 ∨ k = 2 ∨ k = 3 ∨ k = 4 ∨ k = 5 ∨ k = 6 by omega) with rfl | rfl | rfl | rfl | rfl | rfl | rfl
      · exact z0 rfl
      · exact z1 rfl
      · exact z2 rfl
      · exact z3 rfl
      · exact z4 rfl
      · exact z5 rfl
      · exact z6 rfl
theorem op_about : Op_about Rel := by
  intro X Y a1 a2 hr
  obtain ⟨h, t, pg, hr⟩ := hr
  have H := hr.1.2.1
  have K := hr.1.2.2.1
  unfold jM_about
  rw [isMember_eq K, bS]
  by_cases q : 0 ≤ a1.toInt ∧ a1.toInt < hn h
  · obtain ⟨i, hi, rfl⟩ := mem_of q
    obtain ⟨r, e1, e2⟩ := tell_eq hr hi a2
    rw [if_neg (bI_T q), e2]
    exact ⟨r, e1, rfl⟩
  · unfold jT_about
    rw [has_eq H, bS, if_pos (bI_F q), if_pos (bI_F q)]
    exact ⟨_, rfl, rfl⟩
