/-! the orders and the laws of a set -/
theorem pw_n {n : Nat} (h7 : n ≤ 7) : 2 ^ n ≤ 128 ∧ 1 ≤ 2 ^ n := ⟨Nat.pow_le_pow_right (by decide) h7, Nat.two_pow_pos n⟩
theorem set_hi {n : Nat} (h7 : n ≤ 7) : (1 : Int32) <<< (nI n &&& 31) - 1 = nI (2 ^ n - 1) := by
  have := pw_n h7
  rw [one_shl (by omega), show (1 : Int32) = nI 1 from rfl, pk_sub (by omega)]
theorem isSet_L {h : House} {X : St} (H : HX h X) (a : Int32) : jT_isSet X a = some (bI (decide (0 ≤ a.toInt ∧ a.toInt < (2 ^ hn h : Nat)))) := by
  have h7 := H.1
  have := pw_n h7
  unfold jT_isSet jCh_size
  rw [bS, H.2.1, set_hi h7, between_eq, bS, bI_and, if_pos rfl, nI_toInt (by omega), show (0 : Int32).toInt = 0 from rfl]
  congr 2
  apply decide_eq_decide.mpr
  omega
theorem isSet_M {h : House} {Y : St} (K : HY h Y) (a : Int32) : jM_isSet Y a = some (bI (decide (0 ≤ a.toInt ∧ a.toInt < (2 ^ hn h : Nat)))) := by
  have h7 := K.1
  have := pw_n h7
  unfold jM_isSet
  rw [K.2.1, set_hi h7, in_int, bS, bI_and, if_pos rfl, Int32.toInt_toInt64, nI_toInt (by omega), show (0 : Int64).toInt = 0 from rfl]
  congr 2
  apply decide_eq_decide.mpr
  omega
theorem RelH.cnt {h : House} {t pg : List Nat} {X Y : St} (r : RelH h t pg X Y) {d : Nat} (hd : d < 40) (e1 : sF X 8 = nI d) (e2 : sF Y 19 = nI d) : RelH h t pg (pF X 8 (sF X 8 + 1)) (pF Y 19 (sF Y 19 + 1)) := by
  obtain ⟨⟨O, H, K, F⟩, T, P, Q, D1, D2, I⟩ := r
  refine ⟨⟨O, H, K, F⟩, T, P, Q, ⟨d + 1, by omega, ?_, ?_⟩, D2, I⟩
  · show sF X 8 + 1 = _
    rw [e1, nI_1]
  · show sF Y 19 + 1 = _
    rw [e2, nI_1]
theorem op_order : Op_order Rel := by
  intro X Y a1 a2 hr
  obtain ⟨h, t, pg, hr⟩ := hr
  have H := hr.1.2.1
  have K := hr.1.2.2.1
  obtain ⟨d, d1, d2, d3⟩ := hr.2.2.2.2.1
  have h7 := H.1
  have hp := pw_n h7
  unfold jT_order jM_order
  rw [isSet_L H, isSet_M K, between_eq, in_int, show (0 : Int64).toInt = (0 : Int32).toInt from rfl, show (6 : Int64).toInt = (6 : Int32).toInt from rfl]
  simp only [bS]
  by_cases q1 : 0 ≤ a1.toInt ∧ a1.toInt < (2 ^ hn h : Nat)
  · simp only [if_neg (bI_T q1)]
    by_cases q2 : (0 : Int32).toInt ≤ a2.toInt ∧ a2.toInt ≤ (6 : Int32).toInt
    · simp only [if_neg (bI_T q2)]
      obtain ⟨S, rfl, hS, -⟩ := toInt_nI q1.1
      obtain ⟨a, rfl, ha, -⟩ := toInt_nI q2.1
      have e6 : (6 : Int32).toInt = 6 := rfl
      have hS2 : S < 128 := by omega
      have ha6 : a ≤ 6 := by omega
      by_cases q3 : d = 40
      · simp only [if_neg (show ¬ sF X 8 < 40 by rw [d2, q3]; decide), if_pos (show sF Y 19 = 40 by rw [d3, q3]; rfl)]
        exact ⟨0, _, _, _, rfl, rfl, h, t, pg, hr⟩
      · have hr2 := hr.cnt (by omega) d2 d3
        simp only [if_pos (show sF X 8 < 40 by rw [d2]; exact nI_lt (b := 40) (by omega) (by omega)), if_neg (show ¬ sF Y 19 = 40 by rw [d3]; intro z; have := nI_inj (a := d) (b := 40) (by omega) (by omega) z; omega)]
        generalize pF X 8 (sF X 8 + 1) = X1 at hr2
        generalize pF Y 19 (sF Y 19 + 1) = Y1 at hr2
        obtain ⟨⟨O, H2, K2, F⟩, ⟨T, tx, ty, ta⟩, -⟩ := id hr2
        have hl := T.len
        obtain ⟨N, Y2, e, s, -, f⟩ := lay_eq O K2 T ty ta hS2
        have e1 := L_first H2 (8 - t.length) t (setL S) 10 0 T (setL_nd S) (setL_7 S) (by omega) (by omega) (by omega)
        rw [setL_eq hS2, show nI 0 = 0 from rfl] at e1
        have hT := rows_mem (h := h) (8 - t.length) t (setL S) T (setL_nd S)
        refine ⟨N, ?_⟩
        rw [tx, e1, e, bS, bS]
        cases hrows : rowsS h (8 - t.length) t (setL S) with
        | nil =>
          rw [hrows] at f
          have f21 : sF Y2 21 = -1 := f
          rw [f21, if_pos (show hdE [] = -1 from rfl), if_pos (show (-1 : Int32) ≤ nI a from by
            rw [Int32.le_iff_toInt_le, nI_toInt (by omega)]
            have : (-1 : Int32).toInt = -1 := rfl
            omega)]
          exact ⟨_, _, _, rfl, rfl, h, t, pg, hr2.scr EqX.rfl s.eq⟩
        | cons x l =>
          obtain ⟨Tx, w, ex, -⟩ := hT x (by rw [hrows]; exact List.mem_cons_self)
          have hxl := Tx.len
          rw [hrows] at f
          obtain ⟨f21, f1, f2, f8⟩ := f
          rw [show hdE (x :: l) = enc x from rfl, if_neg (enc_nm1 (memn_7 h7 Tx.2) (by omega)), L_size2 h7 T, bS, nI_1, nI_add, memberAt_eq (memn_7 h7 Tx.2) (by omega), bS, nI_toInt (by omega), f21]
          by_cases q4 : t.length + a < x.length
          · rw [if_pos (by omega), if_neg (nI_ge (by omega) (by omega)), if_pos (ibN (by omega) (by omega)), clN (by omega), f8 a q4]
            refine ⟨_, _, _, rfl, ?_, h, t, pg, hr2.scr EqX.rfl s.eq⟩
            rw [Int.toNat_natCast, show t.length + 1 + a - 1 = t.length + a by omega, getD_get q4]
          · rw [if_neg (by omega), if_pos (nI_le (by omega) (by omega))]
            exact ⟨_, _, _, rfl, rfl, h, t, pg, hr2.scr EqX.rfl s.eq⟩
    · simp only [if_pos (bI_F q2)]
      exact ⟨0, _, _, _, rfl, rfl, h, t, pg, hr⟩
  · simp only [if_pos (bI_F q1)]
    exact ⟨0, _, _, _, rfl, rfl, h, t, pg, hr⟩
theorem op_laws : Op_laws Rel := by
  intro X Y a1 a2 hr
  obtain ⟨h, t, pg, hr⟩ := hr
  have H := hr.1.2.1
  have K := hr.1.2.2.1
  obtain ⟨d, d1, d2, d3⟩ := hr.2.2.2.2.1
  have h7 := H.1
  have hp := pw_n h7
  unfold jT_laws jM_laws
  rw [isSet_L H, isSet_M K, between_eq, in_int, show (0 : Int64).toInt = (0 : Int32).toInt from rfl, show (1 : Int64).toInt = (1 : Int32).toInt from rfl]
  simp only [bS]
  by_cases q1 : 0 ≤ a1.toInt ∧ a1.toInt < (2 ^ hn h : Nat)
  · simp only [if_neg (bI_T q1)]
    by_cases q2 : (0 : Int32).toInt ≤ a2.toInt ∧ a2.toInt ≤ (1 : Int32).toInt
    · simp only [if_neg (bI_T q2)]
      obtain ⟨S, rfl, hS, -⟩ := toInt_nI q1.1
      have hS2 : S < 128 := by omega
      by_cases q3 : d = 40
      · simp only [if_neg (show ¬ sF X 8 < 40 by rw [d2, q3]; decide), if_pos (show sF Y 19 = 40 by rw [d3, q3]; rfl)]
        exact ⟨0, _, _, _, rfl, rfl, h, t, pg, hr⟩
      · have hr2 := hr.cnt (by omega) d2 d3
        simp only [if_pos (show sF X 8 < 40 by rw [d2]; exact nI_lt (b := 40) (by omega) (by omega)), if_neg (show ¬ sF Y 19 = 40 by rw [d3]; intro z; have := nI_inj (a := d) (b := 40) (by omega) (by omega) z; omega)]
        generalize pF X 8 (sF X 8 + 1) = X1 at hr2
        generalize pF Y 19 (sF Y 19 + 1) = Y1 at hr2
        obtain ⟨⟨O, H2, K2, F⟩, ⟨T, tx, ty, ta⟩, -⟩ := id hr2
        have hl := T.len
        obtain ⟨N, Y2, e, s, hBY, -⟩ := lay_eq O K2 T ty ta hS2
        obtain ⟨X2, e1, s1, hB1⟩ := clear_eq X1
        have H3 := H2.scr s1.eq
        obtain ⟨X3, e2, s2, hB2⟩ := L_hear (8 - t.length) t (setL S) 10 0 X2 [] H3 hB1 T (setL_nd S) (setL_7 S) (by omega) (by omega) (by omega)
        rw [setL_eq hS2, show nI 0 = 0 from rfl] at e2
        rw [List.nil_append] at hB2
        have hb : ∀ b ∈ (rowsS h (8 - t.length) t (setL S)).map (bN h), b ≤ 999 := by
          intro b hb
          obtain ⟨u, -, rfl⟩ := List.mem_map.mp hb
          exact (bN_eq h u).2
        have e3 := laws_lp (N := N) hBY a2 1100 0 (by omega) (by omega)
        refine ⟨N, ?_⟩
        rw [e1, bS, (s1.1 6).trans tx, L_bill2 H3 T, bS, e2, bS, e, bS, howMany_eq hB2 hb, greatest_eq hB2 hb, bS, bS]
        refine ⟨_, X3, Y2, ?_, e3, h, t, pg, hr2.scr (s1.tr s2).eq s.eq⟩
        split <;> rfl
    · simp only [if_pos (bI_F q2)]
      exact ⟨0, _, _, _, rfl, rfl, h, t, pg, hr⟩
  · simp only [if_pos (bI_F q1)]
    exact ⟨0, _, _, _, rfl, rfl, h, t, pg, hr⟩
