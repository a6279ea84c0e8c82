/-! the page as a debate -/
def dgo : List Nat → List Nat → List Nat
  | [], v => v
  | c :: cs, v => if 48 ≤ c ∧ c ≤ 54 ∧ ¬ (c - 48) ∈ v then dgo cs (v ++ [c - 48]) else v
theorem sN_push (v : List Nat) (d : Nat) : sN (v ++ [d]) = sN v ||| 2 ^ d := by
  apply Nat.eq_of_testBit_eq
  intro j
  rw [sN_bit, Nat.testBit_or, sN_bit, Nat.testBit_two_pow]
  by_cases h1 : j ∈ v <;> by_cases h2 : d = j <;> simp [h1, h2]
  intro h3; exact h2 h3.symm
theorem digit_of {c : Nat} (hc : c ≤ 126) (hi : Int32) {n : Nat} (en : hi.toInt = n) : ((0 : Int32).toInt ≤ (nI c - 48).toInt ∧ (nI c - 48).toInt ≤ hi.toInt) ↔ (48 ≤ c ∧ c ≤ 48 + n) := by
  rw [show (48 : Int32) = nI 48 from rfl, pk_sub_toInt (by omega) (by decide), en]
  have : (0 : Int32).toInt = 0 := rfl
  omega
theorem digit_eq {c : Nat} (hc : 48 ≤ c) : nI c - 48 = nI (c - 48) := pk_sub (a := c) (b := 48) hc
theorem letter_eq {X : St} {pg : List Nat} (hl : pg.length ≤ 32) (hs : sF X 17 = nI pg.length) (ha : Arr (sA X 2) pg) {k : Nat} (hk : k < pg.length) : jPg_letter X (nI k) = some (nI pg[k]) := by
  unfold jPg_letter
  rw [if_neg (nI_pos (by omega)), hs, if_neg (nI_ge (by omega) (by omega)), if_neg (show ¬ (32 : Int32) ≤ nI k from nI_ge (b := 32) (by omega) (by omega)), if_pos (ibN (by omega) (by omega)), clN (by omega), ha k hk]
def VT (v : List Nat) : Prop := v.Nodup ∧ all7 v
theorem VT.len {v : List Nat} (h : VT v) : v.length ≤ 7 := nodup_len 7 v h.1 h.2
theorem VT.push {v : List Nat} (h : VT v) {d : Nat} (hd : d < 7) (hno : ¬ d ∈ v) : VT (v ++ [d]) := (Tw.push (n := 7) h hd hno)
theorem dgo_VT : ∀ (cs v : List Nat), VT v → VT (dgo cs v)
  | [], v, h => h
  | c :: cs, v, h => by
    rw [dgo]
    split
    · rename_i q
      exact dgo_VT cs _ (h.push (by omega) q.2.2)
    · exact h
theorem enc_push {v : List Nat} (h : VT v) {d : Nat} (hd : d < 7) (hno : ¬ d ∈ v) : jRo_with (enc v) (nI d) = some (enc (v ++ [d])) := by
  have h2 := h.push hd hno
  have hl := h2.len
  simp only [List.length_append, List.length_singleton] at hl
  have e : (v ++ [d]).reverse = d :: v.reverse := by simp
  unfold enc
  rw [L_with (by rw [← e]; exact all7_rev.mpr h2.2) (by simp; omega), e]
theorem L_dfault_lp {pg : List Nat} (hl : pg.length ≤ 32) (h126 : ∀ c ∈ pg, 1 ≤ c ∧ c ≤ 126) : ∀ (f : Nat) (X : St) (v : List Nat), sF X 17 = nI pg.length → Arr (sA X 2) pg → VT v → sF X 64 = nI (sN v) → sF X 65 = enc v → v.length ≤ pg.length → pg.length < v.length + f → ∃ X2, jPg_faultOf_d_6 f X (nI v.length) = some (nI (dgo (pg.drop v.length) v).length, X2) ∧ (∀ q, q ≠ 64 → q ≠ 65 → sF X2 q = sF X q) ∧ (∀ q, sG X2 q = sG X q) ∧ (∀ i k, sM X2 i k = sM X i k) ∧ (∀ a, sA X2 a = sA X a) ∧ sF X2 64 = nI (sN (dgo (pg.drop v.length) v)) ∧ sF X2 65 = enc (dgo (pg.drop v.length) v)
  | 0, X, v, _, _, _, _, _, _, h2 => absurd h2 (by omega)
  | f + 1, X, v, hs, ha, hv, e64, e65, hk, h2 => by
    have hv7 := hv.len
    rw [jPg_faultOf_d_6, hs]
    by_cases q : v.length = pg.length
    · rw [if_pos (nI_le (by omega) (by omega)), q, List.drop_length, dgo]
      exact ⟨X, by rw [q], fun _ _ _ => rfl, fun _ => rfl, fun _ _ => rfl, fun _ => rfl, e64, e65⟩
    · have hk2 : v.length < pg.length := by omega
      have hc := h126 _ (List.getElem_mem hk2)
      rw [if_neg (nI_ge (by omega) (by omega)), letter_eq hl hs ha hk2, bS, List.drop_eq_getElem_cons hk2, dgo]
      generalize pg[v.length] = c at hc
      unfold jDt_takes
      rw [between_eq, bS]
      by_cases q1 : 48 ≤ c ∧ c ≤ 54
      · rw [if_neg (bI_T ((digit_of hc.2 6 (n := 6) rfl).mpr q1)), digit_eq q1.1, e64, bit_ush (Nat.lt_trans (sN_lt hv.2) (by decide)) (by omega), sN_bit]
        by_cases q2 : (c - 48) ∈ v
        · rw [decide_eq_true q2, if_pos (by decide), bS, if_pos rfl, if_neg (fun z => z.2.2 q2)]
          exact ⟨X, rfl, fun _ _ _ => rfl, fun _ => rfl, fun _ _ => rfl, fun _ => rfl, e64, e65⟩
        · have hd : c - 48 < 7 := by omega
          rw [decide_eq_false q2, if_neg (by decide), one_shl (by omega), fa_or, ← sN_push, show sF (pF X 64 (nI (sN (v ++ [c - 48])))) 65 = enc v from e65, enc_push hv hd q2, bS, bS]
          dsimp only
          rw [if_neg (by decide), nI_1, if_pos ⟨q1.1, q1.2, q2⟩]
          have hl2 : (v ++ [c - 48]).length = v.length + 1 := by simp
          obtain ⟨X2, e, e1, e2, e3, e4, e5, e6⟩ := L_dfault_lp hl h126 f (pF (pF X 64 (nI (sN (v ++ [c - 48])))) 65 (enc (v ++ [c - 48]))) (v ++ [c - 48]) hs ha (hv.push hd q2) rfl rfl (by omega) (by omega)
          rw [hl2] at e e5 e6
          refine ⟨X2, e, fun q h1 h2 => ?_, e2, e3, e4, e5, e6⟩
          rw [e1 q h1 h2, sF_pF, if_neg h2, sF_pF, if_neg h1]
      · rw [if_pos (bI_F (fun z => q1 ((digit_of hc.2 6 (n := 6) rfl).mp z))), bS, if_pos rfl, if_neg (fun z => q1 ⟨z.1, z.2.1⟩)]
        exact ⟨X, rfl, fun _ _ _ => rfl, fun _ => rfl, fun _ _ => rfl, fun _ => rfl, e64, e65⟩
theorem M_dfault_lp {pg : List Nat} (hl : pg.length ≤ 32) (h126 : ∀ c ∈ pg, 1 ≤ c ∧ c ≤ 126) : ∀ (f : Nat) (Y : St) (v : List Nat), sF Y 1 = nI pg.length → Arr (sA Y 1) pg → VT v → Arr (sA Y 4) v → v.length ≤ pg.length → pg.length < v.length + f → ∃ Y2, jM_debateFault_9 f Y (nI (sN v)) (nI v.length) = some (nI (dgo (pg.drop v.length) v).length, Y2) ∧ (∀ q, q ≠ 11 → sF Y2 q = sF Y q) ∧ (∀ a, a ≠ 4 → sA Y2 a = sA Y a) ∧ sF Y2 11 = nI (dgo (pg.drop v.length) v).length ∧ Arr (sA Y2 4) (dgo (pg.drop v.length) v)
  | 0, X, v, _, _, _, _, _, h2 => absurd h2 (by omega)
  | f + 1, Y, v, hs, ha, hv, hr, hk, h2 => by
    have hv7 := hv.len
    have stop : ∃ Y2, jM_debateFault_88 Y (nI v.length) = some (nI v.length, Y2) ∧ (∀ q, q ≠ 11 → sF Y2 q = sF Y q) ∧ (∀ a, a ≠ 4 → sA Y2 a = sA Y a) ∧ sF Y2 11 = nI v.length ∧ Arr (sA Y2 4) v := ⟨_, rfl, fun q h => by rw [sF_pF, if_neg h], fun _ _ => rfl, rfl, hr⟩
    rw [jM_debateFault_9, hs]
    by_cases q : v.length = pg.length
    · rw [if_pos (nI_le (by omega) (by omega)), q, List.drop_length, dgo]
      rw [q] at stop
      exact q ▸ stop
    · have hk2 : v.length < pg.length := by omega
      have hc := h126 _ (List.getElem_mem hk2)
      have eg : sA Y 1 v.length = nI pg[v.length] := ha _ hk2
      rw [if_neg (nI_ge (by omega) (by omega)), if_pos (ibN (by omega) (by omega)), clN (by omega), eg, List.drop_eq_getElem_cons hk2, dgo]
      generalize pg[v.length] = c at hc
      rw [in_int, bS, show (0 : Int64).toInt = (0 : Int32).toInt from rfl, show (6 : Int64).toInt = (6 : Int32).toInt from rfl]
      by_cases q1 : 48 ≤ c ∧ c ≤ 54
      · rw [if_neg (bI_T ((digit_of hc.2 6 (n := 6) rfl).mpr q1)), digit_eq q1.1, if_pos (ibN (by omega) (by omega)), bit_shr (Nat.lt_trans (sN_lt hv.2) (by decide)) (by omega), sN_bit]
        by_cases q2 : (c - 48) ∈ v
        · rw [decide_eq_true q2, if_neg (by decide), if_neg (fun z => z.2.2 q2)]
          exact stop
        · have hd : c - 48 < 7 := by omega
          have h3 := (hv.push hd q2).len
          have hl2 : (v ++ [c - 48]).length = v.length + 1 := by simp
          rw [decide_eq_false q2, if_pos (by decide), if_pos (ibN (by omega) (by omega)), if_pos (ibN (by omega) (by omega)), if_pos (ibN (by omega) (by omega)), one_shl (by omega), fa_or, ← sN_push, nI_1, if_pos ⟨q1.1, q1.2, q2⟩]
          obtain ⟨Y2, e, e1, e2, e3, e4⟩ := M_dfault_lp hl h126 f (pA Y 4 v.length (nI (c - 48))) (v ++ [c - 48]) hs ha (hv.push hd q2) (Arr_push hr _) (by omega) (by omega)
          rw [hl2] at e e3 e4
          refine ⟨Y2, e, e1, fun a h1 => ?_, e3, e4⟩
          rw [e2 a h1, sA_pA, if_neg h1]
      · rw [if_pos (bI_F (fun z => q1 ((digit_of hc.2 6 (n := 6) rfl).mp z))), if_neg (fun z => q1 ⟨z.1, z.2.1⟩)]
        exact stop
theorem EqX_d {X X2 : St} (e1 : ∀ q, q ≠ 64 → q ≠ 65 → sF X2 q = sF X q) (e2 : ∀ q, sG X2 q = sG X q) (e3 : ∀ i k, sM X2 i k = sM X i k) (e4 : ∀ a, sA X2 a = sA X a) : EqX X X2 :=
  ⟨⟨e1 _ (by decide) (by decide), e1 _ (by decide) (by decide), e1 _ (by decide) (by decide), e1 _ (by decide) (by decide), e1 _ (by decide) (by decide)⟩, ⟨e1 _ (by decide) (by decide), e1 _ (by decide) (by decide), e1 _ (by decide) (by decide), e1 _ (by decide) (by decide), e1 _ (by decide) (by decide)⟩, e2 _, e3, ⟨e4 _, e4 _, e4 _⟩⟩
theorem EqY_d {Y Y2 : St} (e1 : ∀ q, q ≠ 11 → sF Y2 q = sF Y q) (e2 : ∀ a, a ≠ 4 → sA Y2 a = sA Y a) : EqY Y Y2 :=
  ⟨⟨e1 _ (by decide), e1 _ (by decide), e1 _ (by decide), e1 _ (by decide), e1 _ (by decide)⟩, ⟨e1 _ (by decide), e1 _ (by decide), e1 _ (by decide), e1 _ (by decide), e1 _ (by decide)⟩, ⟨e2 _ (by decide), e2 _ (by decide), e2 _ (by decide), e2 _ (by decide)⟩, ⟨e2 _ (by decide), e2 _ (by decide), e2 _ (by decide)⟩⟩
theorem VT_nil : VT [] := ⟨List.nodup_nil, fun _ h => by simp at h⟩
theorem L_dfault {X Y : St} {h : House} {t pg : List Nat} (hr : RelH h t pg X Y) : ∃ X2, jPg_faultOf_d X = some (nI (dgo pg []).length, X2) ∧ EqX X X2 ∧ sF X2 64 = nI (sN (dgo pg [])) ∧ sF X2 65 = enc (dgo pg []) := by
  obtain ⟨-, -, ⟨g1, g2, g3, g4, g5, g6⟩, -⟩ := hr
  obtain ⟨X2, e, e1, e2, e3, e4, e5, e6⟩ := L_dfault_lp g1 g6 40 (pF (pF X 64 0) 65 0) [] g2 g4 VT_nil rfl rfl (by simp) (by simp; omega)
  refine ⟨X2, e, EqX_d (fun q h1 h2 => ?_) e2 e3 e4, e5, e6⟩
  rw [e1 q h1 h2, sF_pF, if_neg h2, sF_pF, if_neg h1]
theorem M_dfault {X Y : St} {h : House} {t pg : List Nat} (hr : RelH h t pg X Y) : ∃ Y2, jM_debateFault Y = some (nI (dgo pg []).length, Y2) ∧ EqY Y Y2 ∧ sF Y2 11 = nI (dgo pg []).length ∧ Arr (sA Y2 4) (dgo pg []) := by
  obtain ⟨-, -, ⟨g1, g2, g3, g4, g5, g6⟩, -⟩ := hr
  obtain ⟨Y2, e, e1, e2, e3, e4⟩ := M_dfault_lp g1 g6 40 (pF Y 11 0) [] g3 g5 VT_nil (fun k hk => absurd hk (by simp)) (by simp) (by simp; omega)
  refine ⟨Y2, e, EqY_d (fun q h1 => ?_) e2, e3, e4⟩
  rw [e1 q h1, sF_pF, if_neg h1]
theorem sN_lt_iff {v : List Nat} (n : Nat) : sN v < 2 ^ n ↔ memn n v := by
  constructor
  · intro h m hm
    by_cases q : m < n
    · exact q
    · have h1 : (sN v).testBit m = true := by rw [sN_bit]; exact decide_eq_true hm
      have h2 := Nat.ge_two_pow_of_testBit h1
      have h3 : 2 ^ n ≤ 2 ^ m := Nat.pow_le_pow_right (by decide) (by omega)
      omega
  · intro h
    apply Nat.lt_pow_two_of_testBit
    intro i hi
    rw [sN_bit]
    exact decide_eq_false (fun q => by have := h i q; omega)
/-- a debate of members that are there -/
def isDeb (h : House) (pg : List Nat) : Prop := (dgo pg []).length = pg.length ∧ dgo pg [] ≠ [] ∧ memn (hn h) (dgo pg [])
theorem L_debateRow {X Y : St} {h : House} {t pg : List Nat} (hr : RelH h t pg X Y) : ∃ X2 r, jT_debateRow X = some (r, X2) ∧ EqX X X2 ∧ ((isDeb h pg ∧ r = enc (dgo pg [])) ∨ (¬ isDeb h pg ∧ r = 0)) := by
  obtain ⟨X2, e, eq, e5, e6⟩ := L_dfault hr
  obtain ⟨-, -, ⟨g1, g2, g3, g4, g5, g6⟩, -⟩ := id hr
  have H := hr.1.2.1
  have h7 := H.1
  have hv := dgo_VT pg [] VT_nil
  have hv7 := hv.len
  have e17 : sF X2 17 = nI pg.length := by rw [eq.1.2.2.2.2]; exact g2
  have e84 : sF X2 84 = nI (hn h) := by rw [eq.2.1.1]; exact H.2.1
  unfold jT_debateRow jPg_isWhole_d jDt_canEnd jDt_said jCh_size jT_debateRow_40 jDt_row
  rw [e, bS]
  dsimp only
  rw [e17, e5]
  by_cases q : (dgo pg []).length = pg.length
  · rw [if_pos (by rw [q])]
    by_cases q2 : dgo pg [] = []
    · refine ⟨X2, 0, ?_, eq, Or.inr ⟨fun z => z.2.1 q2, rfl⟩⟩
      rw [q2]; rfl
    · have hpos : 0 < sN (dgo pg []) := by
        obtain ⟨m, hm⟩ := List.exists_mem_of_ne_nil _ q2
        have h1 : (sN (dgo pg [])).testBit m = true := by rw [sN_bit]; exact decide_eq_true hm
        have h2 := Nat.ge_two_pow_of_testBit h1
        have := Nat.two_pow_pos m
        omega
      have hs := sN_lt hv.2
      rw [if_neg (nI_ne0 hpos (by omega)), bS, if_neg (by decide), bS]
      dsimp only
      rw [if_neg (by decide)]
      simp only [bS]
      rw [e5, e6, e84, one_shl (by omega)]
      have hp : 2 ^ hn h ≤ 2 ^ 7 := Nat.pow_le_pow_right (by decide) h7
      have hp2 : 2 ^ 7 = 128 := by decide
      by_cases q3 : memn (hn h) (dgo pg [])
      · have := (sN_lt_iff (hn h)).mpr q3
        rw [if_neg (nI_ge (by omega) (by omega)), if_neg (by decide)]
        exact ⟨X2, _, rfl, eq, Or.inl ⟨⟨q, q2, q3⟩, rfl⟩⟩
      · have : ¬ sN (dgo pg []) < 2 ^ hn h := fun z => q3 ((sN_lt_iff (hn h)).mp z)
        rw [if_pos (nI_le (by omega) (by omega)), if_pos trivial]
        exact ⟨X2, _, rfl, eq, Or.inr ⟨fun z => q3 z.2.2, rfl⟩⟩
  · rw [if_neg (fun z => q (nI_inj (by omega) (by omega) z)), bS, if_pos rfl]
    exact ⟨X2, 0, rfl, eq, Or.inr ⟨fun z => q z.1, rfl⟩⟩
def memb (n : Nat) (v : List Nat) : Bool := v.all (fun m => decide (m < n))
theorem memb_iff {n : Nat} {v : List Nat} : memb n v = true ↔ memn n v := by simp [memb, memn]
theorem memb_c (n m : Nat) (v : List Nat) : memb n (m :: v) = (decide (m < n) && memb n v) := rfl
theorem M_isDebate_lp {h : House} {v : List Nat} (hv : VT v) : ∀ (f k : Nat) (Y : St) (b : Bool), HY h Y → sF Y 11 = nI v.length → Arr (sA Y 4) v → k ≤ v.length → v.length < k + f → jM_isDebate_26 f Y (bI b) (nI k) = some (bI (b && memb (hn h) (v.drop k)), Y)
  | 0, k, Y, b, _, _, _, _, h2 => absurd h2 (by omega)
  | f + 1, k, Y, b, K, hs, ha, hk, h2 => by
    have hv7 := hv.len
    rw [jM_isDebate_26, hs]
    by_cases q : k = v.length
    · rw [if_pos (nI_le (by omega) (by omega)), bI_and, if_pos rfl, q, List.drop_length, show memb (hn h) [] = true from rfl, Bool.and_true]
    · have hk2 : k < v.length := by omega
      have key : ∀ c : Bool, jM_isDebate_56 (jM_isDebate_26 f) Y (nI k) (bI c) = some (bI (c && memb (hn h) (v.drop (k + 1))), Y) := by
        intro c
        unfold jM_isDebate_56
        rw [nI_1, M_isDebate_lp hv f (k + 1) Y c K hs ha (by omega) (by omega)]
      rw [if_neg (nI_ge (by omega) (by omega)), List.drop_eq_getElem_cons hk2]
      cases b with
      | false => rw [if_pos bI_f, jM_isDebate_55]; exact key false
      | true =>
        have hm := hv.2 _ (List.getElem_mem hk2)
        rw [if_neg (by decide), if_pos (ibN (by omega) (by omega)), clN (by omega), ha k hk2, isMember_eq K, bS, nI_toInt (by omega), Bool.true_and]
        by_cases z : v[k] < hn h
        · rw [if_neg (bI_T (by omega))]
          have := key true
          rw [Bool.true_and] at this
          rw [show (1 : Int32) = bI true from rfl, this]
          rw [memb_c, decide_eq_true z, Bool.true_and]
        · rw [if_pos (bI_F (by omega)), jM_isDebate_55, memb_c, decide_eq_false z]
          exact key false
theorem M_isDebate {X Y : St} {h : House} {t pg : List Nat} (hr : RelH h t pg X Y) : ∃ Y2 b, jM_isDebate Y = some (bI b, Y2) ∧ EqY Y Y2 ∧ (b = true ↔ isDeb h pg) ∧ sF Y2 11 = nI (dgo pg []).length ∧ Arr (sA Y2 4) (dgo pg []) := by
  obtain ⟨Y2, e, eq, e5, e6⟩ := M_dfault hr
  obtain ⟨-, -, ⟨g1, g2, g3, g4, g5, g6⟩, -⟩ := id hr
  have K : HY h Y2 := hr.1.2.2.1.scr eq
  have hv := dgo_VT pg [] VT_nil
  have hv7 := hv.len
  have e1 : sF Y2 1 = nI pg.length := by rw [eq.1.1]; exact g3
  unfold jM_isDebate jM_isDebate_22 jM_isDebate_23
  rw [e, bS, e1, e5]
  have h0 := M_isDebate_lp (h := h) hv 10 0 Y2 false K e5 e6 (by omega) (by omega)
  have h1 := M_isDebate_lp (h := h) hv 10 0 Y2 true K e5 e6 (by omega) (by omega)
  rw [List.drop_zero] at h0 h1
  have h0' : jM_isDebate_26 10 Y2 0 0 = some (bI false, Y2) := h0
  have h1' : jM_isDebate_26 10 Y2 1 0 = some (bI (true && memb (hn h) (dgo pg [])), Y2) := h1
  by_cases q : (dgo pg []).length = pg.length
  · rw [if_pos (by rw [q])]
    by_cases q2 : dgo pg [] = []
    · rw [if_pos (by rw [q2]; decide)]
      exact ⟨Y2, false, h0', eq, ⟨fun z => (by cases z), fun z => absurd q2 z.2.1⟩, e5, e6⟩
    · have hp : 0 < (dgo pg []).length := List.length_pos_iff.mpr q2
      rw [if_neg (nI_nle hp (by omega))]
      refine ⟨Y2, _, h1', eq, ?_, e5, e6⟩
      rw [Bool.true_and, memb_iff]
      exact ⟨fun z => ⟨q, q2, z⟩, fun z => z.2.2⟩
  · rw [if_neg (fun z => q (nI_inj (by omega) (by omega) z))]
    exact ⟨Y2, false, h0', eq, ⟨fun z => (by cases z), fun z => absurd z.1 q⟩, e5, e6⟩
