/-! calls that change members and the tower -/
def hset (h : House) (i k : Nat) (v : Int32) : House := (hn h, hlim h, fun i2 k2 => if i2 = i ∧ k2 = k then v else hg h i2 k2)
theorem hn_set (h : House) (i k : Nat) (v : Int32) : hn (hset h i k v) = hn h := rfl
theorem hg_set (h : House) (i k : Nat) (v : Int32) (i2 k2 : Nat) : hg (hset h i k v) i2 k2 = if i2 = i ∧ k2 = k then v else hg h i2 k2 := rfl
theorem hg_set_ne (h : House) {i k : Nat} (v : Int32) {i2 k2 : Nat} (e : ¬ (i2 = i ∧ k2 = k)) : hg (hset h i k v) i2 k2 = hg h i2 k2 := by rw [hg_set, if_neg e]
theorem HX_set {h : House} {X : St} (H : HX h X) (i k : Nat) (hk : k < 12) (v : Int32) : HX (hset h i k v) (pM X i k v) := by
  obtain ⟨h1, h2, h3, h4, h5⟩ := H
  refine ⟨h1, h2, h3, fun i2 hi2 k2 hk2 => ?_, fun i2 hi2 => ?_⟩
  · rw [sM_pM, hg_set]
    split
    · rfl
    · exact h4 i2 hi2 k2 hk2
  · rw [hg_set_ne h v (by omega)]
    exact h5 i2 hi2
theorem HY_set {h : House} {Y : St} (K : HY h Y) {i : Nat} (hi : i < hn h) {k : Nat} (hk : k < 8) (v : Int32) : HY (hset h i k v) (pA Y 5 (8 * i + k) v) := by
  obtain ⟨h1, h2, h3, h4, h5⟩ := K
  refine ⟨h1, h2, h3, fun i2 hi2 k2 hk2 => ?_, fun i2 hi2 => ?_⟩
  · rw [sA_pA, if_pos rfl, hg_set]
    unfold upd
    by_cases q : i2 = i ∧ k2 = k
    · rw [if_pos (by rw [q.1, q.2]), if_pos q]
    · rw [if_neg (by omega), if_neg q]
      exact h4 i2 hi2 k2 hk2
  · rw [hg_set_ne h v (by omega), sA_pA, if_neg (by omega)]
    exact h5 i2 hi2
def OkS (k : Nat) (v : Int32) : Prop := (k = 4 ∧ ∃ s, s ≤ 99 ∧ v = nI s) ∨ (k = 5 ∧ ∃ s, s ≤ 4 ∧ v = nI s) ∨ (k = 6 ∧ ∃ s, s ≤ 9 ∧ v = nI s) ∨ k = 7
theorem Ok_set {h : House} (O : Ok h) (i : Nat) {k : Nat} {v : Int32} (s : OkS k v) : Ok (hset h i k v) := by
  intro i2 hi2
  have h1 := O i2 hi2
  by_cases q : i2 = i
  · subst q
    obtain ⟨a0, a1, a2, a3, a4, a5, a6, a8, a9, a10, a11⟩ := h1
    have ne : ∀ j, j ≠ k → hg (hset h i2 k v) i2 j = hg h i2 j := fun j hj => hg_set_ne h v (fun z => hj z.2)
    have ek : hg (hset h i2 k v) i2 k = v := by rw [hg_set, if_pos ⟨rfl, rfl⟩]
    rcases s with ⟨rfl, s⟩ | ⟨rfl, s⟩ | ⟨rfl, s⟩ | rfl
    · exact ⟨by rw [ne 0 (by omega)]; exact a0, by rw [ne 1 (by omega)]; exact a1, by rw [ne 2 (by omega)]; exact a2, by rw [ne 3 (by omega)]; exact a3, by rw [ek]; exact s, by rw [ne 5 (by omega)]; exact a5, by rw [ne 6 (by omega)]; exact a6, by rw [ne 8 (by omega), ne 0 (by omega)]; exact a8, by rw [ne 9 (by omega), ne 0 (by omega), ne 1 (by omega)]; exact a9, by rw [ne 10 (by omega), ne 0 (by omega)]; exact a10, by rw [ne 11 (by omega), ne 0 (by omega), ne 2 (by omega)]; exact a11⟩
    · exact ⟨by rw [ne 0 (by omega)]; exact a0, by rw [ne 1 (by omega)]; exact a1, by rw [ne 2 (by omega)]; exact a2, by rw [ne 3 (by omega)]; exact a3, by rw [ne 4 (by omega)]; exact a4, by rw [ek]; exact s, by rw [ne 6 (by omega)]; exact a6, by rw [ne 8 (by omega), ne 0 (by omega)]; exact a8, by rw [ne 9 (by omega), ne 0 (by omega), ne 1 (by omega)]; exact a9, by rw [ne 10 (by omega), ne 0 (by omega)]; exact a10, by rw [ne 11 (by omega), ne 0 (by omega), ne 2 (by omega)]; exact a11⟩
    · exact ⟨by rw [ne 0 (by omega)]; exact a0, by rw [ne 1 (by omega)]; exact a1, by rw [ne 2 (by omega)]; exact a2, by rw [ne 3 (by omega)]; exact a3, by rw [ne 4 (by omega)]; exact a4, by rw [ne 5 (by omega)]; exact a5, by rw [ek]; exact s, by rw [ne 8 (by omega), ne 0 (by omega)]; exact a8, by rw [ne 9 (by omega), ne 0 (by omega), ne 1 (by omega)]; exact a9, by rw [ne 10 (by omega), ne 0 (by omega)]; exact a10, by rw [ne 11 (by omega), ne 0 (by omega), ne 2 (by omega)]; exact a11⟩
    · exact ⟨by rw [ne 0 (by omega)]; exact a0, by rw [ne 1 (by omega)]; exact a1, by rw [ne 2 (by omega)]; exact a2, by rw [ne 3 (by omega)]; exact a3, by rw [ne 4 (by omega)]; exact a4, by rw [ne 5 (by omega)]; exact a5, by rw [ne 6 (by omega)]; exact a6, by rw [ne 8 (by omega), ne 0 (by omega)]; exact a8, by rw [ne 9 (by omega), ne 0 (by omega), ne 1 (by omega)]; exact a9, by rw [ne 10 (by omega), ne 0 (by omega)]; exact a10, by rw [ne 11 (by omega), ne 0 (by omega), ne 2 (by omega)]; exact a11⟩
  · have e : hg (hset h i k v) i2 = hg h i2 := by
      funext k2
      exact hg_set_ne h v (fun z => q z.1)
    rw [e]; exact h1
theorem RelH.set {h : House} {t pg : List Nat} {X Y : St} (r : RelH h t pg X Y) {i : Nat} (hi : i < hn h) {k : Nat} {v : Int32} (s : OkS k v) : RelH (hset h i k v) t pg (pM X i k v) (pA Y 5 (8 * i + k) v) := by
  obtain ⟨⟨O, H, K, F⟩, T, P, Q, D1, D2, I⟩ := r
  have hk : k < 8 := by rcases s with ⟨rfl, -⟩ | ⟨rfl, -⟩ | ⟨rfl, -⟩ | rfl <;> omega
  refine ⟨⟨Ok_set O i s, HX_set H i k (by omega) v, HY_set K hi hk v, fun i2 h1 h2 => ?_⟩, T, P, Q, D1, D2, I⟩
  have h1' : hn h ≤ i2 := h1
  have ne : ∀ k2, sM (pM X i k v) i2 k2 = sM X i2 k2 := fun k2 => by rw [sM_pM, if_neg (by omega)]
  rw [ne, ne, ne]
  exact F i2 h1 h2
theorem rng {x : Int32} {lo hi : Int32} {n : Nat} (e0 : lo.toInt = 0) (e1 : hi.toInt = n) (q : lo.toInt ≤ x.toInt ∧ x.toInt ≤ hi.toInt) : ∃ s, s ≤ n ∧ x = nI s := by
  obtain ⟨k, rfl, hk, -⟩ := toInt_nI (by omega : 0 ≤ x.toInt)
  exact ⟨k, by omega, rfl⟩
theorem op_speech : Op_speech Rel := by
  intro X Y a1 a2 a3 hr
  obtain ⟨h, t, pg, hr⟩ := hr
  have H := hr.1.2.1
  have K := hr.1.2.2.1
  have h7 := H.1
  unfold jT_speech jM_speech
  rw [has_eq H, isMember_eq K]
  simp only [bS]
  by_cases q : 0 ≤ a1.toInt ∧ a1.toInt < hn h
  · obtain ⟨i, hi, rfl⟩ := mem_of q
    rw [if_neg (bI_T q), if_neg (bI_T q), between_eq, between_eq, in_int, in_int, show (0 : Int64).toInt = (0 : Int32).toInt from rfl, show (4 : Int64).toInt = (4 : Int32).toInt from rfl, show (9 : Int64).toInt = (9 : Int32).toInt from rfl]
    simp only [bS]
    by_cases q2 : (0 : Int32).toInt ≤ a2.toInt ∧ a2.toInt ≤ (4 : Int32).toInt
    · rw [if_neg (bI_T q2), if_neg (bI_T q2)]
      by_cases q3 : (0 : Int32).toInt ≤ a3.toInt ∧ a3.toInt ≤ (9 : Int32).toInt
      · obtain ⟨m1, m2⟩ := M_k K hi (k := 5) (by omega) 5 rfl
        obtain ⟨n1, n2⟩ := M_k K hi (k := 6) (by omega) 6 rfl
        rw [if_neg (bI_T q3), if_neg (bI_T q3), L_who (by omega), bS, if_pos (by omega), if_pos m1, if_pos m1, if_pos n1, m2, H.2.2.2.1 i hi 5 (by omega), e8k i 5 5 rfl, e8k i 6 6 rfl, clN (by omega), clN (by omega)]
        refine ⟨_, _, _, rfl, rfl, _, t, pg, (hr.set hi (k := 5) (Or.inr (Or.inl ⟨rfl, rng rfl rfl q2⟩))).set hi (k := 6) (Or.inr (Or.inr (Or.inl ⟨rfl, rng rfl rfl q3⟩)))⟩
      · rw [if_pos (bI_F q3), if_pos (bI_F q3)]
        exact ⟨_, _, _, rfl, rfl, h, t, pg, hr⟩
    · rw [if_pos (bI_F q2), if_pos (bI_F q2)]
      exact ⟨_, _, _, rfl, rfl, h, t, pg, hr⟩
  · rw [if_pos (bI_F q), if_pos (bI_F q)]
    exact ⟨_, _, _, rfl, rfl, h, t, pg, hr⟩
theorem op_chair : Op_chair Rel := by
  intro X Y a1 a2 hr
  obtain ⟨h, t, pg, hr⟩ := hr
  have H := hr.1.2.1
  have K := hr.1.2.2.1
  have h7 := H.1
  obtain ⟨T, tx, ty, ta⟩ := hr.2.1
  have hl := T.len
  unfold jT_chair jM_chair
  rw [has_eq H, isMember_eq K]
  simp only [bS]
  by_cases q : 0 ≤ a1.toInt ∧ a1.toInt < hn h
  · obtain ⟨i, hi, rfl⟩ := mem_of q
    rw [if_neg (bI_T q), if_neg (bI_T q), between_eq, in_int, show (0 : Int64).toInt = (0 : Int32).toInt from rfl, show (99 : Int64).toInt = (99 : Int32).toInt from rfl]
    simp only [bS]
    by_cases q2 : (0 : Int32).toInt ≤ a2.toInt ∧ a2.toInt ≤ (99 : Int32).toInt
    · rw [if_neg (bI_T q2), if_neg (bI_T q2), tx, L_height2 h7 T (by omega), M_height (memn_7 h7 T.2) (by omega) ty ta (by omega)]
      simp only [bS]
      by_cases q3 : nI (idxH t i) ≤ 0
      · obtain ⟨m1, m2⟩ := M_k K hi (k := 4) (by omega) 4 rfl
        rw [if_pos q3, if_pos q3, L_who (by omega), bS, if_pos (by omega), if_pos m1, if_pos m1, m2, H.2.2.2.1 i hi 4 (by omega), e8k i 4 4 rfl, clN (by omega)]
        exact ⟨_, _, _, rfl, rfl, _, t, pg, hr.set hi (k := 4) (Or.inl ⟨rfl, rng rfl rfl q2⟩)⟩
      · rw [if_neg q3, if_neg q3]
        exact ⟨_, _, _, rfl, rfl, h, t, pg, hr⟩
    · rw [if_pos (bI_F q2), if_pos (bI_F q2)]
      exact ⟨_, _, _, rfl, rfl, h, t, pg, hr⟩
  · rw [if_pos (bI_F q), if_pos (bI_F q)]
    exact ⟨_, _, _, rfl, rfl, h, t, pg, hr⟩
/-! a rise -/
def bit1 (S i : Nat) : Int32 := if S.testBit i = true then 1 else 0
theorem L_bruise_lp {n S : Nat} (hn7 : n ≤ 7) (hS : S < 2147483648) : ∀ (f k : Nat) (X : St), sF X 84 = nI n → k ≤ n → n < k + f → ∃ X2, jCh_bruise_7 f X (nI S) (nI k) = some X2 ∧ (∀ q, sF X2 q = sF X q) ∧ (∀ q, sG X2 q = sG X q) ∧ (∀ a, sA X2 a = sA X a) ∧ ∀ i j, sM X2 i j = if j = 7 ∧ k ≤ i ∧ i < n then sM X i 7 + bit1 S i else sM X i j
  | 0, k, X, _, _, h2 => absurd h2 (by omega)
  | f + 1, k, X, hs, hk, h2 => by
    rw [jCh_bruise_7, hs]
    by_cases q : n ≤ k
    · rw [if_pos (nI_le q (by omega))]
      refine ⟨X, rfl, fun _ => rfl, fun _ => rfl, fun _ => rfl, fun i j => ?_⟩
      rw [if_neg (by omega)]
    · rw [if_neg (nI_ge (by omega) (by omega)), L_who (by omega), bS, if_pos (by omega), bit_ush hS (by omega), nI_1]
      obtain ⟨X2, e, e1, e2, e3, e4⟩ := L_bruise_lp hn7 hS f (k + 1) (pM X k 7 (sM X k 7 + bit1 S k)) hs (by omega) (by omega)
      refine ⟨X2, e, e1, e2, e3, fun i j => ?_⟩
      rw [e4, sM_pM, sM_pM]
      by_cases z : j = 7 ∧ k ≤ i ∧ i < n
      · rw [if_pos z]
        by_cases y : i = k
        · rw [if_neg (by omega), if_pos ⟨y, z.1⟩, y]
        · rw [if_pos (by omega), if_neg (by omega)]
      · rw [if_neg z, if_neg (by omega), if_neg (by omega)]
theorem M_fall_lp {h : House} {t : List Nat} (ht : Tw (hn h) t) (h7 : hn h ≤ 7) : ∀ (f k : Nat) (Y : St), sF Y 14 = nI t.length → Arr (sA Y 6) t → k ≤ t.length → t.length < k + f → ∃ Y2, jM_rise_67 f Y (nI k) = some (0, Y2) ∧ (∀ q, sF Y2 q = if q = 16 then sF Y 16 + 1 else if q = 14 then 0 else sF Y q) ∧ (∀ a, a ≠ 5 → sA Y2 a = sA Y a) ∧ ∀ i j, i < 7 → j < 8 → sA Y2 5 (8 * i + j) = if j = 7 ∧ i ∈ t.drop k then sA Y 5 (8 * i + 7) + 1 else sA Y 5 (8 * i + j)
  | 0, k, Y, _, _, _, h2 => absurd h2 (by omega)
  | f + 1, k, Y, hs, ta, hk, h2 => by
    have hl := ht.len
    rw [jM_rise_67, hs]
    by_cases q : k = t.length
    · rw [if_pos (nI_le (by omega) (by omega))]
      refine ⟨_, rfl, fun p => ?_, fun _ _ => rfl, fun i j _ _ => ?_⟩
      · rw [sF_pF, sF_pF, sF_pF]
        rfl
      · rw [q, List.drop_length, if_neg (by simp)]
        rfl
    · have hk2 : k < t.length := by omega
      have hm := ht.2 _ (List.getElem_mem hk2)
      rw [if_neg (nI_ge (by omega) (by omega)), if_pos (ibN (by omega) (by omega)), clN (by omega), ta k hk2, e8k _ 7 7 rfl, if_pos (ibN (by omega) (by omega)), if_pos (ibN (by omega) (by omega)), clN (by omega), nI_1]
      obtain ⟨Y2, e, e1, e2, e3⟩ := M_fall_lp ht h7 f (k + 1) (pA Y 5 (8 * t[k] + 7) (sA Y 5 (8 * t[k] + 7) + 1)) hs ta (by omega) (by omega)
      refine ⟨Y2, e, e1, fun a ha => ?_, fun i j hi hj => ?_⟩
      · rw [e2 a ha, sA_pA, if_neg ha]
      · rw [e3 i j hi hj, sA_pA, if_pos rfl, List.drop_eq_getElem_cons hk2]
        have hno : ¬ t[k] ∈ t.drop (k + 1) := by
          have h1 := ht.1
          rw [← List.take_append_drop k t, List.drop_eq_getElem_cons hk2] at h1
          exact (List.nodup_cons.mp (List.nodup_append.mp h1).2.1).1
        unfold upd
        by_cases z : i = t[k]
        · subst z
          by_cases w : j = 7
          · subst w
            rw [if_neg (fun y => hno y.2), if_pos rfl, if_pos ⟨rfl, List.mem_cons_self⟩]
          · rw [if_neg (fun y => w y.1), if_neg (by omega), if_neg (fun y => w y.1)]
        · by_cases w : j = 7 ∧ i ∈ t.drop (k + 1)
          · rw [if_pos w, if_neg (by omega), if_pos ⟨w.1, List.mem_cons_of_mem _ w.2⟩]
          · rw [if_neg w, if_neg (by omega), if_neg]
            rintro ⟨y1, y2⟩
            rcases List.mem_cons.mp y2 with y | y
            · exact z y
            · exact w ⟨y1, y⟩
/-- the house behind a fall -/
def hbr (h : House) (t : List Nat) : House := (hn h, hlim h, fun i k => if k = 7 ∧ i ∈ t then hg h i 7 + 1 else hg h i k)
theorem hg_br (h : House) (t : List Nat) (i k : Nat) : hg (hbr h t) i k = if k = 7 ∧ i ∈ t then hg h i 7 + 1 else hg h i k := rfl
theorem hg_br7 (h : House) (t : List Nat) (i : Nat) {k : Nat} (hk : k ≠ 7) : hg (hbr h t) i k = hg h i k := by rw [hg_br, if_neg (fun q => hk q.1)]
theorem Ok_br {h : House} (O : Ok h) (t : List Nat) : Ok (hbr h t) := by
  intro i hi
  obtain ⟨a0, a1, a2, a3, a4, a5, a6, a8, a9, a10, a11⟩ := O i hi
  unfold OkM
  rw [hg_br7 h t i (by omega), hg_br7 h t i (k := 1) (by omega), hg_br7 h t i (k := 2) (by omega), hg_br7 h t i (k := 3) (by omega), hg_br7 h t i (k := 4) (by omega), hg_br7 h t i (k := 5) (by omega), hg_br7 h t i (k := 6) (by omega), hg_br7 h t i (k := 8) (by omega), hg_br7 h t i (k := 9) (by omega), hg_br7 h t i (k := 10) (by omega), hg_br7 h t i (k := 11) (by omega)]
  exact ⟨a0, a1, a2, a3, a4, a5, a6, a8, a9, a10, a11⟩
theorem Arr_push {f : Nat → Int32} {t : List Nat} (ha : Arr f t) (m : Nat) : Arr (upd f t.length (nI m)) (t ++ [m]) := by
  intro k hk
  unfold upd
  by_cases q : k = t.length
  · subst q
    rw [if_pos rfl, List.getElem_concat_length rfl]
  · have hk2 : k < t.length := by simp at hk; omega
    rw [if_neg q, List.getElem_append_left hk2, ha k hk2]
theorem enc_ne {t : List Nat} (h7 : all7 t) (hl : t.length ≤ 7) (hz : t ≠ []) : ¬ enc t = 0 := enr_ne (all7_rev.mpr h7) (by simpa using hl) (by simpa using hz)
theorem mayS_iff {h : House} {t : List Nat} {m : Nat} (q : mayS h t m = true) : m < hn h ∧ ¬ m ∈ t := by
  unfold mayS at q
  simp only [Bool.and_eq_true, decide_eq_true_eq, Bool.not_eq_true', decide_eq_false_iff_not] at q
  exact ⟨q.1, q.2.1⟩
theorem L_risen2 {h : House} {X : St} (H : HX h X) {t : List Nat} {m : Nat} (T : Tw (hn h) (t ++ [m])) : jCh_risen X (enc t) (nI m) = some (if stands h (t ++ [m]) = true then enc (t ++ [m]) else 0) := by
  have hl := T.len
  have h7 := H.1
  simp only [List.length_append, List.length_singleton] at hl
  have e : (t ++ [m]).reverse = m :: t.reverse := by simp
  have := L_risen H (r := t.reverse) (m := m) (by rw [← e]; exact memn_rev.mpr T.2) (by simp; omega)
  unfold enc
  rw [this, e]
  simp
theorem op_rise : Op_rise Rel := by
  intro X Y a1 hr
  obtain ⟨h, t, pg, hr⟩ := hr
  have hr0 := hr
  obtain ⟨⟨O, H, K, F⟩, ⟨T, tx, ty, ta⟩, P, ⟨p1, p2⟩, D1, D2, I⟩ := hr
  have h7 := H.1
  have hl := T.len
  unfold jT_rise jM_rise
  rw [has_eq H, isMember_eq K]
  simp only [bS]
  by_cases q : 0 ≤ a1.toInt ∧ a1.toInt < hn h
  · obtain ⟨m, hi, rfl⟩ := mem_of q
    rw [if_neg (bI_T q), if_neg (bI_T q), tx, L_canRise2 H T (by omega), ty, M_mayRise2 K T.2 (by omega) ta hi]
    simp only [bS]
    by_cases qm : mayS h t m = true
    · obtain ⟨-, hno⟩ := mayS_iff qm
      have T2 := T.push hi hno
      have hl2 := T2.len
      have hl3 : (t ++ [m]).length = t.length + 1 := by simp
      have ne := enc_ne (memn_7 h7 T2.2) (by omega) (by simp : t ++ [m] ≠ [])
      have A2 : Arr (sA (pF (pA Y 6 t.length (nI m)) 14 (nI (t.length + 1))) 6) (t ++ [m]) := Arr_push ta m
      have K2 : HY h (pF (pA Y 6 t.length (nI m)) 14 (nI (t.length + 1))) := K
      have eh := M_holds O K2 T2.2 (by omega) A2
      rw [hl3] at eh
      rw [if_neg (bI_ne qm), if_neg (bI_ne qm), L_risen2 H T2, bS, if_pos (ibN (by omega) (by omega)), clN (by omega), show sF (pA Y 6 t.length (nI m)) 14 = nI t.length from ty, nI_1, show sF (pF (pA Y 6 t.length (nI m)) 14 (nI (t.length + 1))) 14 = nI (t.length + 1) from rfl, eh, bS]
      by_cases qs : stands h (t ++ [m]) = true
      · rw [if_pos qs, if_neg ne, if_neg (bI_ne qs)]
        unfold jT_rise_74 jM_rise_117
        rw [show sF (pF X 6 (enc (t ++ [m]))) 6 = enc (t ++ [m]) from rfl, L_size2 h7 T2, bS]
        refine ⟨nI (t ++ [m]).length, pF X 6 (enc (t ++ [m])), pF (pA Y 6 t.length (nI m)) 14 (nI (t.length + 1)), rfl, ?_, h, t ++ [m], pg, ⟨O, H, K2, F⟩, ⟨T2, rfl, by rw [hl3]; rfl, A2⟩, P, ⟨p1, p2⟩, D1, D2, I⟩
        rw [hl3]; rfl
      · rw [if_neg qs, if_pos rfl, if_pos (bI_eq (Bool.eq_false_iff.mpr qs))]
        have ew : jRo_with (sF (pF X 7 (sF X 7 + 1)) 6) (nI m) = some (enc (t ++ [m])) := by
          rw [show sF (pF X 7 (sF X 7 + 1)) 6 = enc t from tx]
          have e : (t ++ [m]).reverse = m :: t.reverse := by simp
          unfold enc
          rw [L_with (by rw [← e]; exact all7_rev.mpr (memn_7 h7 T2.2)) (by simp; omega), e]
        have em : jRo_members (enc (t ++ [m])) = some (nI (sN (t ++ [m]))) := by
          have := L_members (all7_rev.mpr (memn_7 h7 T2.2)) (by simp; omega)
          rw [List.reverse_reverse] at this
          exact this
        obtain ⟨X2, b0, b1, b2, b3, b4⟩ := L_bruise_lp h7 (S := sN (t ++ [m])) (Nat.lt_trans (sN_lt (memn_7 h7 T2.2)) (by decide)) 10 0 (pF X 7 (sF X 7 + 1)) H.2.1 (by omega) (by omega)
        obtain ⟨Y2, c0, c1, c2, c3⟩ := M_fall_lp T2 h7 10 0 (pF (pA Y 6 t.length (nI m)) 14 (nI (t.length + 1))) (by rw [hl3]; rfl) A2 (by omega) (by omega)
        have eb : jCh_bruise (pF X 7 (sF X 7 + 1)) (enc (t ++ [m])) = some X2 := by unfold jCh_bruise; rw [em, bS]; exact b0
        rw [ew, bS, eb, bS]
        unfold jT_rise_74
        rw [show jRo_size (sF (pF X2 6 0) 6) = some (nI 0) from L_size2 h7 (t := []) ⟨List.nodup_nil, fun _ h => by simp at h⟩, bS]
        rw [List.drop_zero] at c3
        refine ⟨_, _, _, rfl, c0, hbr h (t ++ [m]), [], pg, ⟨Ok_br O _, ⟨h7, ?_, ?_, ?_, ?_⟩, ⟨h7, ?_, ?_, ?_, ?_⟩, ?_⟩, ⟨⟨List.nodup_nil, fun _ h => by simp at h⟩, rfl, ?_, fun k hk => absurd hk (by simp)⟩, ⟨P.1, ?_, ?_, ?_, ?_, P.2.2.2.2.2⟩, ⟨?_, ?_⟩, ?_, ?_, ?_⟩
        · exact (b1 84).trans H.2.1
        · exact (b1 87).trans H.2.2.1
        · intro i hi2 k hk
          have hi3 : i < hn h := hi2
          rw [show sM (pF X2 6 0) i k = sM X2 i k from rfl, b4, hg_br, show sM (pF X 7 (sF X 7 + 1)) i k = sM X i k from rfl, show sM (pF X 7 (sF X 7 + 1)) i 7 = sM X i 7 from rfl, H.2.2.2.1 i hi3 k hk, H.2.2.2.1 i hi3 7 (by omega), bit1, sN_bit]
          by_cases z : k = 7
          · subst z
            by_cases y : i ∈ t ++ [m]
            · rw [if_pos ⟨rfl, by omega, hi3⟩, decide_eq_true y, if_pos rfl, if_pos ⟨rfl, y⟩]
            · rw [if_pos ⟨rfl, by omega, hi3⟩, decide_eq_false y, if_neg (by decide), if_neg (fun w => y w.2), Int32.add_zero]
          · rw [if_neg (fun w => z w.1), if_neg (fun w => z w.1)]
        · intro i hi2
          rw [hg_br7 h _ i (by omega), show sG (pF X2 6 0) 85 = sG X2 85 from rfl, b2]
          exact H.2.2.2.2 i hi2
        · rw [c1, if_neg (by omega), if_neg (by omega)]; exact K.2.1
        · rw [c1, if_neg (by omega), if_neg (by omega)]; exact K.2.2.1
        · intro i hi2 k hk
          have hi3 : i < hn h := hi2
          rw [c3 i k (by omega) hk, hg_br]
          have e1 : ∀ j, j < 8 → sA (pF (pA Y 6 t.length (nI m)) 14 (nI (t.length + 1))) 5 (8 * i + j) = hg h i j := fun j hj => K.2.2.2.1 i hi3 j hj
          rw [e1 7 (by omega), e1 k hk]
        · intro i hi2
          rw [c2 2 (by omega), hg_br7 h _ i (by omega)]
          exact K.2.2.2.2 i hi2
        · intro i h1 h2
          have ne2 : ∀ k, sM (pF X2 6 0) i k = sM X i k := by
            intro k
            have h1' : hn h ≤ i := h1
            rw [show sM (pF X2 6 0) i k = sM X2 i k from rfl, b4, if_neg (by omega)]
            rfl
          rw [ne2, ne2, ne2]
          exact F i h1 h2
        · rw [c1, if_neg (by omega), if_pos rfl]; rfl
        · exact (b1 17).trans P.2.1
        · rw [c1, if_neg (by omega), if_neg (by omega)]; exact P.2.2.1
        · rw [show sA (pF X2 6 0) 2 = sA X2 2 from rfl, b3]; exact P.2.2.2.1
        · rw [c2 1 (by omega)]; exact P.2.2.2.2.1
        · rw [show sF (pF X2 6 0) 86 = sF X2 86 from rfl, b1, c1, if_neg (by omega), if_neg (by omega)]; exact p1
        · rw [show sF (pF X2 6 0) 7 = sF X2 7 from rfl, b1, c1, if_pos rfl]
          show sF X 7 + 1 = sF Y 16 + 1
          rw [p2]
        · obtain ⟨d, d1, d2, d3⟩ := D1
          exact ⟨d, d1, (b1 8).trans d2, by rw [c1, if_neg (by omega), if_neg (by omega)]; exact d3⟩
        · obtain ⟨d, d1, d2, d3⟩ := D2
          exact ⟨d, d1, (b1 9).trans d2, by rw [c1, if_neg (by omega), if_neg (by omega)]; exact d3⟩
        · unfold ImR
          rw [show sF (pF X2 6 0) 147 = sF X2 147 from rfl, show sF (pF X2 6 0) 146 = sF X2 146 from rfl, show sA (pF X2 6 0) 10 = sA X2 10 from rfl, show sA (pF X2 6 0) 11 = sA X2 11 from rfl, b1, b1, b3, b3, c1, c1, if_neg (by omega), if_neg (by omega), if_neg (by omega), if_neg (by omega), c2 16 (by omega), c2 17 (by omega), c2 18 (by omega)]
          exact I
    · rw [if_pos (bI_eq (Bool.eq_false_iff.mpr qm)), if_pos (bI_eq (Bool.eq_false_iff.mpr qm))]
      exact ⟨_, _, _, rfl, rfl, h, t, pg, hr0⟩
  · rw [if_pos (bI_F q), if_pos (bI_F q)]
    exact ⟨_, _, _, rfl, rfl, h, t, pg, hr0⟩
