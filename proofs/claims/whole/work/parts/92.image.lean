/-! images -/
theorem L_keep_lp {n : Nat} (hn7 : n ≤ 7) : ∀ (f k : Nat) (X : St), sF X 147 = nI n → k ≤ n → n < k + f → ∃ X2, jIm_keep_15 f X (nI k) = some X2 ∧ (∀ q, sF X2 q = sF X q) ∧ (∀ q, sG X2 q = sG X q) ∧ (∀ i j, sM X2 i j = sM X i j) ∧ (∀ a, a ≠ 10 → a ≠ 11 → sA X2 a = sA X a) ∧ (∀ i, sA X2 10 i = if k ≤ i ∧ i < n then sM X i 4 else sA X 10 i) ∧ ∀ i, sA X2 11 i = if k ≤ i ∧ i < n then sM X i 7 else sA X 11 i
  | 0, k, X, _, _, h2 => absurd h2 (by omega)
  | f + 1, k, X, hs, hk, h2 => by
    rw [jIm_keep_15, hs]
    by_cases q : n ≤ k
    · rw [if_pos (nI_le q (by omega))]
      refine ⟨X, rfl, fun _ => rfl, fun _ => rfl, fun _ _ => rfl, fun _ _ _ => rfl, fun i => ?_, fun i => ?_⟩
      · rw [if_neg (by omega)]
      · rw [if_neg (by omega)]
    · rw [if_neg (nI_ge (by omega) (by omega)), if_neg (show ¬ (7 : Int32) ≤ nI k from nI_ge (b := 7) (by omega) (by omega)), L_who (by omega), bS, if_pos (by omega), if_pos (ibN (by omega) (by omega)), L_who (by omega), bS, if_pos (by omega), if_pos (ibN (by omega) (by omega)), clN (by omega), nI_1]
      obtain ⟨X2, e, e1, e2, e3, e4, e5, e6⟩ := L_keep_lp hn7 f (k + 1) (pA (pA X 10 k (sM X k 4)) 11 k (sM X k 7)) hs (by omega) (by omega)
      refine ⟨X2, e, e1, e2, e3, fun a h1 h2 => ?_, fun i => ?_, fun i => ?_⟩
      · rw [e4 a h1 h2, sA_pA, if_neg h2, sA_pA, if_neg h1]
      · rw [e5]
        show (if k + 1 ≤ i ∧ i < n then sM X i 4 else upd (sA X 10) k (sM X k 4) i) = _
        unfold upd
        by_cases z : k + 1 ≤ i ∧ i < n
        · rw [if_pos z, if_pos (by omega)]
        · rw [if_neg z]
          by_cases y : i = k
          · rw [if_pos y, if_pos (by omega), y]
          · rw [if_neg y, if_neg (by omega)]
      · rw [e6, sA_pA, if_pos rfl]
        unfold upd
        by_cases z : k + 1 ≤ i ∧ i < n
        · rw [if_pos z, if_pos (by omega)]; rfl
        · rw [if_neg z]
          by_cases y : i = k
          · rw [if_pos y, if_pos (by omega), y]
          · rw [if_neg y, if_neg (by omega)]; rfl
theorem M_img_lp : ∀ (f k : Nat) (Y : St), k ≤ 7 → 7 < k + f → ∃ Y2, jM_image_2 f Y (nI k) = some (sF Y 14, Y2) ∧ (∀ q, sF Y2 q = if q = 32 then sF Y 12 else if q = 31 then sF Y 14 else sF Y q) ∧ (∀ a, a ≠ 16 → a ≠ 17 → a ≠ 18 → sA Y2 a = sA Y a) ∧ (∀ i, i < 7 → sA Y2 16 i = if k ≤ i then sA Y 6 i else sA Y 16 i) ∧ (∀ i, i < 7 → sA Y2 17 i = if k ≤ i then sA Y 5 (8 * i + 7) else sA Y 17 i) ∧ ∀ i, i < 7 → sA Y2 18 i = if k ≤ i then sA Y 5 (8 * i + 4) else sA Y 18 i
  | 0, k, Y, _, h2 => absurd h2 (by omega)
  | f + 1, k, Y, hk, h2 => by
    rw [jM_image_2]
    by_cases q : 7 ≤ k
    · rw [if_pos (show (7 : Int32) ≤ nI k from nI_le q (by omega))]
      refine ⟨_, rfl, fun p => ?_, fun _ _ _ _ => rfl, fun i hi => ?_, fun i hi => ?_, fun i hi => ?_⟩
      · rw [sF_pF, sF_pF, sF_pF]; rfl
      · rw [if_neg (by omega)]; rfl
      · rw [if_neg (by omega)]; rfl
      · rw [if_neg (by omega)]; rfl
    · rw [if_neg (show ¬ (7 : Int32) ≤ nI k from nI_ge (b := 7) (by omega) (by omega)), e8k k 7 7 rfl, e8k k 4 4 rfl]
      rw [if_pos (ibN (by omega) (by omega)), if_pos (ibN (by omega) (by omega)), if_pos (ibN (by omega) (by omega)), if_pos (ibN (by omega) (by omega)), if_pos (ibN (by omega) (by omega)), if_pos (ibN (by omega) (by omega)), clN (by omega), clN (by omega), clN (by omega), nI_1]
      obtain ⟨Y2, e, e1, e2, e3, e4, e5⟩ := M_img_lp f (k + 1) (pA (pA (pA Y 16 k (sA Y 6 k)) 17 k (sA Y 5 (8 * k + 7))) 18 k (sA Y 5 (8 * k + 4))) (by omega) (by omega)
      refine ⟨Y2, e, e1, fun a h1 h2 h3 => ?_, fun i hi => ?_, fun i hi => ?_, fun i hi => ?_⟩
      · rw [e2 a h1 h2 h3, sA_pA, if_neg h3, sA_pA, if_neg h2, sA_pA, if_neg h1]
      · rw [e3 i hi]
        show (if k + 1 ≤ i then sA Y 6 i else upd (sA Y 16) k (sA Y 6 k) i) = _
        unfold upd
        by_cases z : k + 1 ≤ i
        · rw [if_pos z, if_pos (by omega)]
        · rw [if_neg z]
          by_cases y : i = k
          · rw [if_pos y, if_pos (by omega), y]
          · rw [if_neg y, if_neg (by omega)]
      · rw [e4 i hi]
        show (if k + 1 ≤ i then sA Y 5 (8 * i + 7) else upd (sA Y 17) k (sA Y 5 (8 * k + 7)) i) = _
        unfold upd
        by_cases z : k + 1 ≤ i
        · rw [if_pos z, if_pos (by omega)]
        · rw [if_neg z]
          by_cases y : i = k
          · rw [if_pos y, if_pos (by omega), y]
          · rw [if_neg y, if_neg (by omega)]
      · rw [e5 i hi]
        show (if k + 1 ≤ i then sA Y 5 (8 * i + 4) else upd (sA Y 18) k (sA Y 5 (8 * k + 4)) i) = _
        unfold upd
        by_cases z : k + 1 ≤ i
        · rw [if_pos z, if_pos (by omega)]
        · rw [if_neg z]
          by_cases y : i = k
          · rw [if_pos y, if_pos (by omega), y]
          · rw [if_neg y, if_neg (by omega)]
theorem op_image : Op_image Rel := by
  intro X Y hr
  obtain ⟨h, t, pg, ⟨O, H, K, F⟩, ⟨T, tx, ty, ta⟩, P, Q, D1, D2, I⟩ := hr
  have h7 := H.1
  have hl := T.len
  obtain ⟨X2, e, e1, e2, e3, e4, e5, e6⟩ := L_keep_lp h7 10 0 (pF (pF X 146 (sF X 6)) 147 (nI (hn h))) rfl (by omega) (by omega)
  obtain ⟨Y2, c, c1, c2, c3, c4, c5⟩ := M_img_lp 10 0 Y (by omega) (by omega)
  have ek : jIm_keep X (sF X 6) = some X2 := by
    unfold jIm_keep
    rw [show jCh_size (pF X 146 (sF X 6)) = some (sF X 84) from rfl, bS, H.2.1]
    exact e
  unfold jT_image jM_image
  rw [ek, bS, e1, show sF (pF (pF X 146 (sF X 6)) 147 (nI (hn h))) 6 = enc t from tx, L_size2 h7 T, bS]
  refine ⟨_, _, _, rfl, by rw [← ty]; exact c, h, t, pg, ⟨O, ⟨h7, ?_, ?_, ?_, ?_⟩, ⟨h7, ?_, ?_, ?_, ?_⟩, ?_⟩, ⟨T, ?_, ?_, ?_⟩, ⟨P.1, ?_, ?_, ?_, ?_, P.2.2.2.2.2⟩, ⟨?_, ?_⟩, ?_, ?_, Or.inr ⟨hn h, t, by omega, ?_, ?_, T, ?_, ?_, ?_, ?_⟩⟩
  · rw [e1]; exact H.2.1
  · rw [e1]; exact H.2.2.1
  · intro i hi k hk; rw [e3]; exact H.2.2.2.1 i hi k hk
  · intro i hi; rw [e2]; exact H.2.2.2.2 i hi
  · rw [c1]; exact K.2.1
  · rw [c1]; exact K.2.2.1
  · intro i hi k hk; rw [c2 5 (by decide) (by decide) (by decide)]; exact K.2.2.2.1 i hi k hk
  · intro i hi; rw [c2 2 (by decide) (by decide) (by decide)]; exact K.2.2.2.2 i hi
  · intro i h1 h2; rw [e3, e3, e3]; exact F i h1 h2
  · rw [e1]; exact tx
  · rw [c1]; exact ty
  · rw [c2 6 (by decide) (by decide) (by decide)]; exact ta
  · rw [e1]; exact P.2.1
  · rw [c1]; exact P.2.2.1
  · rw [e4 2 (by decide) (by decide)]; exact P.2.2.2.1
  · rw [c2 1 (by decide) (by decide) (by decide)]; exact P.2.2.2.2.1
  · rw [e1, c1]; exact Q.1
  · rw [e1, c1]; exact Q.2
  · obtain ⟨d, x1, x2, x3⟩ := D1
    exact ⟨d, x1, by rw [e1]; exact x2, by rw [c1]; exact x3⟩
  · obtain ⟨d, x1, x2, x3⟩ := D2
    exact ⟨d, x1, by rw [e1]; exact x2, by rw [c1]; exact x3⟩
  · rw [e1]; rfl
  · rw [c1]; exact K.2.1
  · rw [e1]; exact tx
  · rw [c1]; exact ty
  · intro k hk
    rw [c3 k (by omega), if_pos (by omega)]; exact ta k hk
  · intro i hi
    obtain ⟨s, s1, s2⟩ := (O i hi).2.2.2.2.1
    have a4 : sA X2 10 i = hg h i 4 := by rw [e5, if_pos ⟨by omega, hi⟩]; exact H.2.2.2.1 i hi 4 (by omega)
    have a7 : sA X2 11 i = hg h i 7 := by rw [e6, if_pos ⟨by omega, hi⟩]; exact H.2.2.2.1 i hi 7 (by omega)
    rw [a4, a7, c4 i (by omega), c5 i (by omega), if_pos (by omega), if_pos (by omega), K.2.2.2.1 i hi 4 (by omega), K.2.2.2.1 i hi 7 (by omega)]
    exact ⟨rfl, rfl, s, s1, s2⟩
theorem L_give_lp {n : Nat} (hn7 : n ≤ 7) : ∀ (f k : Nat) (X : St), sF X 147 = nI n → k ≤ n → n < k + f → ∃ X2, jIm_giveBack_2 f X (nI k) = some (sF X 146, X2) ∧ (∀ q, sF X2 q = sF X q) ∧ (∀ q, sG X2 q = sG X q) ∧ (∀ a, sA X2 a = sA X a) ∧ ∀ i j, sM X2 i j = if j = 4 ∧ k ≤ i ∧ i < n then sA X 10 i else if j = 7 ∧ k ≤ i ∧ i < n then sA X 11 i else sM X i j
  | 0, k, X, _, _, h2 => absurd h2 (by omega)
  | f + 1, k, X, hs, hk, h2 => by
    rw [jIm_giveBack_2, hs]
    unfold jIm_giveBack_50
    by_cases q : n ≤ k
    · rw [if_pos (nI_le q (by omega))]
      refine ⟨X, rfl, fun _ => rfl, fun _ => rfl, fun _ => rfl, fun i j => ?_⟩
      rw [if_neg (by omega), if_neg (by omega)]
    · rw [if_neg (nI_ge (by omega) (by omega)), if_neg (show ¬ (7 : Int32) ≤ nI k from nI_ge (b := 7) (by omega) (by omega)), L_who (by omega), bS, if_pos (by omega), if_pos (ibN (by omega) (by omega)), L_who (by omega), bS, if_pos (by omega), if_pos (ibN (by omega) (by omega)), clN (by omega), nI_1]
      obtain ⟨X2, e, e1, e2, e3, e4⟩ := L_give_lp hn7 f (k + 1) (pM (pM X k 4 (sA X 10 k)) k 7 (sA X 11 k)) hs (by omega) (by omega)
      refine ⟨X2, e, e1, e2, e3, fun i j => ?_⟩
      rw [e4, sM_pM, sM_pM]
      show (if j = 4 ∧ k + 1 ≤ i ∧ i < n then sA X 10 i else if j = 7 ∧ k + 1 ≤ i ∧ i < n then sA X 11 i else if i = k ∧ j = 7 then sA X 11 k else if i = k ∧ j = 4 then sA X 10 k else sM X i j) = _
      by_cases z : i = k
      · subst z
        by_cases y4 : j = 4
        · rw [if_neg (by omega), if_neg (by omega), if_neg (by omega), if_pos ⟨rfl, y4⟩, if_pos (by omega)]
        · by_cases y7 : j = 7
          · rw [if_neg (by omega), if_neg (by omega), if_pos ⟨rfl, y7⟩, if_neg (by omega), if_pos (by omega)]
          · rw [if_neg (by omega), if_neg (by omega), if_neg (by omega), if_neg (by omega), if_neg (by omega), if_neg (by omega)]
      · by_cases y : k + 1 ≤ i ∧ i < n
        · by_cases y4 : j = 4
          · rw [if_pos ⟨y4, y⟩, if_pos (by omega)]
          · by_cases y7 : j = 7
            · rw [if_neg (by omega), if_pos ⟨y7, y⟩, if_neg (by omega), if_pos (by omega)]
            · rw [if_neg (by omega), if_neg (by omega), if_neg (by omega), if_neg (by omega), if_neg (by omega), if_neg (by omega)]
        · rw [if_neg (by omega), if_neg (by omega), if_neg (by omega), if_neg (by omega), if_neg (by omega), if_neg (by omega)]
theorem M_rest_lp : ∀ (f k : Nat) (Y : St), k ≤ 7 → 7 < k + f → ∃ Y2, jM_restore_24 f Y (nI k) = some (sF Y 31, Y2) ∧ (∀ q, sF Y2 q = if q = 14 then sF Y 31 else sF Y q) ∧ (∀ a, a ≠ 5 → a ≠ 6 → sA Y2 a = sA Y a) ∧ (∀ i, i < 7 → sA Y2 6 i = if k ≤ i then sA Y 16 i else sA Y 6 i) ∧ ∀ i j, i < 7 → j < 8 → sA Y2 5 (8 * i + j) = if j = 4 ∧ k ≤ i then sA Y 18 i else if j = 7 ∧ k ≤ i then sA Y 17 i else sA Y 5 (8 * i + j)
  | 0, k, Y, _, h2 => absurd h2 (by omega)
  | f + 1, k, Y, hk, h2 => by
    rw [jM_restore_24]
    by_cases q : 7 ≤ k
    · rw [if_pos (show (7 : Int32) ≤ nI k from nI_le q (by omega))]
      refine ⟨_, rfl, fun p => ?_, fun _ _ _ => rfl, fun i hi => ?_, fun i j hi hj => ?_⟩
      · rw [sF_pF]
      · rw [if_neg (by omega)]; rfl
      · rw [if_neg (by omega), if_neg (by omega)]; rfl
    · rw [if_neg (show ¬ (7 : Int32) ≤ nI k from nI_ge (b := 7) (by omega) (by omega)), e8k k 7 7 rfl, e8k k 4 4 rfl]
      rw [if_pos (ibN (by omega) (by omega)), if_pos (ibN (by omega) (by omega)), if_pos (ibN (by omega) (by omega)), if_pos (ibN (by omega) (by omega)), if_pos (ibN (by omega) (by omega)), if_pos (ibN (by omega) (by omega)), clN (by omega), clN (by omega), clN (by omega), nI_1]
      obtain ⟨Y2, e, e1, e2, e3, e4⟩ := M_rest_lp f (k + 1) (pA (pA (pA Y 6 k (sA Y 16 k)) 5 (8 * k + 7) (sA Y 17 k)) 5 (8 * k + 4) (sA Y 18 k)) (by omega) (by omega)
      refine ⟨Y2, e, e1, fun a h1 h2 => ?_, fun i hi => ?_, fun i j hi hj => ?_⟩
      · rw [e2 a h1 h2, sA_pA, if_neg h1, sA_pA, if_neg h1, sA_pA, if_neg h2]
      · rw [e3 i hi]
        show (if k + 1 ≤ i then sA Y 16 i else upd (sA Y 6) k (sA Y 16 k) i) = _
        unfold upd
        by_cases z : k + 1 ≤ i
        · rw [if_pos z, if_pos (by omega)]
        · rw [if_neg z]
          by_cases y : i = k
          · rw [if_pos y, if_pos (by omega), y]
          · rw [if_neg y, if_neg (by omega)]
      · rw [e4 i j hi hj]
        show (if j = 4 ∧ k + 1 ≤ i then sA Y 18 i else if j = 7 ∧ k + 1 ≤ i then sA Y 17 i else (if 8 * i + j = 8 * k + 4 then sA Y 18 k else if 8 * i + j = 8 * k + 7 then sA Y 17 k else sA Y 5 (8 * i + j))) = _
        by_cases z : i = k
        · subst z
          by_cases y4 : j = 4
          · rw [if_neg (by omega), if_neg (by omega), if_pos (by omega), if_pos (by omega)]
          · by_cases y7 : j = 7
            · rw [if_neg (by omega), if_neg (by omega), if_neg (by omega), if_pos (by omega), if_neg (by omega), if_pos (by omega)]
            · rw [if_neg (by omega), if_neg (by omega), if_neg (by omega), if_neg (by omega), if_neg (by omega), if_neg (by omega)]
        · by_cases y : k + 1 ≤ i
          · by_cases y4 : j = 4
            · rw [if_pos ⟨y4, y⟩, if_pos (by omega)]
            · by_cases y7 : j = 7
              · rw [if_neg (by omega), if_pos ⟨y7, y⟩, if_neg (by omega), if_pos (by omega)]
              · rw [if_neg (by omega), if_neg (by omega), if_neg (by omega), if_neg (by omega), if_neg (by omega), if_neg (by omega)]
          · rw [if_neg (by omega), if_neg (by omega), if_neg (by omega), if_neg (by omega), if_neg (by omega), if_neg (by omega)]
theorem op_restore : Op_restore Rel := by
  intro X Y hr
  obtain ⟨h, t, pg, hr⟩ := hr
  have hr0 := hr
  obtain ⟨⟨O, H, K, F⟩, ⟨T, tx, ty, ta⟩, P, Q, D1, D2, I⟩ := hr
  have h7 := H.1
  have ef : jIm_fits X = some (if sF X 147 = nI (hn h) then 1 else 0) := by
    unfold jIm_fits
    rw [show jCh_size X = some (sF X 84) from rfl, bS, H.2.1]
    split <;> rfl
  unfold jT_restore jM_restore
  rw [ef, bS, K.2.1]
  rcases I with ⟨i1, i2⟩ | ⟨nk, tk, i0, i1, i2, i3, i4, i5, i6, i7⟩
  · have ne : ¬ (-1 : Int32) = nI (hn h) := by
      intro z
      have z1 : (-1 : Int32).toInt = (nI (hn h)).toInt := by rw [z]
      rw [nI_toInt (by omega)] at z1
      have : (-1 : Int32).toInt = -1 := rfl
      omega
    rw [i1, i2, if_neg ne, if_pos rfl, if_pos rfl]
    exact ⟨_, _, _, rfl, rfl, h, t, pg, hr0⟩
  · have hlk := i3.len
    have ne : ¬ nI tk.length = (-1 : Int32) := by
      intro z
      have z1 : (-1 : Int32).toInt = (nI tk.length).toInt := by rw [z]
      rw [nI_toInt (by omega)] at z1
      have : (-1 : Int32).toInt = -1 := rfl
      omega
    rw [i1, i2, i5, if_neg ne]
    by_cases q : nk = hn h
    · subst q
      obtain ⟨X2, e, e1, e2, e3, e4⟩ := L_give_lp h7 10 0 X i1 (by omega) (by omega)
      obtain ⟨Y2, c, c1, c2, c3, c4⟩ := M_rest_lp 10 0 Y (by omega) (by omega)
      rw [if_pos rfl, if_neg (by decide), if_pos rfl, show jIm_giveBack X = some (sF X 146, X2) from e, bS]
      show ∃ r X2_1 Y2, ((jRo_size (sF X 146)).bind fun q36 => some (q36, pF X2 6 (sF X 146))) = _ ∧ _
      rw [i4, L_size2 h7 i3, bS]
      have hM : ∀ i j, i < hn h → j ≠ 4 → j ≠ 7 → sM X2 i j = sM X i j := fun i j _ h4 h7 => by rw [e4, if_neg (by omega), if_neg (by omega)]
      refine ⟨_, _, _, rfl, by rw [← i5]; exact c, (hn h, hlim h, fun i k => if i < hn h ∧ k < 12 then sM X2 i k else hg h i k), tk, pg, ⟨?_, ⟨h7, ?_, ?_, ?_, ?_⟩, ⟨h7, ?_, ?_, ?_, ?_⟩, ?_⟩, ⟨i3, rfl, ?_, ?_⟩, ⟨P.1, ?_, ?_, ?_, ?_, P.2.2.2.2.2⟩, ⟨?_, ?_⟩, ?_, ?_, ?_⟩
      · intro i hi
        have hi' : i < hn h := hi
        obtain ⟨a0, a1, a2, a3, a4, a5, a6, a8, a9, a10, a11⟩ := O i hi'
        have g : ∀ k, k < 12 → k ≠ 4 → k ≠ 7 → hg (hn h, hlim h, fun i k => if i < hn h ∧ k < 12 then sM X2 i k else hg h i k) i k = hg h i k := fun k hk h4 h7 => by
          show (if i < hn h ∧ k < 12 then sM X2 i k else _) = _
          rw [if_pos ⟨hi', hk⟩, hM i k hi' h4 h7]; exact H.2.2.2.1 i hi' k hk
        have g4 : hg (hn h, hlim h, fun i k => if i < hn h ∧ k < 12 then sM X2 i k else hg h i k) i 4 = sA X 10 i := by
          show (if i < hn h ∧ 4 < 12 then sM X2 i 4 else _) = _
          rw [if_pos ⟨hi', by omega⟩, e4, if_pos ⟨rfl, by omega, hi'⟩]
        unfold OkM
        rw [g 0 (by omega) (by omega) (by omega), g 1 (by omega) (by omega) (by omega), g 2 (by omega) (by omega) (by omega), g 3 (by omega) (by omega) (by omega), g4, g 5 (by omega) (by omega) (by omega), g 6 (by omega) (by omega) (by omega), g 8 (by omega) (by omega) (by omega), g 9 (by omega) (by omega) (by omega), g 10 (by omega) (by omega) (by omega), g 11 (by omega) (by omega) (by omega)]
        exact ⟨a0, a1, a2, a3, (i7 i hi').2.2, a5, a6, a8, a9, a10, a11⟩
      · show sF X2 84 = _
        rw [e1]; exact H.2.1
      · show sF X2 87 = _
        rw [e1]; exact H.2.2.1
      · intro i hi k hk
        show sM X2 i k = if i < hn h ∧ k < 12 then sM X2 i k else _
        rw [if_pos ⟨hi, hk⟩]
      · intro i hi
        show (lush (sG X2 85) (7 * nI i)).toInt32 &&& 127 = if i < hn h ∧ 12 < 12 then sM X2 i 12 else hg h i 12
        rw [if_neg (by omega), e2]; exact H.2.2.2.2 i hi
      · rw [c1]; exact K.2.1
      · rw [c1]; exact K.2.2.1
      · intro i hi k hk
        have hi' : i < hn h := hi
        show _ = if i < hn h ∧ k < 12 then sM X2 i k else _
        rw [if_pos ⟨hi', by omega⟩, c4 i k (by omega) hk, e4, K.2.2.2.1 i hi' k hk, H.2.2.2.1 i hi' k (by omega)]
        obtain ⟨x1, x2, -⟩ := i7 i hi'
        by_cases y4 : k = 4
        · rw [if_pos ⟨y4, by omega⟩, if_pos ⟨y4, by omega, hi'⟩]; exact x1.symm
        · by_cases y7 : k = 7
          · rw [if_neg (by omega), if_pos ⟨y7, by omega⟩, if_neg (by omega), if_pos ⟨y7, by omega, hi'⟩]; exact x2.symm
          · rw [if_neg (by omega), if_neg (by omega), if_neg (by omega), if_neg (by omega)]
      · intro i hi
        show _ = if i < hn h ∧ 12 < 12 then sM X2 i 12 else hg h i 12
        rw [if_neg (by omega), c2 2 (by decide) (by decide)]; exact K.2.2.2.2 i hi
      · intro i h1 h2
        have h1' : hn h ≤ i := h1
        show sM X2 i 5 = 0 ∧ sM X2 i 6 = 0 ∧ sM X2 i 7 = 0
        rw [e4, e4, e4, if_neg (by omega), if_neg (by omega), if_neg (by omega), if_neg (by omega), if_neg (by omega), if_neg (by omega)]
        exact F i h1' h2
      · rw [c1, if_pos rfl]; exact i5
      · intro k hk
        rw [c3 k (by omega), if_pos (by omega)]; exact i6 k hk
      · show sF X2 17 = _
        rw [e1]; exact P.2.1
      · rw [c1]; exact P.2.2.1
      · show Arr (sA X2 2) pg
        rw [e3]; exact P.2.2.2.1
      · rw [c2 1 (by decide) (by decide)]; exact P.2.2.2.2.1
      · show sF X2 86 = _
        rw [e1, c1]; exact Q.1
      · show sF X2 7 = _
        rw [e1, c1]; exact Q.2
      · obtain ⟨d, x1, x2, x3⟩ := D1
        exact ⟨d, x1, by show sF X2 8 = _; rw [e1]; exact x2, by rw [c1]; exact x3⟩
      · obtain ⟨d, x1, x2, x3⟩ := D2
        exact ⟨d, x1, by show sF X2 9 = _; rw [e1]; exact x2, by rw [c1]; exact x3⟩
      · refine Or.inr ⟨hn h, tk, by show hn h ≤ hn h; omega, by show sF X2 147 = _; rw [e1]; exact i1, by rw [c1]; exact i2, i3, by show sF X2 146 = _; rw [e1]; exact i4, by rw [c1]; exact i5, by rw [c2 16 (by decide) (by decide)]; exact i6, fun i hi => ?_⟩
        show sA X2 10 i = _ ∧ sA X2 11 i = _ ∧ ∃ k, k ≤ 99 ∧ sA X2 10 i = nI k
        rw [e3, e3, c2 18 (by decide) (by decide), c2 17 (by decide) (by decide)]; exact i7 i hi
    · have nq : ¬ nI nk = nI (hn h) := fun z => q (nI_inj (by omega) (by omega) z)
      rw [if_neg nq, if_pos rfl, if_neg nq]
      exact ⟨_, _, _, rfl, rfl, h, t, pg, hr0⟩
