/-! a new member; images -/
theorem become_eq (i : Nat) (hi : i < 8) (X : St) (a1 a2 a3 : Int32) (ha : a1 = 0 ∨ a1 = 1 ∨ a1 = 2 ∨ a1 = 3 ∨ a1 = 4) : ∃ X2, jMe_become i X a1 a2 a3 = some X2 ∧ (∀ q, sF X2 q = sF X q) ∧ (∀ q, sG X2 q = sG X q) ∧ (∀ a, sA X2 a = sA X a) ∧ ∀ i2 j, sM X2 i2 j = if i2 = i then (if j = 0 then a1 else if j = 1 then a2 else if j = 2 then a3 else if j = 8 then (if a1 = 1 then 1 else 0) else if j = 9 then (if a1 = 1 then 2 * a2 else a2) else if j = 10 then (if a1 = 2 ∨ a1 = 4 then 10 else 0) else if j = 11 then (if a1 = 3 ∨ a1 = 4 then 0 else a3) else sM X i2 j) else sM X i2 j := by
  refine ⟨pM (pM (pM (pM (pM (pM (pM X i 0 a1) i 1 a2) i 2 a3) i 8 (if a1 = 1 then 1 else 0)) i 9 (if a1 = 1 then 2 * a2 else a2)) i 10 (if a1 = 2 ∨ a1 = 4 then 10 else 0)) i 11 (if a1 = 3 ∨ a1 = 4 then 0 else a3), ?_, fun _ => rfl, fun _ => rfl, fun _ => rfl, fun i2 j => ?_⟩
  · rcases ha with rfl | rfl | rfl | rfl | rfl <;> simp [jMe_become, jMe_become_45, jMe_become_63, jMe_become_83, jMe_become_91, jMe_isA, jMe_isA_25, sM_pM, hi]
  · simp only [sM_pM]
    by_cases q : i2 = i
    · subst q
      simp only [if_pos rfl, true_and]
      by_cases z0 : j = 0
      · subst z0; simp
      by_cases z1 : j = 1
      · subst z1; simp
      by_cases z2 : j = 2
      · subst z2; simp
      by_cases z8 : j = 8
      · subst z8; simp
      by_cases z9 : j = 9
      · subst z9; simp
      by_cases z10 : j = 10
      · subst z10; simp
      by_cases z11 : j = 11
      · subst z11; simp
      simp [z0, z1, z2, z8, z9, z10, z11]
    · simp [q]
theorem kind_of {a : Int32} (q : (0 : Int32).toInt ≤ a.toInt ∧ a.toInt ≤ (4 : Int32).toInt) : a = 0 ∨ a = 1 ∨ a = 2 ∨ a = 3 ∨ a = 4 := by
  obtain ⟨k, hk, rfl⟩ := rng (n := 4) rfl rfl q
  rcases (show k = 0 ∨ k = 1 ∨ k = 2 ∨ k = 3 ∨ k = 4 by omega) with rfl | rfl | rfl | rfl | rfl
  · exact Or.inl rfl
  · exact Or.inr (Or.inl rfl)
  · exact Or.inr (Or.inr (Or.inl rfl))
  · exact Or.inr (Or.inr (Or.inr (Or.inl rfl)))
  · exact Or.inr (Or.inr (Or.inr (Or.inr rfl)))
theorem op_member : Op_member Rel := by
  intro X Y a1 a2 a3 a4 a5 hr
  obtain ⟨h, t, pg, hr⟩ := hr
  have hr0 := hr
  obtain ⟨⟨O, H, K, F⟩, ⟨T, tx, ty, ta⟩, P, Q, D1, D2, I⟩ := hr
  have h7 := H.1
  unfold jT_member jM_member
  simp only [between_eq, in_int, show (0 : Int64).toInt = (0 : Int32).toInt from rfl, show (1 : Int64).toInt = (1 : Int32).toInt from rfl, show (4 : Int64).toInt = (4 : Int32).toInt from rfl, show (9 : Int64).toInt = (9 : Int32).toInt from rfl, show (-3 : Int64).toInt = (-3 : Int32).toInt from rfl, show (3 : Int64).toInt = (3 : Int32).toInt from rfl, show (2 : Int64).toInt = (2 : Int32).toInt from rfl, show (99 : Int64).toInt = (99 : Int32).toInt from rfl, bS]
  by_cases q1 : ¬ ((0 : Int32).toInt ≤ a1.toInt ∧ a1.toInt ≤ (4 : Int32).toInt)
  · rw [if_pos (bI_F q1), if_pos (bI_F q1)]; exact ⟨_, _, _, rfl, rfl, h, t, pg, hr0⟩
  replace q1 := Classical.not_not.mp q1
  rw [if_neg (bI_T q1), if_neg (bI_T q1)]
  by_cases q2 : ¬ ((1 : Int32).toInt ≤ a2.toInt ∧ a2.toInt ≤ (9 : Int32).toInt)
  · rw [if_pos (bI_F q2), if_pos (bI_F q2)]; exact ⟨_, _, _, rfl, rfl, h, t, pg, hr0⟩
  replace q2 := Classical.not_not.mp q2
  rw [if_neg (bI_T q2), if_neg (bI_T q2)]
  by_cases q3 : ¬ ((-3 : Int32).toInt ≤ a3.toInt ∧ a3.toInt ≤ (3 : Int32).toInt)
  · rw [if_pos (bI_F q3), if_pos (bI_F q3)]; exact ⟨_, _, _, rfl, rfl, h, t, pg, hr0⟩
  replace q3 := Classical.not_not.mp q3
  rw [if_neg (bI_T q3), if_neg (bI_T q3)]
  by_cases q4 : ¬ ((0 : Int32).toInt ≤ a4.toInt ∧ a4.toInt ≤ (2 : Int32).toInt)
  · rw [if_pos (bI_F q4), if_pos (bI_F q4)]; exact ⟨_, _, _, rfl, rfl, h, t, pg, hr0⟩
  replace q4 := Classical.not_not.mp q4
  rw [if_neg (bI_T q4), if_neg (bI_T q4)]
  by_cases q5 : ¬ ((0 : Int32).toInt ≤ a5.toInt ∧ a5.toInt ≤ (99 : Int32).toInt)
  · rw [if_pos (bI_F q5), if_pos (bI_F q5)]; exact ⟨_, _, _, rfl, rfl, h, t, pg, hr0⟩
  replace q5 := Classical.not_not.mp q5
  rw [if_neg (bI_T q5), if_neg (bI_T q5), show jCh_size X = some (sF X 84) from rfl, bS, H.2.1, K.2.1]
  by_cases q6 : hn h = 7
  · rw [q6, if_neg (by decide), if_pos (by decide)]; exact ⟨_, _, _, rfl, rfl, h, t, pg, hr0⟩
  have hn7 : hn h < 7 := by omega
  have es : jCh_seatNext X = some (hn h, pF X 84 (nI (hn h + 1))) := by
    unfold jCh_seatNext
    rw [H.2.1, L_who hn7, bS, if_pos (by omega), nI_1, if_neg (show ¬ (7 : Int32) < nI (hn h + 1) from nI_nlt (b := hn h + 1) (a := 7) (by omega) (by decide))]
  obtain ⟨X2, b0, b1, b2, b3, b4⟩ := become_eq (hn h) (by omega) (pF X 84 (nI (hn h + 1))) a1 a2 a3 (kind_of q1)
  rw [if_pos (show nI (hn h) < 7 from nI_lt (b := 7) hn7 (by decide)), if_neg (show ¬ nI (hn h) = 7 from fun z => q6 (nI_inj (a := hn h) (b := 7) (by omega) (by decide) z)), es, bS]
  simp only [e8]
  rw [if_pos (by omega), b0, bS, show jCh_size (pM (pM X2 (hn h) 3 a4) (hn h) 4 a5) = some (sF X2 84) from rfl, bS, b1, show sF (pF X 84 (nI (hn h + 1))) 84 = nI (hn h + 1) from rfl]
  have ek : ∀ (k : Nat) (kk : Int32), kk = nI k → k < 8 → ib (nI (8 * hn h) + kk) 56 = true ∧ (nI (8 * hn h) + kk).toNatClampNeg = 8 * hn h + k := by
    intro k kk e hk
    rw [e, nI_add, clN (by omega)]
    exact ⟨ibN (by omega) (by omega), rfl⟩
  rw [if_pos (ibN (by omega) (by omega)), if_pos (ek 1 1 rfl (by omega)).1, if_pos (ek 2 2 rfl (by omega)).1, if_pos (ek 3 3 rfl (by omega)).1, if_pos (ek 4 4 rfl (by omega)).1, if_pos (ek 5 5 rfl (by omega)).1, if_pos (ek 6 6 rfl (by omega)).1, if_pos (ek 7 7 rfl (by omega)).1]
  rw [(ek 1 1 rfl (by omega)).2, (ek 2 2 rfl (by omega)).2, (ek 3 3 rfl (by omega)).2, (ek 4 4 rfl (by omega)).2, (ek 5 5 rfl (by omega)).2, (ek 6 6 rfl (by omega)).2, (ek 7 7 rfl (by omega)).2, clN (by omega)]
  generalize hY1 : pA (pA (pA (pA (pA (pA (pA (pA Y 5 (8 * hn h) a1) 5 (8 * hn h + 1) a2) 5 (8 * hn h + 2) a3) 5 (8 * hn h + 3) a4) 5 (8 * hn h + 4) a5) 5 (8 * hn h + 5) 0) 5 (8 * hn h + 6) 0) 5 (8 * hn h + 7) 0 = Y1
  have c1 : ∀ q, sF Y1 q = sF Y q := fun q => by rw [← hY1]; rfl
  have c2 : ∀ a, a ≠ 5 → sA Y1 a = sA Y a := fun a ha => by rw [← hY1]; simp only [sA_pA, if_neg ha]
  have c3 : ∀ p, sA Y1 5 p = if p = 8 * hn h + 7 then 0 else if p = 8 * hn h + 6 then 0 else if p = 8 * hn h + 5 then 0 else if p = 8 * hn h + 4 then a5 else if p = 8 * hn h + 3 then a4 else if p = 8 * hn h + 2 then a3 else if p = 8 * hn h + 1 then a2 else if p = 8 * hn h then a1 else sA Y 5 p := fun p => by rw [← hY1]; rfl
  rw [show sF (pF Y1 12 (sF Y1 12 + 1)) 12 = sF Y1 12 + 1 from rfl, c1, K.2.1, nI_1]
  generalize hX3 : pM (pM X2 (hn h) 3 a4) (hn h) 4 a5 = X3
  have d1 : ∀ q, sF X3 q = if q = 84 then nI (hn h + 1) else sF X q := fun q => by rw [← hX3]; exact b1 q
  have d2 : ∀ q, sG X3 q = sG X q := fun q => by rw [← hX3]; exact b2 q
  have d3 : ∀ a, sA X3 a = sA X a := fun a => by rw [← hX3]; exact b3 a
  have d4 : ∀ i j, i ≠ hn h → sM X3 i j = sM X i j := fun i j hi => by
    rw [← hX3, sM_pM, if_neg (by omega), sM_pM, if_neg (by omega), b4, if_neg hi]; rfl
  have d5 : ∀ j, sM X3 (hn h) j = if j = 4 then a5 else if j = 3 then a4 else sM X2 (hn h) j := fun j => by
    rw [← hX3, sM_pM, sM_pM]
    simp only [true_and]
  have f := F (hn h) (by omega) hn7
  refine ⟨_, _, _, rfl, rfl, (hn h + 1, hlim h, fun i k => if i = hn h ∧ k < 12 then sM X3 (hn h) k else hg h i k), t, pg, ⟨?_, ⟨?_, ?_, ?_, ?_, ?_⟩, ⟨?_, ?_, ?_, ?_, ?_⟩, ?_⟩, ⟨?_, ?_, ?_, ?_⟩, ⟨P.1, ?_, ?_, ?_, ?_, P.2.2.2.2.2⟩, ⟨?_, ?_⟩, ?_, ?_, ?_⟩
  · intro i hi
    by_cases z : i = hn h
    · subst z
      have g : ∀ k, k < 12 → hg (hn h + 1, hlim h, fun i k => if i = hn h ∧ k < 12 then sM X3 (hn h) k else hg h i k) (hn h) k = sM X3 (hn h) k := fun k hk => by
        show (if hn h = hn h ∧ k < 12 then _ else _) = _
        rw [if_pos ⟨rfl, hk⟩]
      have g0 : hg (hn h + 1, hlim h, fun i k => if i = hn h ∧ k < 12 then sM X3 (hn h) k else hg h i k) (hn h) 0 = a1 := by rw [g 0 (by omega), d5, if_neg (by decide), if_neg (by decide), b4, if_pos rfl]; rfl
      have g1 : hg (hn h + 1, hlim h, fun i k => if i = hn h ∧ k < 12 then sM X3 (hn h) k else hg h i k) (hn h) 1 = a2 := by rw [g 1 (by omega), d5, if_neg (by decide), if_neg (by decide), b4, if_pos rfl]; rfl
      have g2 : hg (hn h + 1, hlim h, fun i k => if i = hn h ∧ k < 12 then sM X3 (hn h) k else hg h i k) (hn h) 2 = a3 := by rw [g 2 (by omega), d5, if_neg (by decide), if_neg (by decide), b4, if_pos rfl]; rfl
      have g3 : hg (hn h + 1, hlim h, fun i k => if i = hn h ∧ k < 12 then sM X3 (hn h) k else hg h i k) (hn h) 3 = a4 := by rw [g 3 (by omega), d5]; rfl
      have g4 : hg (hn h + 1, hlim h, fun i k => if i = hn h ∧ k < 12 then sM X3 (hn h) k else hg h i k) (hn h) 4 = a5 := by rw [g 4 (by omega), d5]; rfl
      have g5 : hg (hn h + 1, hlim h, fun i k => if i = hn h ∧ k < 12 then sM X3 (hn h) k else hg h i k) (hn h) 5 = 0 := by rw [g 5 (by omega), d5, if_neg (by decide), if_neg (by decide), b4, if_pos rfl]; exact f.1
      have g6 : hg (hn h + 1, hlim h, fun i k => if i = hn h ∧ k < 12 then sM X3 (hn h) k else hg h i k) (hn h) 6 = 0 := by rw [g 6 (by omega), d5, if_neg (by decide), if_neg (by decide), b4, if_pos rfl]; exact f.2.1
      have g8 : hg (hn h + 1, hlim h, fun i k => if i = hn h ∧ k < 12 then sM X3 (hn h) k else hg h i k) (hn h) 8 = (if a1 = 1 then 1 else 0) := by rw [g 8 (by omega), d5, if_neg (by decide), if_neg (by decide), b4, if_pos rfl]; rfl
      have g9 : hg (hn h + 1, hlim h, fun i k => if i = hn h ∧ k < 12 then sM X3 (hn h) k else hg h i k) (hn h) 9 = (if a1 = 1 then 2 * a2 else a2) := by rw [g 9 (by omega), d5, if_neg (by decide), if_neg (by decide), b4, if_pos rfl]; rfl
      have g10 : hg (hn h + 1, hlim h, fun i k => if i = hn h ∧ k < 12 then sM X3 (hn h) k else hg h i k) (hn h) 10 = (if a1 = 2 ∨ a1 = 4 then 10 else 0) := by rw [g 10 (by omega), d5, if_neg (by decide), if_neg (by decide), b4, if_pos rfl]; rfl
      have g11 : hg (hn h + 1, hlim h, fun i k => if i = hn h ∧ k < 12 then sM X3 (hn h) k else hg h i k) (hn h) 11 = (if a1 = 3 ∨ a1 = 4 then 0 else a3) := by rw [g 11 (by omega), d5, if_neg (by decide), if_neg (by decide), b4, if_pos rfl]; rfl
      have e1' : (1 : Int32).toInt = 1 := rfl
      have e9' : (9 : Int32).toInt = 9 := rfl
      have e3' : (3 : Int32).toInt = 3 := rfl
      have e3'' : (-3 : Int32).toInt = -3 := rfl
      obtain ⟨k2, e2, e2'⟩ := toInt_nI (by omega : 0 ≤ a2.toInt)
      unfold OkM
      rw [g0, g1, g2, g3, g4, g5, g6, g8, g9, g10, g11]
      exact ⟨rng (n := 4) rfl rfl q1, ⟨k2, by omega, by omega, e2⟩, ⟨by omega, by omega⟩, rng (n := 2) rfl rfl q4, rng (n := 99) rfl rfl q5, ⟨0, by omega, rfl⟩, ⟨0, by omega, rfl⟩, rfl, rfl, rfl, rfl⟩
    · have hi2 : i < hn h := by have : i < hn h + 1 := hi; omega
      have e : hg (hn h + 1, hlim h, fun i k => if i = hn h ∧ k < 12 then sM X3 (hn h) k else hg h i k) i = hg h i := by
        funext k
        show (if i = hn h ∧ k < 12 then _ else _) = _
        rw [if_neg (fun y => z y.1)]
      rw [e]; exact O i hi2
  · show hn h + 1 ≤ 7; omega
  · rw [d1, if_pos rfl]; rfl
  · rw [d1, if_neg (by decide)]; exact H.2.2.1
  · intro i hi k hk
    show _ = if i = hn h ∧ k < 12 then _ else _
    by_cases z : i = hn h
    · rw [if_pos ⟨z, hk⟩, z]
    · have hi2 : i < hn h := by have : i < hn h + 1 := hi; omega
      rw [if_neg (fun y => z y.1), d4 i k z]; exact H.2.2.2.1 i hi2 k hk
  · intro i hi
    show _ = if i = hn h ∧ 12 < 12 then _ else _
    rw [if_neg (by omega), d2]; exact H.2.2.2.2 i hi
  · show hn h + 1 ≤ 7; omega
  · rfl
  · show sF Y1 4 = hlim h
    rw [c1]; exact K.2.2.1
  · intro i hi k hk
    show sA Y1 5 (8 * i + k) = if i = hn h ∧ k < 12 then _ else _
    rw [c3]
    by_cases z : i = hn h
    · subst z
      rw [if_pos (show hn h = hn h ∧ k < 12 from ⟨rfl, by omega⟩), d5, b4, if_pos (show hn h = hn h from rfl)]
      have e5 : sM (pF X 84 (nI (hn h + 1))) (hn h) 5 = 0 := f.1
      have e6 : sM (pF X 84 (nI (hn h + 1))) (hn h) 6 = 0 := f.2.1
      have e7 : sM (pF X 84 (nI (hn h + 1))) (hn h) 7 = 0 := f.2.2
      rcases (show k = 0 ∨ k = 1 ∨ k = 2 ∨ k = 3 ∨ k = 4 ∨ k = 5 ∨ k = 6 ∨ k = 7 by omega) with rfl | rfl | rfl | rfl | rfl | rfl | rfl | rfl <;> simp [e5, e6, e7]
    · have hi2 : i < hn h := by have : i < hn h + 1 := hi; omega
      rw [if_neg (by omega), if_neg (by omega), if_neg (by omega), if_neg (by omega), if_neg (by omega), if_neg (by omega), if_neg (by omega), if_neg (by omega), if_neg (fun y => z y.1)]
      exact K.2.2.2.1 i hi2 k hk
  · intro i hi
    show sA Y1 2 i = if i = hn h ∧ 12 < 12 then _ else _
    rw [if_neg (by omega), c2 2 (by omega)]; exact K.2.2.2.2 i hi
  · intro i h1 h2
    have h1' : hn h + 1 ≤ i := h1
    rw [d4 _ _ (by omega), d4 _ _ (by omega), d4 _ _ (by omega)]
    exact F i (by omega) h2
  · exact ⟨T.1, fun m hm => by have := T.2 m hm; show m < hn h + 1; omega⟩
  · rw [d1, if_neg (by decide)]; exact tx
  · show sF Y1 14 = _
    rw [c1]; exact ty
  · show Arr (sA Y1 6) t
    rw [c2 6 (by omega)]; exact ta
  · rw [d1, if_neg (by decide)]; exact P.2.1
  · show sF Y1 1 = _
    rw [c1]; exact P.2.2.1
  · rw [d3]; exact P.2.2.2.1
  · show Arr (sA Y1 1) pg
    rw [c2 1 (by omega)]; exact P.2.2.2.2.1
  · show _ = sF Y1 3
    rw [d1, if_neg (by decide), c1]; exact Q.1
  · show _ = sF Y1 16
    rw [d1, if_neg (by decide), c1]; exact Q.2
  · obtain ⟨d, x1, x2, x3⟩ := D1
    exact ⟨d, x1, by rw [d1, if_neg (by decide)]; exact x2, by show sF Y1 19 = _; rw [c1]; exact x3⟩
  · obtain ⟨d, x1, x2, x3⟩ := D2
    exact ⟨d, x1, by rw [d1, if_neg (by decide)]; exact x2, by show sF Y1 25 = _; rw [c1]; exact x3⟩
  · rcases I with ⟨i1, i2⟩ | ⟨nk, tk, i0, i1, i2, i3, i4, i5, i6, i7⟩
    · exact Or.inl ⟨by rw [d1, if_neg (by decide)]; exact i1, by show sF Y1 31 = _; rw [c1]; exact i2⟩
    · refine Or.inr ⟨nk, tk, by show nk ≤ hn h + 1; omega, by rw [d1, if_neg (by decide)]; exact i1, by show sF Y1 32 = _; rw [c1]; exact i2, i3, by rw [d1, if_neg (by decide)]; exact i4, by show sF Y1 31 = _; rw [c1]; exact i5, ?_, fun i hi => ?_⟩
      · show Arr (sA Y1 16) tk
        rw [c2 16 (by omega)]; exact i6
      · show sA X3 10 i = sA Y1 18 i ∧ sA X3 11 i = sA Y1 17 i ∧ _
        rw [d3, d3, c2 18 (by omega), c2 17 (by omega)]; exact i7 i hi
