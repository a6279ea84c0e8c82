/-! letters of a long, and the page -/
def bn (n k : Nat) : Nat := n / 2 ^ (8 * k) % 256
theorem bn_lt (n k : Nat) : bn n k < 256 := Nat.mod_lt _ (by decide)
theorem code_eq {n : Nat} (hn : n < 2 ^ 64) {k : Nat} (hk : k < 8) : jPg_codeIn (lN n) (nI k) = some (nI (bn n k)) := by
  unfold jPg_codeIn bn
  rw [e8, lushN hn (by omega), lN_i, show (255 : Int32) = nI (2 ^ 8 - 1) from rfl, fa_mask]
theorem low_eq {n : Nat} (hn : n < 2 ^ 64) : (lN n &&& 255).toInt32 = nI (n % 256) := by
  rw [show (255 : Int64) = lN (2 ^ 8 - 1) from rfl, wb_mask hn (by decide), lN_i]
theorem bad_lp {n : Nat} (X : St) : ∀ (f k : Nat) (v5 : Int64) (v3 : Int32), k ≤ 8 → 8 < k + f → jM_letters_11 f X (lN n) v3 0 v5 (nI k) = some (-102, X)
  | 0, k, v5, v3, _, h2 => absurd h2 (by omega)
  | f + 1, k, v5, v3, hk, h2 => by
    rw [jM_letters_11]
    by_cases q : 8 ≤ k
    · rw [if_pos (show (8 : Int32) ≤ nI k from nI_le q (by omega)), if_pos rfl]
    · rw [if_neg (show ¬ (8 : Int32) ≤ nI k from nI_ge (b := 8) (by omega) (by omega)), if_pos rfl]
      unfold jM_letters_61 jM_letters_62 jM_letters_75
      rw [nI_1]
      split <;> exact bad_lp X f (k + 1) _ _ (by omega) (by omega)
/-- the reference's way on, behind the counting -/
def fin2 (Y : St) (n c : Nat) : Option (Int32 × St) := if sF Y 1 + nI c ≤ 32 then jM_letters_108 10 Y (lN n) (nI c) 0 else some (-104, Y)
theorem count_lp {n : Nat} (hn : n < 2 ^ 64) (Y : St) : ∀ (f k c : Nat), c ≤ k → k ≤ 8 → 8 < k + f → (∀ j, j < c → 1 ≤ bn n j ∧ bn n j ≤ 126) → (jPg_lettersIn_7 f (lN n) (nI c) (bI (decide (c < k))) (nI k) = some (-1) ∧ jM_letters_11 f Y (lN n) (nI c) 1 (lN (n / 2 ^ (8 * k))) (nI k) = some (-102, Y)) ∨ ∃ c2, c2 ≤ 8 ∧ (∀ j, j < c2 → 1 ≤ bn n j ∧ bn n j ≤ 126) ∧ jPg_lettersIn_7 f (lN n) (nI c) (bI (decide (c < k))) (nI k) = some (nI c2) ∧ jM_letters_11 f Y (lN n) (nI c) 1 (lN (n / 2 ^ (8 * k))) (nI k) = fin2 Y n c2
  | 0, k, c, _, _, h2, _ => absurd h2 (by omega)
  | f + 1, k, c, hck, hk, h2, hb => by
    rw [jPg_lettersIn_7, jM_letters_11]
    by_cases q : 8 ≤ k
    · rw [if_pos (show (8 : Int32) ≤ nI k from nI_le q (by omega)), if_pos (show (8 : Int32) ≤ nI k from nI_le q (by omega)), if_neg (by decide)]
      exact Or.inr ⟨c, by omega, hb, rfl, rfl⟩
    · have hlow : (lN (n / 2 ^ (8 * k)) &&& 255).toInt32 = nI (bn n k) := low_eq (div_lt64 hn)
      have hnext : lush (lN (n / 2 ^ (8 * k))) 8 = lN (n / 2 ^ (8 * (k + 1))) := by
        rw [show (8 : Int32) = nI 8 from rfl, lushN (div_lt64 hn) (by omega), Nat.div_div_eq_div_mul, ← Nat.pow_add]
        rfl
      rw [if_neg (show ¬ (8 : Int32) ≤ nI k from nI_ge (b := 8) (by omega) (by omega)), if_neg (show ¬ (8 : Int32) ≤ nI k from nI_ge (b := 8) (by omega) (by omega)), code_eq hn (by omega), bS, if_neg (show ¬ (1 : Int32) = 0 by decide), hlow, hnext]
      have hbk := bn_lt n k
      have bad : jM_letters_61 (jM_letters_11 f) Y (lN n) (nI c) (lN (n / 2 ^ (8 * (k + 1)))) (nI k) (nI (bn n k)) = some (-102, Y) := by
        unfold jM_letters_61 jM_letters_62 jM_letters_75
        rw [nI_1]
        split <;> exact bad_lp Y f (k + 1) _ _ (by omega) (by omega)
      by_cases z : 126 < bn n k
      · rw [if_pos (show (126 : Int32) < nI (bn n k) from nI_lt z (by omega)), if_pos (show (126 : Int32) < nI (bn n k) from nI_lt z (by omega))]
        exact Or.inl ⟨rfl, bad⟩
      · rw [if_neg (show ¬ (126 : Int32) < nI (bn n k) from nI_nlt (a := 126) (b := bn n k) (by omega) (by omega)), if_neg (show ¬ (126 : Int32) < nI (bn n k) from nI_nlt (a := 126) (b := bn n k) (by omega) (by omega))]
        have step : ∀ c1 : Nat, c1 ≤ k + 1 → (nI c1 = nI c + (if nI (bn n k) ≤ 0 then 0 else 1)) → (bI (decide (c1 < k + 1)) = (if nI (bn n k) = 0 then 1 else 0)) → (∀ j, j < c1 → 1 ≤ bn n j ∧ bn n j ≤ 126) → (jPg_lettersIn_40 (jPg_lettersIn_7 f) (lN n) (nI c) (nI k) (nI (bn n k)) = some (-1) ∧ jM_letters_57 (jM_letters_11 f) Y (lN n) (nI c) (lN (n / 2 ^ (8 * (k + 1)))) (nI k) (nI (bn n k)) = some (-102, Y)) ∨ ∃ c2, c2 ≤ 8 ∧ (∀ j, j < c2 → 1 ≤ bn n j ∧ bn n j ≤ 126) ∧ jPg_lettersIn_40 (jPg_lettersIn_7 f) (lN n) (nI c) (nI k) (nI (bn n k)) = some (nI c2) ∧ jM_letters_57 (jM_letters_11 f) Y (lN n) (nI c) (lN (n / 2 ^ (8 * (k + 1)))) (nI k) (nI (bn n k)) = fin2 Y n c2 := by
          intro c1 h1 e1 e2 hb1
          have ih := count_lp hn Y f (k + 1) c1 h1 (by omega) (by omega) hb1
          have a1 : jPg_lettersIn_40 (jPg_lettersIn_7 f) (lN n) (nI c) (nI k) (nI (bn n k)) = jPg_lettersIn_7 f (lN n) (nI c1) (bI (decide (c1 < k + 1))) (nI (k + 1)) := by
            unfold jPg_lettersIn_40 jPg_lettersIn_50 jPg_lettersIn_61
            by_cases y : bn n k = 0
            · rw [y] at e1 e2 ⊢
              rw [if_pos (show nI 0 = 0 from rfl), if_neg (by decide), nI_1 k, e2, e1]
              rfl
            · have y0 : ¬ nI (bn n k) = 0 := nI_ne0 (by omega) (by omega)
              rw [if_neg y0] at e2
              rw [if_neg (nI_nle (by omega) (by omega))] at e1
              rw [if_neg y0, if_pos rfl, nI_1 k, e2, e1]
          have a2 : jM_letters_57 (jM_letters_11 f) Y (lN n) (nI c) (lN (n / 2 ^ (8 * (k + 1)))) (nI k) (nI (bn n k)) = jM_letters_11 f Y (lN n) (nI c1) 1 (lN (n / 2 ^ (8 * (k + 1)))) (nI (k + 1)) := by
            unfold jM_letters_57 jM_letters_62 jM_letters_75
            rw [nI_1 k, e1]
            split <;> rfl
          rw [a1, a2]
          exact ih
        by_cases y : bn n k = 0
        · have ey : nI (bn n k) = 0 := by rw [y]; rfl
          have good : (if nI (bn n k) = 0 then jM_letters_57 (jM_letters_11 f) Y (lN n) (nI c) (lN (n / 2 ^ (8 * (k + 1)))) (nI k) (nI (bn n k)) else if nI c = nI k then jM_letters_57 (jM_letters_11 f) Y (lN n) (nI c) (lN (n / 2 ^ (8 * (k + 1)))) (nI k) (nI (bn n k)) else jM_letters_61 (jM_letters_11 f) Y (lN n) (nI c) (lN (n / 2 ^ (8 * (k + 1)))) (nI k) (nI (bn n k))) = jM_letters_57 (jM_letters_11 f) Y (lN n) (nI c) (lN (n / 2 ^ (8 * (k + 1)))) (nI k) (nI (bn n k)) := if_pos ey
          rw [good]
          have good2 : (if bI (decide (c < k)) = 0 then jPg_lettersIn_40 (jPg_lettersIn_7 f) (lN n) (nI c) (nI k) (nI (bn n k)) else if nI (bn n k) = 0 then jPg_lettersIn_40 (jPg_lettersIn_7 f) (lN n) (nI c) (nI k) (nI (bn n k)) else some (-1)) = jPg_lettersIn_40 (jPg_lettersIn_7 f) (lN n) (nI c) (nI k) (nI (bn n k)) := by
            rw [if_pos ey]; split <;> rfl
          rw [good2]
          exact step c (by omega) (by rw [ey, if_pos (by decide), Int32.add_zero]) (by rw [ey, if_pos rfl, decide_eq_true (by omega)]; rfl) hb
        · have y0 : ¬ nI (bn n k) = 0 := nI_ne0 (by omega) (by omega)
          rw [if_neg y0, if_neg y0]
          by_cases w : c = k
          · rw [if_pos (bI_F (by omega)), if_pos (by rw [w])]
            refine step (k + 1) (by omega) ?_ ?_ ?_
            · rw [if_neg (nI_nle (by omega) (by omega)), w, nI_1]
            · rw [if_neg y0, decide_eq_false (by omega)]; rfl
            · intro j hj
              by_cases v : j = k
              · subst v; omega
              · exact hb j (by omega)
          · rw [if_neg (bI_T (by omega)), if_neg (fun v => w (nI_inj (by omega) (by omega) v))]
            exact Or.inl ⟨rfl, bad⟩
/-- the letters that come, from the j-th on -/
def bs (n j : Nat) : Nat → List Nat
  | 0 => []
  | m + 1 => bn n j :: bs n (j + 1) m
theorem bs_len (n : Nat) : ∀ (m j : Nat), (bs n j m).length = m
  | 0, _ => rfl
  | m + 1, j => by rw [bs, List.length_cons, bs_len n m]
theorem bs_mem (n : Nat) : ∀ (m j : Nat) (x : Nat), x ∈ bs n j m → ∃ i, j ≤ i ∧ i < j + m ∧ x = bn n i
  | 0, _, x, h => by simp [bs] at h
  | m + 1, j, x, h => by
    rcases List.mem_cons.mp h with h | h
    · exact ⟨j, by omega, by omega, h⟩
    · obtain ⟨i, h1, h2, h3⟩ := bs_mem n m (j + 1) x h
      exact ⟨i, by omega, by omega, h3⟩
theorem L_add_lp {n : Nat} (hn : n < 2 ^ 64) {c : Nat} (hc : c ≤ 8) : ∀ (f j : Nat) (X : St) (pg : List Nat), sF X 17 = nI pg.length → Arr (sA X 2) pg → j ≤ c → c < j + f → pg.length + (c - j) ≤ 32 → ∃ X2, jPg_add_3 f X (lN n) (nI c) (nI j) = some X2 ∧ (∀ q, q ≠ 17 → sF X2 q = sF X q) ∧ (∀ q, sG X2 q = sG X q) ∧ (∀ i k, sM X2 i k = sM X i k) ∧ (∀ a, a ≠ 2 → sA X2 a = sA X a) ∧ sF X2 17 = nI (pg ++ bs n j (c - j)).length ∧ Arr (sA X2 2) (pg ++ bs n j (c - j))
  | 0, j, X, pg, _, _, _, h2, _ => absurd h2 (by omega)
  | f + 1, j, X, pg, hs, ha, hj, h2, hl => by
    rw [jPg_add_3, hs]
    by_cases q : c ≤ j
    · rw [if_pos (nI_le q (by omega))]
      rw [show c - j = 0 by omega, bs, List.append_nil]
      exact ⟨X, rfl, fun _ _ => rfl, fun _ => rfl, fun _ _ => rfl, fun _ _ => rfl, hs, ha⟩
    · rw [if_neg (nI_ge (by omega) (by omega)), if_neg (show ¬ (32 : Int32) ≤ nI pg.length from nI_ge (b := 32) (by omega) (by omega)), code_eq hn (by omega), bS, if_pos (ibN (by omega) (by omega)), clN (by omega), nI_1, show sF (pA X 2 pg.length (nI (bn n j))) 17 = nI pg.length from hs, nI_1]
      have hl2 : (pg ++ [bn n j]).length = pg.length + 1 := by simp
      obtain ⟨X2, e, e1, e2, e3, e4, e5, e6⟩ := L_add_lp hn hc f (j + 1) (pF (pA X 2 pg.length (nI (bn n j))) 17 (nI (pg.length + 1))) (pg ++ [bn n j]) (by rw [hl2]; rfl) (Arr_push ha _) (by omega) (by omega) (by omega)
      have el : pg ++ bs n j (c - j) = pg ++ [bn n j] ++ bs n (j + 1) (c - (j + 1)) := by
        rw [show c - j = (c - (j + 1)) + 1 by omega, bs, List.append_assoc]; rfl
      rw [el]
      refine ⟨X2, e, fun q hq => ?_, e2, e3, fun a ha2 => ?_, e5, e6⟩
      · rw [e1 q hq, sF_pF, if_neg hq]; rfl
      · rw [e4 a ha2]
        show sA (pA X 2 pg.length (nI (bn n j))) a = _
        rw [sA_pA, if_neg ha2]
theorem M_add_lp {n : Nat} (hn : n < 2 ^ 64) {c : Nat} (hc : c ≤ 8) : ∀ (f j : Nat) (X : St) (pg : List Nat), sF X 1 = nI pg.length → Arr (sA X 1) pg → j ≤ c → c < j + f → pg.length + (c - j) ≤ 32 → ∃ X2, jM_letters_108 f X (lN n) (nI c) (nI j) = some (nI (pg ++ bs n j (c - j)).length, X2) ∧ (∀ q, q ≠ 1 → sF X2 q = sF X q) ∧ (∀ a, a ≠ 1 → sA X2 a = sA X a) ∧ sF X2 1 = nI (pg ++ bs n j (c - j)).length ∧ Arr (sA X2 1) (pg ++ bs n j (c - j))
  | 0, j, X, pg, _, _, _, h2, _ => absurd h2 (by omega)
  | f + 1, j, X, pg, hs, ha, hj, h2, hl => by
    rw [jM_letters_108, hs]
    by_cases q : c ≤ j
    · rw [if_pos (nI_le q (by omega))]
      rw [show c - j = 0 by omega, bs, List.append_nil]
      exact ⟨X, rfl, fun _ _ => rfl, fun _ _ => rfl, hs, ha⟩
    · have el8 : (lush (lN n) (8 * nI j) &&& 255).toInt32 = nI (bn n j) := by
        rw [e8, lushN hn (by omega), low_eq (div_lt64 hn)]; rfl
      rw [if_neg (nI_ge (by omega) (by omega)), if_pos (ibN (by omega) (by omega)), clN (by omega), nI_1, el8, show sF (pA X 1 pg.length (nI (bn n j))) 1 = nI pg.length from hs, nI_1]
      have hl2 : (pg ++ [bn n j]).length = pg.length + 1 := by simp
      obtain ⟨X2, e, e1, e4, e5, e6⟩ := M_add_lp hn hc f (j + 1) (pF (pA X 1 pg.length (nI (bn n j))) 1 (nI (pg.length + 1))) (pg ++ [bn n j]) (by rw [hl2]; rfl) (Arr_push ha _) (by omega) (by omega) (by omega)
      have el : pg ++ bs n j (c - j) = pg ++ [bn n j] ++ bs n (j + 1) (c - (j + 1)) := by
        rw [show c - j = (c - (j + 1)) + 1 by omega, bs, List.append_assoc]; rfl
      rw [el]
      refine ⟨X2, e, fun q hq => ?_, fun a ha2 => ?_, e5, e6⟩
      · rw [e1 q hq, sF_pF, if_neg hq]; rfl
      · rw [e4 a ha2]
        show sA (pA X 1 pg.length (nI (bn n j))) a = _
        rw [sA_pA, if_neg ha2]
theorem RelH.pg {h : House} {t pg pg2 : List Nat} {X Y X2 Y2 : St} (r : RelH h t pg X Y) (e1 : ∀ q, q ≠ 17 → sF X2 q = sF X q) (e2 : ∀ q, sG X2 q = sG X q) (e3 : ∀ i k, sM X2 i k = sM X i k) (e4 : ∀ a, a ≠ 2 → sA X2 a = sA X a) (c1 : ∀ q, q ≠ 1 → sF Y2 q = sF Y q) (c2 : ∀ a, a ≠ 1 → sA Y2 a = sA Y a) (P2 : PgR pg2 X2 Y2) : RelH h t pg2 X2 Y2 := by
  obtain ⟨⟨O, ⟨h1, h2, h3, h4, h5⟩, ⟨k1, k2, k3, k4, k5⟩, F⟩, ⟨T, tx, ty, ta⟩, P, ⟨p1, p2⟩, ⟨d, x1, x2, x3⟩, ⟨d2, y1, y2, y3⟩, I⟩ := r
  refine ⟨⟨O, ⟨h1, ?_, ?_, ?_, ?_⟩, ⟨k1, ?_, ?_, ?_, ?_⟩, ?_⟩, ⟨T, ?_, ?_, ?_⟩, P2, ⟨?_, ?_⟩, ⟨d, x1, ?_, ?_⟩, ⟨d2, y1, ?_, ?_⟩, ?_⟩
  · rw [e1 _ (by decide)]; exact h2
  · rw [e1 _ (by decide)]; exact h3
  · intro i hi k hk; rw [e3]; exact h4 i hi k hk
  · intro i hi; rw [e2]; exact h5 i hi
  · rw [c1 _ (by decide)]; exact k2
  · rw [c1 _ (by decide)]; exact k3
  · intro i hi k hk; rw [c2 _ (by decide)]; exact k4 i hi k hk
  · intro i hi; rw [c2 _ (by decide)]; exact k5 i hi
  · intro i a b; rw [e3, e3, e3]; exact F i a b
  · rw [e1 _ (by decide)]; exact tx
  · rw [c1 _ (by decide)]; exact ty
  · rw [c2 _ (by decide)]; exact ta
  · rw [e1 _ (by decide), c1 _ (by decide)]; exact p1
  · rw [e1 _ (by decide), c1 _ (by decide)]; exact p2
  · rw [e1 _ (by decide)]; exact x2
  · rw [c1 _ (by decide)]; exact x3
  · rw [e1 _ (by decide)]; exact y2
  · rw [c1 _ (by decide)]; exact y3
  · unfold ImR
    rw [e1 147 (by decide), e1 146 (by decide), c1 31 (by decide), c1 32 (by decide), c2 16 (by decide), c2 17 (by decide), c2 18 (by decide), e4 10 (by decide), e4 11 (by decide)]
    exact I
theorem op_letters : Op_letters Rel := by
  intro X Y a1 hr
  obtain ⟨h, t, pg, hr⟩ := hr
  have hr0 := hr
  obtain ⟨-, -, ⟨g1, g2, g3, g4, g5, g6⟩, -⟩ := hr
  obtain ⟨n, hn, rfl⟩ := wb_of a1
  unfold jT_letters jM_letters jPg_lettersIn jPg_hasRoomFor jPg_length
  have key := count_lp hn Y 10 0 0 (by omega) (by omega) (by omega) (fun j hj => absurd hj (by omega))
  rw [show bI (decide (0 < 0)) = 0 from rfl, show n / 2 ^ (8 * 0) = n by simp] at key
  rcases key with ⟨a, b⟩ | ⟨c, hc, hb, a, b⟩
  · have a' : jPg_lettersIn_7 10 (lN n) 0 0 0 = some (-1) := a
    have b' : jM_letters_11 10 Y (lN n) 0 1 (lN n) 0 = some (-102, Y) := b
    rw [a', b', bS, if_pos rfl]
    exact ⟨_, _, _, rfl, rfl, h, t, pg, hr0⟩
  · have a' : jPg_lettersIn_7 10 (lN n) 0 0 0 = some (nI c) := a
    have b' : jM_letters_11 10 Y (lN n) 0 1 (lN n) 0 = fin2 Y n c := b
    have ne : ¬ nI c = -1 := by
      intro z
      have z1 : (nI c).toInt = (-1 : Int32).toInt := by rw [z]
      rw [nI_toInt (by omega)] at z1
      have : (-1 : Int32).toInt = -1 := rfl
      omega
    rw [a', b', bS, if_neg ne, g2, nI_add]
    unfold fin2
    rw [g3, nI_add]
    by_cases q : 32 < pg.length + c
    · rw [if_pos (show (32 : Int32) < nI (pg.length + c) from nI_lt q (by omega)), if_neg (show ¬ nI (pg.length + c) ≤ 32 from nI_ge (a := 32) (by omega) (by omega)), bS, if_pos rfl]
      exact ⟨_, _, _, rfl, rfl, h, t, pg, hr0⟩
    · rw [if_neg (show ¬ (32 : Int32) < nI (pg.length + c) from nI_nlt (a := 32) (b := pg.length + c) (by omega) (by omega)), if_pos (show nI (pg.length + c) ≤ 32 from nI_le (b := 32) (by omega) (by omega)), bS, if_neg (by decide)]
      obtain ⟨X2, e, e1, e2, e3, e4, e5, e6⟩ := L_add_lp hn hc 10 0 X pg g2 g4 (by omega) (by omega) (by omega)
      obtain ⟨Y2, c0, c1, c2, c3, c4⟩ := M_add_lp hn hc 10 0 Y pg g3 g5 (by omega) (by omega) (by omega)
      rw [show jPg_add X (lN n) (nI c) = some X2 from e, bS, bS]
      refine ⟨_, X2, Y2, rfl, by rw [e5]; exact c0, h, t, pg ++ bs n 0 (c - 0), hr0.pg e1 e2 e3 e4 c1 c2 ⟨?_, e5, c3, e6, c4, ?_⟩⟩
      · rw [List.length_append, bs_len]; omega
      · intro x hx
        rcases List.mem_append.mp hx with hx | hx
        · exact g6 x hx
        · obtain ⟨i, -, h2, rfl⟩ := bs_mem n _ _ x hx
          exact hb i (by omega)
