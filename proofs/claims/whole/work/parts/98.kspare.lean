/-! the class' best spare: two rows sorted while read -/
def ArI (f : Nat → Int32) (l : List Int32) : Prop := ∀ (k : Nat) (hk : k < l.length), f k = l[k]
theorem ArI_snoc {f : Nat → Int32} {l : List Int32} {x : Int32} : ArI f (l ++ [x]) ↔ ArI f l ∧ f l.length = x := by
  constructor
  · intro h
    refine ⟨fun k hk => ?_, ?_⟩
    · rw [h k (by simp; omega), List.getElem_append_left hk]
    · rw [h l.length (by simp), List.getElem_append_right (Nat.le_refl _)]
      simp
  · rintro ⟨h1, h2⟩ k hk
    by_cases q : k < l.length
    · rw [List.getElem_append_left q, h1 k q]
    · have : k = l.length := by simp at hk; omega
      subst this
      rw [List.getElem_append_right (Nat.le_refl _), h2]
      simp
def OX (a : Nat) (X X2 : St) : Prop := (∀ q, sF X2 q = sF X q) ∧ (∀ q, sG X2 q = sG X q) ∧ (∀ i k, sM X2 i k = sM X i k) ∧ ∀ b, b ≠ a → sA X2 b = sA X b
theorem OX.tr {a : Nat} {X X2 X3 : St} (p : OX a X X2) (q : OX a X2 X3) : OX a X X3 := ⟨fun i => (q.1 i).trans (p.1 i), fun i => (q.2.1 i).trans (p.2.1 i), fun i k => (q.2.2.1 i k).trans (p.2.2.1 i k), fun i h => (q.2.2.2 i h).trans (p.2.2.2 i h)⟩
theorem OX.A {a : Nat} (X : St) (j : Nat) (v : Int32) : OX a X (pA X a j v) := ⟨fun _ => rfl, fun _ => rfl, fun _ _ => rfl, fun b h => by rw [sA_pA, if_neg h]⟩
theorem OX.eq {a : Nat} (ha : a = 7 ∨ a = 8) {X X2 : St} (s : OX a X X2) : EqX X X2 :=
  ⟨⟨s.1 _, s.1 _, s.1 _, s.1 _, s.1 _⟩, ⟨s.1 _, s.1 _, s.1 _, s.1 _, s.1 _⟩, s.2.1 _, s.2.2.1, ⟨s.2.2.2 _ (by omega), s.2.2.2 _ (by omega), s.2.2.2 _ (by omega)⟩⟩
theorem ins_lp {ak : Nat} : ∀ (r : List Int32) (f : Nat) (X : St) (v : Int32), r.length < 7 → r.length < f → ArI (sA X ak) r.reverse → ∃ X2, jCh_insert_13 ak f X v (nI r.length) = some X2 ∧ OX ak X X2 ∧ ArI (sA X2 ak) (insR v r).reverse ∧ ∀ k, r.length < k → sA X2 ak k = sA X ak k
  | r, 0, _, _, _, h, _ => absurd h (by omega)
  | [], f + 1, X, v, _, _, _ => by
    rw [jCh_insert_13, if_pos (by decide)]
    unfold jCh_insert_40
    rw [if_pos (show ib (nI ([] : List Int32).length) 7 = true by decide), show (nI ([] : List Int32).length).toNatClampNeg = 0 by decide]
    refine ⟨_, rfl, OX.A _ _ _, ?_, fun k hk => ?_⟩
    · intro k hk
      have : k = 0 := by
        have : k < 1 := hk
        omega
      subst this
      rw [sA_pA, if_pos rfl]
      rfl
    · rw [sA_pA, if_pos rfl]
      show (if k = 0 then _ else _) = _
      rw [if_neg (by simp at hk; omega)]
  | x :: r, f + 1, X, v, hl, hf, hA => by
    rw [List.reverse_cons] at hA
    obtain ⟨h1, h2⟩ := ArI_snoc.mp hA
    rw [List.length_reverse] at h2
    have hl2 : (x :: r).length = r.length + 1 := rfl
    rw [hl2] at hl hf ⊢
    rw [jCh_insert_13, if_neg (nI_nle (by omega) (by omega)), nI_pred, if_pos (ibN (by omega) (by omega)), clN (by omega), h2, insR]
    have up : ∀ {k : Nat} {y : Int32}, k ≠ r.length + 1 → sA (pA X ak (r.length + 1) y) ak k = sA X ak k := by
      intro k y hk
      rw [sA_pA, if_pos rfl]
      show (if k = r.length + 1 then _ else _) = _
      rw [if_neg hk]
    have up2 : ∀ y : Int32, sA (pA X ak (r.length + 1) y) ak (r.length + 1) = y := by
      intro y
      rw [sA_pA, if_pos rfl]
      show (if r.length + 1 = r.length + 1 then _ else _) = _
      rw [if_pos rfl]
    by_cases q : x ≤ v
    · rw [if_pos q, if_pos q]
      unfold jCh_insert_40
      rw [if_pos (ibN (by omega) (by omega)), clN (by omega)]
      refine ⟨_, rfl, OX.A _ _ _, ?_, fun k hk => up (by omega)⟩
      rw [List.reverse_cons, List.reverse_cons]
      refine ArI_snoc.mpr ⟨ArI_snoc.mpr ⟨fun k hk => ?_, ?_⟩, ?_⟩
      · rw [up (by rw [List.length_reverse] at hk; omega)]
        exact h1 k hk
      · rw [List.length_reverse, up (by omega), h2]
      · rw [List.length_append, List.length_reverse]
        exact up2 v
    · rw [if_neg q, if_neg q, if_pos (ibN (by omega) (by omega)), if_pos (ibN (by omega) (by omega)), clN (by omega), pk_m1]
      obtain ⟨X2, e, s, a1, a2⟩ := ins_lp r f (pA X ak (r.length + 1) x) v (by omega) (by omega) (fun k hk => by
        rw [up (by rw [List.length_reverse] at hk; omega)]
        exact h1 k hk)
      refine ⟨X2, e, (OX.A _ _ _).tr s, ?_, fun k hk => ?_⟩
      · rw [List.reverse_cons]
        refine ArI_snoc.mpr ⟨a1, ?_⟩
        have : (insR v r).reverse.length = r.length + 1 := by rw [List.length_reverse, (insR_perm v r).length_eq]; rfl
        rw [this, a2 _ (by omega)]
        exact up2 x
      · rw [a2 k (by omega), up (by omega)]
theorem ins_eq {ak : Nat} {r : List Int32} {X : St} (v : Int32) (hl : r.length < 7) (hA : ArI (sA X ak) r.reverse) : ∃ X2, jCh_insert ak X (nI r.length) v = some X2 ∧ OX ak X X2 ∧ ArI (sA X2 ak) (insR v r).reverse := by
  unfold jCh_insert
  rw [if_neg (nI_pos (by omega)), if_pos (show nI r.length < 7 from nI_lt (b := 7) hl (by omega))]
  obtain ⟨X2, e, s, a, -⟩ := ins_lp r 10 X v hl (by omega) hA
  exact ⟨X2, e, s, a⟩
/-- what each in the tower needs of strength -/
def ndS (h : House) : List Nat → List Int32
  | [] => []
  | m :: t => (lu h m (abv h t) - hg h m 10) :: ndS h t
def stS (h : House) (t : List Nat) : List Int32 := t.map (fun m => hg h m 4)
theorem ndS_len (h : House) : ∀ t, (ndS h t).length = t.length
  | [] => rfl
  | m :: t => by rw [ndS, List.length_cons, List.length_cons, ndS_len h t]
theorem ndS_at (h : House) : ∀ (t : List Nat) (i : Nat) (hi : i < t.length) (h2 : i < (ndS h t).length), (ndS h t)[i] = lu h t[i] (abv h (t.drop (i + 1))) - hg h t[i] 10
  | [], i, hi, _ => absurd hi (by simp)
  | m :: t, 0, _, _ => rfl
  | m :: t, i + 1, hi, h2 => ndS_at h t i (by simpa using hi) (by rw [ndS_len]; simpa using hi)
theorem mn_lp {X : St} {n : Nat} (hn : n ≤ 7) : ∀ (f k : Nat) (v3 : Int32), k ≤ n → n < k + f → (∃ i, i < n ∧ v3 = sA X 7 i - sA X 8 i) → (∀ i, i < k → v3.toInt ≤ (sA X 7 i - sA X 8 i).toInt) → ∃ r, jCh_bestSpare_86 f X (nI n) v3 (nI k) = some (r, X) ∧ (∃ i, i < n ∧ r = sA X 7 i - sA X 8 i) ∧ ∀ i, i < n → r.toInt ≤ (sA X 7 i - sA X 8 i).toInt
  | 0, k, _, _, h, _, _ => absurd h (by omega)
  | f + 1, k, v3, hk, hf, h1, h2 => by
    rw [jCh_bestSpare_86]
    by_cases q : k = n
    · rw [if_pos (nI_le (by omega) (by omega))]
      exact ⟨v3, rfl, h1, fun i hi => h2 i (by omega)⟩
    · rw [if_neg (nI_ge (by omega) (by omega)), if_neg (show ¬ (7 : Int32) ≤ nI k from nI_ge (b := 7) (by omega) (by omega)), if_pos (ibN (by omega) (by omega)), if_pos (ibN (by omega) (by omega)), clN (by omega), nI_1 k]
      have key : ∀ w, (∃ i, i < n ∧ w = sA X 7 i - sA X 8 i) → w.toInt ≤ v3.toInt → w.toInt ≤ (sA X 7 k - sA X 8 k).toInt → ∃ r, jCh_bestSpare_86 f X (nI n) w (nI (k + 1)) = some (r, X) ∧ (∃ i, i < n ∧ r = sA X 7 i - sA X 8 i) ∧ ∀ i, i < n → r.toInt ≤ (sA X 7 i - sA X 8 i).toInt := by
        intro w w1 w2 w3
        refine mn_lp hn f (k + 1) w (by omega) (by omega) w1 (fun i hi => ?_)
        by_cases z : i = k
        · rw [z]; exact w3
        · exact Int.le_trans w2 (h2 i (by omega))
      by_cases z : sA X 7 k - sA X 8 k < v3
      · rw [if_pos z]
        exact key _ ⟨k, by omega, rfl⟩ (by rw [Int32.lt_iff_toInt_lt] at z; omega) (Int.le_refl _)
      · rw [if_neg z]
        exact key _ h1 (Int.le_refl _) (by rw [Int32.lt_iff_toInt_lt] at z; omega)
theorem spare_lp {h : House} {t : List Nat} (T : Tw (hn h) t) (hp : 0 < t.length) : ∀ (f i : Nat) (X : St), HX h X → i ≤ t.length → t.length < i + f → ArI (sA X 7) (srt ((stS h t).take i)).reverse → ArI (sA X 8) (srt ((ndS h t).take i)).reverse → ∃ r X2, jCh_bestSpare_7 f X (enc t) (nI t.length) (nI i) = some (r, X2) ∧ EqX X X2 ∧ (∃ i, i < t.length ∧ r = ((srt (stS h t)).reverse.getD i 0) - ((srt (ndS h t)).reverse.getD i 0)) ∧ ∀ i, i < t.length → r.toInt ≤ (((srt (stS h t)).reverse.getD i 0) - ((srt (ndS h t)).reverse.getD i 0)).toInt
  | 0, i, _, _, _, hf, _, _ => absurd hf (by omega)
  | f + 1, i, X, H, hi, hf, a7, a8 => by
    have h7 := H.1
    have hl := T.len
    have l4 : (stS h t).length = t.length := List.length_map _
    have l8 := ndS_len h t
    rw [jCh_bestSpare_7]
    by_cases q : i = t.length
    · rw [q, List.take_of_length_le (by omega)] at a7 a8
      have g7 : ∀ j, j < t.length → sA X 7 j = (srt (stS h t)).reverse.getD j 0 := by
        intro j hj
        have e : j < (srt (stS h t)).reverse.length := by rw [List.length_reverse, srt_len, l4]; exact hj
        rw [a7 j e]
        exact List.getElem_eq_getD 0
      have g8 : ∀ j, j < t.length → sA X 8 j = (srt (ndS h t)).reverse.getD j 0 := by
        intro j hj
        have e : j < (srt (ndS h t)).reverse.length := by rw [List.length_reverse, srt_len, l8]; exact hj
        rw [a8 j e]
        exact List.getElem_eq_getD 0
      obtain ⟨r, e, ⟨i0, i1, i2⟩, e3⟩ := mn_lp (X := X) (n := t.length) (by omega) 10 1 (sA X 7 0 - sA X 8 0) (by omega) (by omega) ⟨0, hp, rfl⟩ (fun i hi => by rw [show i = 0 by omega]; exact Int.le_refl _)
      refine ⟨r, X, ?_, EqX.rfl, ⟨i0, i1, by rw [← g7 i0 i1, ← g8 i0 i1]; exact i2⟩, fun i hi => by rw [← g7 i hi, ← g8 i hi]; exact e3 i hi⟩
      rw [if_pos (nI_le (by omega) (by omega)), if_pos (by decide), if_pos (by decide)]
      exact e
    · have hi2 : i < t.length := by omega
      have hm := T.2 _ (List.getElem_mem hi2)
      rw [if_neg (nI_ge (by omega) (by omega)), nI_1, memberAt_eq (memn_7 h7 T.2) (by omega), bS, nI_toInt (by omega), if_pos (by omega), show ((i + 1 : Nat) : Int).toNat - 1 = i by omega, getD_get hi2, L_who (by omega), bS, if_pos (by omega), H.2.2.2.1 _ hm 4 (by omega)]
      have n7 : (srt ((stS h t).take i)).length = i := by rw [srt_len, List.length_take]; omega
      have n8 : (srt ((ndS h t).take i)).length = i := by rw [srt_len, List.length_take]; omega
      obtain ⟨X1, e1, s1, b1⟩ := ins_eq (hg h t[i] 4) (by omega) a7
      rw [n7] at e1
      have H1 := H.scr (s1.eq (Or.inl rfl))
      have eld : jCh_loadOn X1 (enc t) (nI t[i]) = some (lu h t[i] (abv h (t.drop (i + 1)))) := by
        have el : t.reverse = (t.drop (i + 1)).reverse ++ t[i] :: (t.take i).reverse := by
          conv => lhs; rw [← List.take_append_drop i t, List.drop_eq_getElem_cons hi2, List.reverse_append, List.reverse_cons]
          rw [List.append_assoc]
          rfl
        have hno : ¬ t[i] ∈ (t.drop (i + 1)).reverse := by
          rw [List.mem_reverse]
          have := T.1
          rw [← List.take_append_drop i t, List.drop_eq_getElem_cons hi2] at this
          exact (List.nodup_cons.mp (List.nodup_append.mp this).2.1).1
        have := L_loadOn H1 (x := t[i]) (by omega) (tw_r T) (by simp; omega)
        rw [el, ldR_in h _ _ _ _ hno, List.reverse_reverse, List.append_nil, ← el] at this
        exact this
      obtain ⟨X2, e2, s2, b2⟩ := ins_eq (X := X1) (lu h t[i] (abv h (t.drop (i + 1))) - hg h t[i] 10) (r := srt ((ndS h t).take i)) (by omega) (by
        rw [s1.2.2.2 8 (by decide)]
        exact a8)
      rw [n8] at e2
      rw [e1, bS, eld, bS, H1.2.2.2.1 _ hm 10 (by omega), e2, bS]
      have t7 : (stS h t).take (i + 1) = (stS h t).take i ++ [hg h t[i] 4] := by
        rw [List.take_succ_eq_append_getElem (by omega)]
        congr 2
        exact List.getElem_map _
      have t8 : (ndS h t).take (i + 1) = (ndS h t).take i ++ [lu h t[i] (abv h (t.drop (i + 1))) - hg h t[i] 10] := by
        rw [List.take_succ_eq_append_getElem (by omega), ndS_at h t i hi2]
      obtain ⟨r, X3, e3, s3, r3⟩ := spare_lp T hp f (i + 1) X2 (H1.scr (s2.eq (Or.inr rfl))) (by omega) (by omega) (by
        rw [t7, srt_snoc, s2.2.2.2 7 (by decide)]
        exact b1) (by
        rw [t8, srt_snoc]
        exact b2)
      exact ⟨r, X3, e3, ((s1.eq (Or.inl rfl)).tr (s2.eq (Or.inr rfl))).tr s3, r3⟩
theorem L_spare {h : House} {X : St} (H : HX h X) {t : List Nat} (T : Tw (hn h) t) (hp : 0 < t.length) : ∃ r X2, jCh_bestSpare X (enc t) = some (r, X2) ∧ EqX X X2 ∧ (∃ i, i < t.length ∧ r = ((srt (stS h t)).reverse.getD i 0) - ((srt (ndS h t)).reverse.getD i 0)) ∧ ∀ i, i < t.length → r.toInt ≤ (((srt (stS h t)).reverse.getD i 0) - ((srt (ndS h t)).reverse.getD i 0)).toInt := by
  unfold jCh_bestSpare
  rw [L_size2 H.1 T, bS]
  exact spare_lp T hp 10 0 X H (by omega) (by have := T.len; have := H.1; omega) (fun k hk => absurd hk (by simp [srt])) (fun k hk => absurd hk (by simp [srt]))
