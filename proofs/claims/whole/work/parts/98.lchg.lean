/-! chairs changed about: the best of all orders -/
theorem abv_nat {h : House} (O : Ok h) : ∀ t : List Nat, memn (hn h) t → ∃ a, a ≤ 19 * t.length ∧ abv h t = nI a
  | [], _ => ⟨0, by simp, rfl⟩
  | m :: t, ht => by
    obtain ⟨h1, h2⟩ := memn_c.mp ht
    obtain ⟨a, a1, a2⟩ := abv_nat O t h2
    obtain ⟨-, ⟨w, w1, w2, w3⟩, -, -, -, -, -, -, w9, -⟩ := O m h1
    have : ∃ b, b ≤ 18 ∧ hg h m 9 = nI b := by
      rw [w9, w3]
      by_cases q : hg h m 0 = 1
      · rw [if_pos q]
        exact ⟨2 * w, by omega, pk_mul 2 w⟩
      · rw [if_neg q]
        exact ⟨w, by omega, rfl⟩
    obtain ⟨b, b1, b2⟩ := this
    refine ⟨a + (b + 1), by rw [List.length_cons]; omega, ?_⟩
    rw [abv, a2, b2, nI_1, nI_add]
theorem nd_int {h : House} (O : Ok h) {t : List Nat} (ht : memn (hn h) t) (hl : t.length ≤ 7) {i : Nat} (hi : i < t.length) : ∃ a b, a ≤ 1000 ∧ b ≤ 10 ∧ lu h t[i] (abv h (t.drop (i + 1))) - hg h t[i] 10 = nI a - nI b := by
  have hm := ht _ (List.getElem_mem hi)
  obtain ⟨a, a1, a2⟩ := abv_nat O (t.drop (i + 1)) (fun m hm => ht m (List.mem_of_mem_drop hm))
  have a3 : a ≤ 19 * 7 := by rw [List.length_drop] at a1; omega
  have : ∃ c, c ≤ 1000 ∧ lu h t[i] (abv h (t.drop (i + 1))) = nI c := by
    rw [lu, a2]
    by_cases q : hg h t[i] 8 = 0
    · rw [if_pos q]; exact ⟨a, by omega, rfl⟩
    · rw [if_neg q, nI_1]
      exact ⟨(a + 1) / 2, by omega, pk_div (d := 2) (by omega) (by omega) (by omega)⟩
  obtain ⟨c, c1, c2⟩ := this
  rw [c2, (O _ hm).2.2.2.2.2.2.2.2.2.1]
  split
  · exact ⟨c, 10, c1, by omega, rfl⟩
  · exact ⟨c, 0, c1, by omega, rfl⟩
theorem st_int {h : House} (O : Ok h) {m : Nat} (hm : m < hn h) : ∃ k, k ≤ 99 ∧ hg h m 4 = nI k := (O m hm).2.2.2.2.1
theorem sub_int {a b k : Nat} (ha : a ≤ 1000) (hb : b ≤ 10) (hk : k ≤ 99) : (nI a - nI b).toInt = (a : Int) - b ∧ (nI k - (nI a - nI b)).toInt = (k : Int) - ((a : Int) - b) := by
  have e1 : (nI a - nI b).toInt = (a : Int) - b := pk_sub_toInt (by omega) (by omega)
  refine ⟨e1, ?_⟩
  have e2 : nI k - (nI a - nI b) = nI (k + b) - nI a := by
    rw [← nI_add]
    grind
  rw [e2, pk_sub_toInt (by omega) (by omega)]
  omega
theorem stS_at (h : House) (t : List Nat) (i : Nat) (hi : i < t.length) (h2 : i < (stS h t).length) : (stS h t)[i] = hg h t[i] 4 := List.getElem_map _
/-- strengths and needs as whole numbers -/
def svI (h : House) (t : List Nat) (i : Nat) : Int := ((stS h t).getD i 0).toInt
def dvI (h : House) (t : List Nat) (i : Nat) : Int := ((ndS h t).getD i 0).toInt
def chE (h : House) (t l : List Nat) (i : Nat) : Int := svI h t (l.getD i 0) - dvI h t i
theorem ch_bd {h : House} (O : Ok h) {t : List Nat} (ht : memn (hn h) t) (hl : t.length ≤ 7) : (∀ i, i < t.length → 0 ≤ svI h t i ∧ svI h t i ≤ 99) ∧ (∀ i, i < t.length → -10 ≤ dvI h t i ∧ dvI h t i ≤ 1000) := by
  have l4 : (stS h t).length = t.length := List.length_map _
  have l8 := ndS_len h t
  constructor
  · intro i hi
    obtain ⟨k, k1, k2⟩ := st_int O (ht _ (List.getElem_mem hi))
    have : svI h t i = k := by
      unfold svI
      rw [← List.getElem_eq_getD (h := by omega) 0, stS_at h t i hi (by omega), k2, nI_toInt (by omega)]
    omega
  · intro i hi
    obtain ⟨a, b, a1, b1, e⟩ := nd_int O ht hl hi
    have : dvI h t i = (a : Int) - b := by
      unfold dvI
      rw [← List.getElem_eq_getD (h := by omega) 0, ndS_at h t i hi (by omega), e, (sub_int a1 b1 (k := 0) (by omega)).1]
    omega
theorem M_one {h : House} (O : Ok h) {Y : St} (K : HY h Y) {t : List Nat} (T : Tw (hn h) t) (e14 : sF Y 14 = nI t.length) (a6 : Arr (sA Y 6) t) {l : List Nat} (hp : l.Perm (List.range t.length)) (a11 : Arr (sA Y 11) l) {i : Nat} (hi : i < t.length) : ∃ x : Int32, x.toInt = chE h t l i ∧ ∀ N k37 n v1 v3, jM_changedOf_47 N k37 (n + 1) Y v1 v3 (nI i) = jM_changedOf_47 N k37 n Y v1 (if v3 ≤ x then v3 else x) (nI (i + 1)) := by
  have h7 := K.1
  have hl := T.len
  have ll := hp.length_eq
  rw [List.length_range] at ll
  have hm := T.2 _ (List.getElem_mem hi)
  have hil : i < l.length := by omega
  have hj : l[i] < t.length := List.mem_range.mp (hp.subset (List.getElem_mem hil))
  have hm2 := T.2 _ (List.getElem_mem hj)
  have b1 := M_k K hm (k := 4) (by omega) 4 rfl
  have b2 := M_k K hm2 (k := 4) (by omega) 4 rfl
  have l4 : (stS h t).length = t.length := List.length_map _
  have l8 := ndS_len h t
  refine ⟨((hb h t[i] - hg h t[i] 4) + hg h t[l[i]] 4) - lu h t[i] (abv h (t.drop (i + 1))), ?_, fun N k37 n v1 v3 => ?_⟩
  · obtain ⟨a, b, a1, b1, e⟩ := nd_int O T.2 (by omega) hi
    obtain ⟨k, k1, k2⟩ := st_int O hm2
    have e3 : svI h t (l.getD i 0) = k := by
      unfold svI
      rw [getD_get hil, ← List.getElem_eq_getD (h := by omega) 0, stS_at h t _ hj (by omega), k2, nI_toInt (by omega)]
    have e4 : dvI h t i = (a : Int) - b := by
      unfold dvI
      rw [← List.getElem_eq_getD (h := by omega) 0, ndS_at h t i hi (by omega), e, (sub_int a1 b1 (k := 0) (by omega)).1]
    unfold chE
    rw [e3, e4, ← (sub_int a1 b1 k1).2, ← e, ← k2]
    congr 1
    unfold hb
    grind
  · have eb : sF Y 14 = nI t.length := e14
    rw [jM_changedOf_47, e14, if_neg (nI_ge hi (by omega)), if_pos (ibN (by omega) (by omega)), clN (by omega), a6 i hi, if_pos b1.1, b1.2, M_canBear O K hm, bS, if_pos (ibN (by omega) (by omega)), a11 i hil, if_pos (ibN (by omega) (by omega)), if_pos (ibN (by omega) (by omega)), clN (by omega), a6 _ hj, if_pos b2.1, b2.2, M_bears O K T.2 (by omega) a6 hi, bS]
    unfold jM_changedOf_141
    rw [nI_1]
    split <;> rfl
theorem M_in {h : House} (O : Ok h) {Y : St} (K : HY h Y) {t : List Nat} (T : Tw (hn h) t) (e14 : sF Y 14 = nI t.length) (a6 : Arr (sA Y 6) t) {l : List Nat} (hp : l.Perm (List.range t.length)) (a11 : Arr (sA Y 11) l) : ∀ (f k : Nat) (v3 : Int32), k ≤ t.length → t.length < k + f → ∃ r : Int32, (∀ N k37 v1, jM_changedOf_47 N k37 f Y v1 v3 (nI k) = jM_changedOf_158 N k37 Y (if r ≤ v1 then v1 else r)) ∧ r.toInt ≤ v3.toInt ∧ (∀ i, k ≤ i → i < t.length → r.toInt ≤ chE h t l i) ∧ (r = v3 ∨ ∃ i, i < t.length ∧ r.toInt = chE h t l i)
  | 0, k, _, _, hf => absurd hf (by omega)
  | f + 1, k, v3, hk, hf => by
    have h7 := K.1
    have hl := T.len
    by_cases q : k = t.length
    · refine ⟨v3, fun N k37 v1 => ?_, Int.le_refl _, fun i h1 h2 => by omega, Or.inl rfl⟩
      rw [jM_changedOf_47, e14, if_pos (nI_le (by omega) (by omega))]
      split <;> rfl
    · obtain ⟨x, x1, x2⟩ := M_one O K T e14 a6 hp a11 (i := k) (by omega)
      obtain ⟨r, r1, r2, r3, r4⟩ := M_in O K T e14 a6 hp a11 f (k + 1) (if v3 ≤ x then v3 else x) (by omega) (by omega)
      refine ⟨r, fun N k37 v1 => (x2 N k37 f v1 v3).trans (r1 N k37 v1), ?_, fun i h1 h2 => ?_, ?_⟩
      · refine Int.le_trans r2 ?_
        split
        · exact Int.le_refl _
        · rename_i z; rw [Int32.le_iff_toInt_le] at z; omega
      · by_cases z : i = k
        · rw [z, ← x1]
          refine Int.le_trans r2 ?_
          split
          · rename_i z; rw [Int32.le_iff_toInt_le] at z; exact z
          · exact Int.le_refl _
        · exact r3 i (by omega) h2
      · rcases r4 with r4 | r4
        · by_cases z : v3 ≤ x
          · rw [if_pos z] at r4; exact Or.inl r4
          · rw [if_neg z] at r4; exact Or.inr ⟨k, by omega, by rw [r4, x1]⟩
        · exact Or.inr r4
theorem M_out {h : House} (O : Ok h) {t : List Nat} (T : Tw (hn h) t) (h7 : hn h ≤ 7) (hpos : 0 < t.length) : ∀ (g k : Nat) (Y : St) (v1 : Int32), k + g = ft t.length → 0 < g → HY h Y → sF Y 14 = nI t.length → Arr (sA Y 6) t → Arr (sA Y 11) (pm t.length (List.range t.length) k) → ∃ (r : Int32) (Y2 : St), (∀ N f, jM_changedOf_37 N (f + g + 1) Y v1 1 = some (r, Y2)) ∧ OA Y Y2 ∧ v1.toInt ≤ r.toInt ∧ (∀ j, k ≤ j → j < ft t.length → ∃ i, i < t.length ∧ chE h t (pm t.length (List.range t.length) j) i ≤ r.toInt) ∧ (r = v1 ∨ ∃ j, j < ft t.length ∧ ∀ i, i < t.length → r.toInt ≤ chE h t (pm t.length (List.range t.length) j) i)
  | 0, k, _, _, _, h0, _, _, _, _ => absurd h0 (by omega)
  | g + 1, k, Y, v1, hk, _, K, e14, a6, a11 => by
    have hl := T.len
    have hkf : k < ft t.length := by omega
    have hp := pm_perm t.length (List.range t.length) k List.length_range hkf
    obtain ⟨bs, bd⟩ := ch_bd O T.2 (by omega)
    obtain ⟨r, r1, r2, r3, r4⟩ := M_in O K T e14 a6 hp a11 10 0 100000 (by omega) (by omega)
    have e0 : (100000 : Int32).toInt = 100000 := rfl
    have r5 : ∃ i, i < t.length ∧ chE h t (pm t.length (List.range t.length) k) i ≤ r.toInt := by
      rcases r4 with r4 | ⟨i, i1, i2⟩
      · refine ⟨0, hpos, ?_⟩
        have ll := hp.length_eq
        rw [List.length_range] at ll
        have hj : (pm t.length (List.range t.length) k).getD 0 0 < t.length := by
          rw [getD_get (by omega)]
          exact List.mem_range.mp (hp.subset (List.getElem_mem _))
        have := bs _ hj
        have := bd 0 hpos
        rw [r4, e0]
        unfold chE
        omega
      · exact ⟨i, i1, by omega⟩
    have go : ∀ N f v, jM_changedOf_37 N (f + 1) Y v 1 = jM_changedOf_158 N (jM_changedOf_37 N f) Y (if r ≤ v then v else r) := by
      intro N f v
      rw [jM_changedOf_37, if_neg (by decide)]
      exact r1 N _ v
    have w1 : v1.toInt ≤ (if r ≤ v1 then v1 else r).toInt := by
      split
      · exact Int.le_refl _
      · rename_i z; rw [Int32.le_iff_toInt_le] at z; omega
    have w2 : r.toInt ≤ (if r ≤ v1 then v1 else r).toInt := by
      split
      · rename_i z; rw [Int32.le_iff_toInt_le] at z; exact z
      · exact Int.le_refl _
    have w3 : (if r ≤ v1 then v1 else r) = v1 ∨ (if r ≤ v1 then v1 else r) = r := by
      split
      · exact Or.inl rfl
      · exact Or.inr rfl
    have r6 : ∃ i, i < t.length ∧ chE h t (pm t.length (List.range t.length) k) i ≤ (if r ≤ v1 then v1 else r).toInt := by
      obtain ⟨i, i1, i2⟩ := r5
      exact ⟨i, i1, Int.le_trans i2 w2⟩
    have r7 : ∀ i, i < t.length → r.toInt ≤ chE h t (pm t.length (List.range t.length) k) i := fun i hi => r3 i (by omega) hi
    rcases next_pm hpos (by omega) hkf e14 a11 with ⟨n1, n2⟩ | ⟨n1, Y1, n2, s, b11⟩
    · refine ⟨if r ≤ v1 then v1 else r, Y, fun N f => ?_, OA.rf, w1, fun j h1 h2 => ?_, ?_⟩
      · rw [show f + (g + 1) + 1 = f + g + 1 + 1 by omega, go]
        unfold jM_changedOf_158
        rw [n2, bS]
        dsimp only
        rw [jM_changedOf_37, if_pos rfl, e14, if_neg (nI_ne0 hpos (by omega))]
      · rw [show j = k by omega]; exact r6
      · rcases w3 with w3 | w3
        · exact Or.inl w3
        · refine Or.inr ⟨k, hkf, fun i hi => ?_⟩
          rw [w3]; exact r7 i hi
    · obtain ⟨r8, Y2, q1, q2, q3, q4, q5⟩ := M_out O T h7 hpos g (k + 1) Y1 (if r ≤ v1 then v1 else r) (by omega) (by omega) (K.scr s.eq) ((s.1 14).trans e14) (by rw [s.2.1 6 (by decide)]; exact a6) b11
      refine ⟨r8, Y2, fun N f => ?_, s.tr q2, Int.le_trans w1 q3, fun j h1 h2 => ?_, ?_⟩
      · rw [show f + (g + 1) + 1 = f + g + 1 + 1 by omega, go]
        unfold jM_changedOf_158
        rw [n2, bS]
        exact q1 N f
      · by_cases z : j = k
        · obtain ⟨i, i1, i2⟩ := r6
          exact ⟨i, i1, by rw [z]; exact Int.le_trans i2 q3⟩
        · exact q4 j (by omega) h2
      · rcases q5 with q5 | q5
        · rcases w3 with w3 | w3
          · exact Or.inl (q5.trans w3)
          · refine Or.inr ⟨k, hkf, fun i hi => ?_⟩
            rw [q5, w3]; exact r7 i hi
        · exact Or.inr q5
theorem ft_z : ft 0 = 1 := rfl
theorem pm_z : ∀ (n : Nat) (s : List Nat), s.length = n → pm n s 0 = s
  | 0, s, h => (List.length_eq_zero_iff.mp h).symm
  | n + 1, [], h => by simp at h
  | n + 1, a :: s, h => by
    rw [pm, Nat.zero_div, Nat.zero_mod]
    show a :: pm n ((a :: s).erase a) 0 = _
    rw [List.erase_cons_head, pm_z n s (by simpa using h)]
theorem fill_lp : ∀ (f k : Nat) (Y : St), k ≤ 7 → 7 < k + f → (∀ i, i < k → sA Y 11 i = nI i) → ∃ Y2, (∀ N, jM_changedOf_2 N f Y (nI k) = if sF Y 14 ≤ 0 then jM_changedOf_36 N Y2 (-100000) 0 else jM_changedOf_36 N Y2 (-100000) 1) ∧ OA Y Y2 ∧ ∀ i, i < 7 → sA Y2 11 i = nI i
  | 0, k, _, _, hf, _ => absurd hf (by omega)
  | f + 1, k, Y, hk, hf, hd => by
    by_cases q : k = 7
    · refine ⟨Y, fun N => ?_, OA.rf, fun i hi => hd i (by omega)⟩
      rw [jM_changedOf_2, if_pos (show (7 : Int32) ≤ nI k from nI_le (a := 7) (by omega) (by omega))]
    · obtain ⟨Y2, e, s, r⟩ := fill_lp f (k + 1) (pA Y 11 k (nI k)) (by omega) (by omega) (fun i hi => by
        show (if i = k then _ else _) = _
        by_cases z : i = k
        · rw [if_pos z, z]
        · rw [if_neg z]; exact hd i (by omega))
      refine ⟨Y2, fun N => ?_, (OA.A _ _).tr s, r⟩
      rw [jM_changedOf_2, if_neg (show ¬ (7 : Int32) ≤ nI k from nI_ge (b := 7) (by omega) (by omega)), if_pos (ibN (by omega) (by omega)), clN (by omega), nI_1 k]
      exact e N
theorem mapD {α : Type} (l : List α) (d : α) (f : α → Int) : l.map f = (List.range l.length).map (fun i => f (l.getD i d)) := by
  apply List.ext_getElem
  · simp
  · intro i h1 h2
    rw [List.getElem_map, List.getElem_map, List.getElem_range, ← List.getElem_eq_getD (h := by simpa using h1) d]
theorem chg_eq {h : House} {X Y : St} (O : Ok h) (H : HX h X) (K : HY h Y) {t : List Nat} (T : Tw (hn h) t) (tx : sF X 6 = enc t) (e14 : sF Y 14 = nI t.length) (a6 : Arr (sA Y 6) t) : ∃ (N : Nat) (r : Int32) (X2 Y2 : St), jT_changed X = some (r, X2) ∧ jM_changedOf N Y = some (r, Y2) ∧ EqX X X2 ∧ OA Y Y2 := by
  have h7 := H.1
  have hl := T.len
  obtain ⟨Y1, e1, s1, f1⟩ := fill_lp 10 0 Y (by omega) (by omega) (fun i hi => absurd hi (by omega))
  unfold jT_changed jM_changedOf
  rw [tx]
  by_cases q : t = []
  · subst q
    refine ⟨2, -1, X, Y1, by rw [if_pos (by decide)], ?_, EqX.rfl, s1⟩
    rw [show (0 : Int32) = nI 0 from rfl, e1, e14, if_pos (by decide)]
    unfold jM_changedOf_36
    rw [jM_changedOf_37, if_pos rfl, s1.1, e14, if_pos (by decide)]
  · have hpos := List.length_pos_iff.mpr q
    have l4 : (stS h t).length = t.length := List.length_map _
    have l8 := ndS_len h t
    obtain ⟨r, X2, x1, x2, ⟨i0, i1, i2⟩, x3⟩ := L_spare H T hpos
    obtain ⟨r2, Y2, y1, y2, y3, y4, y5⟩ := M_out O T h7 hpos (ft t.length) 0 Y1 (-100000) (by omega) (ft_pos _) (K.scr s1.eq) ((s1.1 14).trans e14) (by rw [s1.2.1 6 (by decide)]; exact a6) (by
      rw [pm_z _ _ List.length_range]
      intro k hk
      rw [List.getElem_range]
      exact f1 k (by rw [List.length_range] at hk; omega))
    obtain ⟨bs, bd⟩ := ch_bd O T.2 (by omega)
    have em : (-100000 : Int32).toInt = -100000 := rfl
    have perm_at : ∀ j, j < ft t.length → ∀ i, i < t.length → (pm t.length (List.range t.length) j).getD i 0 < t.length := by
      intro j hj i hi
      have hp := pm_perm t.length (List.range t.length) j List.length_range hj
      have ll := hp.length_eq
      rw [List.length_range] at ll
      rw [getD_get (by omega)]
      exact List.mem_range.mp (hp.subset (List.getElem_mem _))
    have y6 : ∃ j, j < ft t.length ∧ ∀ i, i < t.length → r2.toInt ≤ chE h t (pm t.length (List.range t.length) j) i := by
      rcases y5 with y5 | y5
      · obtain ⟨i, j1, j2⟩ := y4 0 (by omega) (ft_pos _)
        have := bs _ (perm_at 0 (ft_pos _) i j1)
        have := bd i j1
        rw [y5, em] at j2
        unfold chE at j2
        omega
      · exact y5
    -- rows of whole numbers
    have eS : (stS h t).map Int32.toInt = (List.range t.length).map (svI h t) := by
      rw [mapD _ 0, l4]
      rfl
    have eD : (ndS h t).map Int32.toInt = (List.range t.length).map (dvI h t) := by
      rw [mapD _ 0, l8]
      rfl
    have pS := srt_upP (stS h t)
    have pD := srt_upP (ndS h t)
    have oS := srt_up (stS h t)
    have oD := srt_up (ndS h t)
    have lS : ((srt (stS h t)).reverse.map Int32.toInt).length = t.length := by rw [List.length_map, List.length_reverse, srt_len, l4]
    have lD : ((srt (ndS h t)).reverse.map Int32.toInt).length = t.length := by rw [List.length_map, List.length_reverse, srt_len, l8]
    have nS : ∀ i, i < t.length → i < (srt (stS h t)).reverse.length := fun i hi => by rw [List.length_map] at lS; omega
    have nD : ∀ i, i < t.length → i < (srt (ndS h t)).reverse.length := fun i hi => by rw [List.length_map] at lD; omega
    have dif : ∀ i (hi : i < t.length), (((srt (stS h t)).reverse.getD i 0) - ((srt (ndS h t)).reverse.getD i 0)).toInt = ((srt (stS h t)).reverse.map Int32.toInt)[i]'(by omega) - ((srt (ndS h t)).reverse.map Int32.toInt)[i]'(by omega) := by
      intro i hi
      have z1 : (srt (stS h t)).reverse[i]'(nS i hi) ∈ stS h t := (srt_perm _).subset (List.mem_reverse.mp (List.getElem_mem _))
      have z2 : (srt (ndS h t)).reverse[i]'(nD i hi) ∈ ndS h t := (srt_perm _).subset (List.mem_reverse.mp (List.getElem_mem _))
      obtain ⟨a, a1, a2⟩ := List.mem_iff_getElem.mp z1
      obtain ⟨b, b1, b2⟩ := List.mem_iff_getElem.mp z2
      rw [← List.getElem_eq_getD (h := nS i hi) 0, ← List.getElem_eq_getD (h := nD i hi) 0, List.getElem_map, List.getElem_map, ← a2, ← b2, ndS_at h t b (by omega)]
      obtain ⟨k, k1, k2⟩ := st_int O (T.2 _ (List.getElem_mem (show a < t.length by omega)))
      obtain ⟨c, d, c1, d1, e⟩ := nd_int O T.2 (by omega) (show b < t.length by omega)
      have e5 : (stS h t)[a] = nI k := by rw [stS_at h t a (by omega), k2]
      rw [e5, e, (sub_int c1 d1 k1).2, (sub_int c1 d1 k1).1, nI_toInt (by omega)]
    have le1 : r2.toInt ≤ r.toInt := by
      obtain ⟨j, j1, j2⟩ := y6
      have hp := pm_perm t.length (List.range t.length) j List.length_range j1
      have ll := hp.length_eq
      rw [List.length_range] at ll
      have R : Rl r2.toInt ((List.range t.length).map (dvI h t)) ((pm t.length (List.range t.length) j).map (svI h t)) := by
        refine Rl_of (by simp [ll]) (fun i h1 h2 => ?_)
        have hi : i < t.length := by simpa using h1
        have := j2 i hi
        unfold chE at this
        rw [List.getElem_map, List.getElem_map, List.getElem_range]
        rw [getD_get (by omega)] at this
        omega
      have := Rl_sort R ((by rw [← eD]; exact pD.symm : ((List.range t.length).map (dvI h t)).Perm ((srt (ndS h t)).reverse.map Int32.toInt))) ((hp.map (svI h t)).trans (by rw [← eS]; exact pS.symm)) oD oS i0 (by omega) (by omega)
      rw [i2, dif i0 i1]
      omega
    have le2 : r.toInt ≤ r2.toInt := by
      have R : Rl r.toInt ((srt (ndS h t)).reverse.map Int32.toInt) ((srt (stS h t)).reverse.map Int32.toInt) := by
        refine Rl_of (by omega) (fun i h1 h2 => ?_)
        have := x3 i (by omega)
        rw [dif i (by omega)] at this
        omega
      obtain ⟨A2, p1, p2⟩ := Rl_perm (by rw [← eD]; exact pD : ((srt (ndS h t)).reverse.map Int32.toInt).Perm ((List.range t.length).map (dvI h t))) _ R
      obtain ⟨g, g1, g2⟩ := map_perm (p1.trans (by rw [← eS]; exact pS : ((srt (stS h t)).reverse.map Int32.toInt).Perm ((List.range t.length).map (svI h t)))) (List.range t.length) rfl
      obtain ⟨j, j1, j2⟩ := pm_surj t.length (List.range t.length) g List.length_range g1
      obtain ⟨i, k1, k2⟩ := y4 j (by omega) j1
      rw [j2] at k2
      have ll := g1.length_eq
      rw [List.length_range] at ll
      rw [g2] at p2
      have := Rl_at p2 i (by simpa using k1) (by rw [List.length_map]; omega)
      rw [List.getElem_map, List.getElem_map, List.getElem_range] at this
      unfold chE at k2
      rw [getD_get (by omega)] at k2
      omega
    have er : r = r2 := Int32.toInt_inj.mp (by omega)
    refine ⟨ft t.length + 1, r, X2, Y2, ?_, ?_, x2, s1.tr y2⟩
    · rw [if_neg (enc_ne (memn_7 h7 T.2) (by omega) q), x1, bS]
    · rw [show (0 : Int32) = nI 0 from rfl, e1, e14, if_neg (show ¬ nI t.length ≤ 0 from nI_nle hpos (by omega)), er]
      unfold jM_changedOf_36
      have := y1 (ft t.length + 1) 0
      rw [Nat.zero_add] at this
      exact this
theorem op_changed : Op_changed Rel := by
  intro X Y hr
  obtain ⟨h, t, pg, hr⟩ := hr
  obtain ⟨⟨O, H, K, F⟩, ⟨T, tx, ty, ta⟩, -⟩ := id hr
  obtain ⟨N, r, X2, Y2, e1, e2, ex, ey⟩ := chg_eq O H K T tx ty ta
  refine ⟨N, r, X2, Y2, e1, ?_, h, t, pg, hr.scr ex ey.eq⟩
  unfold jM_changed
  rw [e2, bS]
