/-! a debate walked: who rises, the nails, the shaken -/
def SZ (Y Y2 : St) : Prop := (∀ q, q ≠ 18 → sF Y2 q = sF Y q) ∧ ∀ a, a ≠ 7 → sA Y2 a = sA Y a
theorem SZ.rf {Y : St} : SZ Y Y := ⟨fun _ _ => rfl, fun _ _ => rfl⟩
theorem SZ.tr {X X2 X3 : St} (a : SZ X X2) (b : SZ X2 X3) : SZ X X3 := ⟨fun q h1 => (b.1 q h1).trans (a.1 q h1), fun i h => (b.2 i h).trans (a.2 i h)⟩
theorem SZ.F {Y : St} (v : Int32) : SZ Y (pF Y 18 v) := ⟨fun q h1 => by rw [sF_pF, if_neg h1], fun _ _ => rfl⟩
theorem SZ.A {Y : St} (j : Nat) (v : Int32) : SZ Y (pA Y 7 j v) := ⟨fun _ _ => rfl, fun a h => by rw [sA_pA, if_neg h]⟩
theorem SZ.eq {Y Y2 : St} (s : SZ Y Y2) : EqY Y Y2 :=
  ⟨⟨s.1 _ (by decide), s.1 _ (by decide), s.1 _ (by decide), s.1 _ (by decide), s.1 _ (by decide)⟩, ⟨s.1 _ (by decide), s.1 _ (by decide), s.1 _ (by decide), s.1 _ (by decide), s.1 _ (by decide)⟩, ⟨s.2 _ (by decide), s.2 _ (by decide), s.2 _ (by decide), s.2 _ (by decide)⟩, ⟨s.2 _ (by decide), s.2 _ (by decide), s.2 _ (by decide)⟩⟩
theorem memberAt_k {v : List Nat} (hv : VT v) {k : Nat} (hk : k < v.length) : jRo_memberAt (enc v) (nI (k + 1)) = some (nI v[k]) := by
  have := hv.len
  rw [memberAt_eq hv.2 (by omega), nI_toInt (by omega), if_pos (by omega)]
  simp [hk]
theorem M_rises {h : House} (O : Ok h) {Y : St} (K : HY h Y) {u : List Nat} {m : Nat} (T : Tw (hn h) (u ++ [m])) (e18 : sF Y 18 = nI u.length) (hA : Arr (sA Y 7) u) : ∃ Y2, jM_rises Y (nI m) = some (bI (!stands h (u ++ [m])), Y2) ∧ SZ Y Y2 ∧ sF Y2 18 = (if stands h (u ++ [m]) = true then nI (u ++ [m]).length else 0) ∧ Arr (sA Y2 7) (u ++ [m]) := by
  have h7 := K.1
  have hl := T.len
  have hl3 : (u ++ [m]).length = u.length + 1 := by simp
  unfold jM_rises
  rw [e18, if_pos (ibN (by omega) (by omega)), clN (by omega), show sF (pA Y 7 u.length (nI m)) 18 = nI u.length from e18, nI_1, show sF (pF (pA Y 7 u.length (nI m)) 18 (nI (u.length + 1))) 18 = nI (u ++ [m]).length by rw [hl3]; rfl]
  have s1 : SZ Y (pF (pA Y 7 u.length (nI m)) 18 (nI (u.length + 1))) := (SZ.A _ _).tr (SZ.F _)
  have A2 : Arr (sA (pF (pA Y 7 u.length (nI m)) 18 (nI (u.length + 1))) 7) (u ++ [m]) := Arr_push hA m
  rw [M_holds O (K.scr s1.eq) T.2 (by omega) A2, bS]
  cases hs : stands h (u ++ [m]) with
  | true =>
    rw [if_neg (by decide), if_pos rfl, hl3]
    exact ⟨_, rfl, s1.tr (SZ.F _), rfl, A2⟩
  | false =>
    rw [if_pos (by decide), if_neg (by decide)]
    exact ⟨_, rfl, s1.tr (SZ.F _), rfl, A2⟩
def dbS (h : House) (a : Int32) : List Nat → List Nat → Nat → Int32
  | [], u, _ => if a = 0 then 0 else billS h u
  | m :: v, u, i => if mayS h u m = true then (if stands h (u ++ [m]) = true then dbS h a v (u ++ [m]) (i + 1) else if a = 0 then nI i else 0) else dbS h a v u (i + 1)
theorem L_debate_lp {h : House} {X : St} (H : HX h X) {v : List Nat} (hv : VT v) (hm : memn (hn h) v) (a : Int32) : ∀ (f k : Nat) (u : List Nat), Tw (hn h) u → k ≤ v.length → v.length < k + f → jT_debate_29 f X a (enc v) (enc u) (nI (k + 1)) = some (dbS h a (v.drop k) u (k + 1), X)
  | 0, k, u, _, _, h2 => absurd h2 (by omega)
  | f + 1, k, u, T, hk, h2 => by
    have h7 := H.1
    have hv7 := hv.len
    rw [jT_debate_29, L_size2 (Nat.le_refl 7) hv, bS]
    by_cases q : k = v.length
    · rw [if_pos (nI_lt (by omega) (by omega)), L_bill2 H T, bS, q, List.drop_length, dbS]
      split <;> rfl
    · have hk2 : k < v.length := by omega
      have hm2 := hm _ (List.getElem_mem hk2)
      have key : ∀ u, Tw (hn h) u → jT_debate_85 (jT_debate_29 f) X a (enc v) (enc u) (nI (k + 1)) = some (dbS h a (v.drop (k + 1)) u (k + 1 + 1), X) := by
        intro u T
        unfold jT_debate_85
        rw [nI_1, L_debate_lp H hv hm a f (k + 1) u T (by omega) (by omega)]
      rw [if_neg (nI_nlt (by omega) (by omega)), memberAt_k hv hk2, bS, L_canRise2 H T (by omega), bS, List.drop_eq_getElem_cons hk2, dbS]
      generalize v[k] = m at hm2
      by_cases q1 : mayS h u m = true
      · have T2 := T.push hm2 (mayS_iff q1).2
        rw [if_neg (bI_ne q1), if_pos q1, L_risen2 H T2, bS]
        by_cases q2 : stands h (u ++ [m]) = true
        · rw [if_pos q2, if_pos q2, if_neg (enc_ne (memn_7 h7 T2.2) (by have := T2.len; omega) (by simp))]
          exact key _ T2
        · rw [if_neg q2, if_neg q2, if_pos rfl]
          split <;> rfl
      · rw [if_pos (bI_eq (Bool.eq_false_iff.mpr q1)), if_neg q1]
        exact key u T
theorem M_debate_lp {h : House} (O : Ok h) {v : List Nat} (hv : VT v) (hm : memn (hn h) v) (a : Int32) : ∀ (f k : Nat) (Y : St) (u : List Nat), HY h Y → sF Y 11 = nI v.length → Arr (sA Y 4) v → Tw (hn h) u → sF Y 18 = nI u.length → Arr (sA Y 7) u → k ≤ v.length → v.length < k + f → ∃ Y2, jM_debate_32 f Y a 0 (nI k) = some (dbS h a (v.drop k) u (k + 1), Y2) ∧ SZ Y Y2
  | 0, k, _, u, _, _, _, _, _, _, _, h2 => absurd h2 (by omega)
  | f + 1, k, Y, u, K, e11, ha, T, e18, hA, hk, h2 => by
    have h7 := K.1
    have hv7 := hv.len
    have hu := T.len
    have fin : jM_debate_96 Y a 0 = some (if a = 0 then 0 else billS h u, Y) := by
      unfold jM_debate_96
      rw [e18, M_bill K T.2 (by omega) hA, bS]
      split <;> rfl
    rw [jM_debate_32, e11]
    by_cases q : k = v.length
    · rw [if_pos (nI_le (by omega) (by omega)), q, List.drop_length, dbS]
      exact ⟨Y, fin, SZ.rf⟩
    · have hk2 : k < v.length := by omega
      have hm2 := hm _ (List.getElem_mem hk2)
      rw [if_neg (nI_ge (by omega) (by omega)), if_pos rfl, if_pos (ibN (by omega) (by omega)), clN (by omega), ha k hk2, e18, M_mayRise2 K T.2 (by omega) hA hm2, bS, List.drop_eq_getElem_cons hk2, dbS]
      generalize v[k] = m at hm2
      by_cases q1 : mayS h u m = true
      · have T2 := T.push hm2 (mayS_iff q1).2
        obtain ⟨Y2, e, s2, e18b, hA2⟩ := M_rises O K T2 e18 hA
        have s2' := s2
        have K2 := K.scr s2.eq
        rw [if_neg (bI_ne q1), if_pos q1, if_pos (ibN (by omega) (by omega)), e, bS]
        dsimp only
        by_cases q2 : stands h (u ++ [m]) = true
        · rw [if_pos q2] at e18b
          rw [q2, if_pos (by decide), if_pos rfl]
          unfold jM_debate_89 jM_debate_90
          rw [nI_1]
          obtain ⟨Y3, e3, s3⟩ := M_debate_lp O hv hm a f (k + 1) Y2 (u ++ [m]) K2 ((s2.1 11 (by decide)).trans e11) (by rw [s2.2 4 (by decide)]; exact ha) T2 e18b hA2 (by omega) (by omega)
          exact ⟨Y3, e3, s2.tr s3⟩
        · rw [if_neg q2] at e18b
          rw [Bool.eq_false_iff.mpr q2, if_neg (by decide), if_neg (by decide)]
          unfold jM_debate_89 jM_debate_90
          rw [nI_1]
          obtain ⟨f, rfl⟩ : ∃ g, f = g + 1 := ⟨f - 1, by omega⟩
          rw [jM_debate_32, if_neg (nI_ne0 (by omega) (by omega)), ite_self]
          unfold jM_debate_96
          rw [e18b, show (0 : Int32) = nI ([] : List Nat).length from rfl, M_bill K2 (t := []) (fun _ h => by simp at h) (by simp) (fun k hk => absurd hk (by simp)), bS]
          refine ⟨Y2, ?_, s2⟩
          split <;> rfl
      · rw [if_pos (bI_eq (Bool.eq_false_iff.mpr q1)), if_neg q1]
        unfold jM_debate_90
        rw [nI_1]
        exact M_debate_lp O hv hm a f (k + 1) Y u K e11 ha T e18 hA (by omega) (by omega)
theorem Tw_nil {n : Nat} : Tw n [] := ⟨List.nodup_nil, fun _ h => by simp at h⟩
theorem Arr_nil {f : Nat → Int32} : Arr f [] := fun k hk => absurd hk (by simp)
theorem op_debate : Op_debate Rel := by
  intro X Y a1 hr
  obtain ⟨h, t, pg, hr⟩ := hr
  obtain ⟨X2, r, e1, ex, hd⟩ := L_debateRow hr
  obtain ⟨Y2, b, e2, ey, hb, f11, a4⟩ := M_isDebate hr
  have O := hr.1.1
  have H2 := hr.1.2.1.scr ex
  have K2 := hr.1.2.2.1.scr ey
  have hv := dgo_VT pg [] VT_nil
  have hv7 := hv.len
  unfold jT_debate jM_debate
  rw [between_eq, in_int, show (0 : Int64).toInt = (0 : Int32).toInt from rfl, show (1 : Int64).toInt = (1 : Int32).toInt from rfl, bS, bS]
  by_cases q : (0 : Int32).toInt ≤ a1.toInt ∧ a1.toInt ≤ (1 : Int32).toInt
  · rw [if_neg (bI_T q), if_neg (bI_T q), e1, e2, bS, bS]
    dsimp only
    rcases hd with ⟨hd, rfl⟩ | ⟨hd, rfl⟩
    · rw [hb.mpr hd, if_neg (enc_ne hv.2 hv7 hd.2.1), if_neg (by decide)]
      obtain ⟨Y3, e3, s3⟩ := M_debate_lp O hv hd.2.2 a1 10 0 (pF Y2 18 0) [] K2 f11 a4 Tw_nil rfl Arr_nil (by omega) (by omega)
      have e4 := L_debate_lp H2 hv hd.2.2 a1 10 0 [] Tw_nil (by omega) (by omega)
      exact ⟨_, X2, Y3, e4, e3, h, t, pg, hr.scr ex (ey.tr ((SZ.F 0).tr s3).eq)⟩
    · rw [Bool.eq_false_iff.mpr (fun z => hd (hb.mp z)), if_pos rfl, if_pos (by decide)]
      exact ⟨_, X2, Y2, rfl, rfl, h, t, pg, hr.scr ex ey⟩
  · rw [if_pos (bI_F q), if_pos (bI_F q)]
    exact ⟨_, X, Y, rfl, rfl, h, t, pg, hr⟩
theorem M_nails_lp {h : House} (O : Ok h) {v : List Nat} (hv : VT v) (hm : memn (hn h) v) : ∀ (f k : Nat) (Y : St) (a : Int32), HY h Y → sF Y 11 = nI v.length → Arr (sA Y 4) v → k ≤ v.length → v.length < k + f → jM_nails_14 f Y a (nI k) = some (if lnOk h v = true then a + nlS h (v.drop k) else -1, Y)
  | 0, k, Y, a, _, _, _, _, h2 => absurd h2 (by omega)
  | f + 1, k, Y, a, K, e11, ha, hk, h2 => by
    have h7 := K.1
    have hv7 := hv.len
    rw [jM_nails_14, e11]
    by_cases q : k = v.length
    · rw [if_pos (nI_le (by omega) (by omega)), M_leansOf O K hm (by omega) ha, bS, K.2.2.1, q, List.drop_length, nlS, Int32.add_zero, lnOk]
      by_cases z : hlim h < absI (ln h v)
      · rw [if_neg (fun y => Int32.lt_irrefl (Int32.lt_of_lt_of_le z y)), decide_eq_true z, if_neg (by decide)]
      · rw [if_pos (Int32.not_lt.mp z), decide_eq_false z, if_pos (by decide)]
    · have hk2 : k < v.length := by omega
      have hm2 := hm _ (List.getElem_mem hk2)
      rw [if_neg (nI_ge (by omega) (by omega)), M_bears O K hm (by omega) ha hk2, bS, if_pos (ibN (by omega) (by omega)), clN (by omega), ha k hk2, M_canBear O K hm2, bS]
      have key : ∀ c : Int32, c = nl1 h v[k] (abv h (v.drop (k + 1))) → jM_nails_63 (jM_nails_14 f) Y (nI k) a c = some (if lnOk h v = true then a + nlS h (v.drop k) else -1, Y) := by
        intro c ec
        unfold jM_nails_63
        rw [nI_1, M_nails_lp O hv hm f (k + 1) Y _ K e11 ha (by omega) (by omega), List.drop_eq_getElem_cons hk2, nlS, ec, Int32.add_assoc, Int32.add_comm (nl1 _ _ _)]
      by_cases z : lu h v[k] (abv h (v.drop (k + 1))) - hb h v[k] ≤ 0
      · rw [if_pos z]
        exact key 0 (by rw [nl1, if_pos z])
      · rw [if_neg z]
        refine key _ ?_
        rw [nl1, if_neg z]
        generalize lu h v[k] (abv h (v.drop (k + 1))) - hb h v[k] = x
        rw [Int32.sub_eq_add_neg (x + 9), Int32.add_assoc]
        rfl
theorem op_nails : Op_nails Rel := by
  intro X Y hr
  obtain ⟨h, t, pg, hr⟩ := hr
  obtain ⟨X2, r, e1, ex, hd⟩ := L_debateRow hr
  obtain ⟨Y2, b, e2, ey, hb, f11, a4⟩ := M_isDebate hr
  have O := hr.1.1
  have H2 := hr.1.2.1.scr ex
  have K2 := hr.1.2.2.1.scr ey
  have hv := dgo_VT pg [] VT_nil
  have hv7 := hv.len
  unfold jT_nails jM_nails
  rw [e1, e2, bS, bS]
  dsimp only
  rcases hd with ⟨hd, rfl⟩ | ⟨hd, rfl⟩
  · rw [hb.mpr hd, if_neg (enc_ne hv.2 hv7 hd.2.1), if_neg (by decide)]
    have e3 := M_nails_lp O hv hd.2.2 10 0 Y2 0 K2 f11 a4 (by omega) (by omega)
    rw [show (0 : Int32) = nI 0 from rfl] at e3 ⊢
    have e4 := L_leans H2 (memn_rev.mpr hd.2.2) (by simpa using hv7)
    have e5 := L_nails H2 (memn_rev.mpr hd.2.2) (by simpa using hv7)
    rw [List.reverse_reverse] at e4 e5
    rw [e3, show enc (dgo pg []) = nI (enr (dgo pg []).reverse) from rfl, e4, bS, e5, bS, List.drop_zero, show nI 0 = 0 from rfl, Int32.zero_add]
    refine ⟨_, X2, Y2, ?_, rfl, h, t, pg, hr.scr ex ey⟩
    cases lnOk h (dgo pg []) <;> rfl
  · rw [Bool.eq_false_iff.mpr (fun z => hd (hb.mp z)), if_pos rfl, if_pos (by decide)]
    exact ⟨_, X2, Y2, rfl, rfl, h, t, pg, hr.scr ex ey⟩
/-! the shaken -/
def offS (v : List Nat) (m : Nat) : List Nat := v.filter (fun x => decide (x ≠ m))
theorem offS_Tw {n : Nat} {v : List Nat} (h : Tw n v) (m : Nat) : Tw n (offS v m) := ⟨h.1.filter _, fun x hx => h.2 x (List.mem_filter.mp hx).1⟩
def shkB (h : House) (v : List Nat) (m : Nat) : Bool := stands h (offS v m)
def shkL (h : House) (v : List Nat) (i : Nat) : List Nat := v.filter (fun x => decide (x < i) && shkB h v x)
theorem shkL_s (h : House) (v : List Nat) (i : Nat) : sN (shkL h v (i + 1)) = if i ∈ v ∧ shkB h v i = true then sN (shkL h v i) ||| 2 ^ i else sN (shkL h v i) := by
  apply Nat.eq_of_testBit_eq
  intro j
  have e : ∀ i, (sN (shkL h v i)).testBit j = decide (j ∈ v ∧ j < i ∧ shkB h v j = true) := by
    intro i
    rw [sN_bit]
    congr 1
    simp [shkL, List.mem_filter]
  have key : (j ∈ v ∧ j < i + 1 ∧ shkB h v j = true) ↔ (j ∈ v ∧ j < i ∧ shkB h v j = true) ∨ (i = j ∧ i ∈ v ∧ shkB h v i = true) := by
    constructor
    · rintro ⟨a, b, c⟩
      by_cases q : i = j
      · subst q; exact Or.inr ⟨rfl, a, c⟩
      · exact Or.inl ⟨a, by omega, c⟩
    · rintro (⟨a, b, c⟩ | ⟨rfl, a, c⟩)
      · exact ⟨a, by omega, c⟩
      · exact ⟨a, by omega, c⟩
  rw [e]
  by_cases q : i ∈ v ∧ shkB h v i = true
  · rw [if_pos q, Nat.testBit_or, e, Nat.testBit_two_pow]
    rw [← Bool.decide_or]
    apply decide_eq_decide.mpr
    rw [key]
    exact ⟨fun z => z.elim Or.inl (fun y => Or.inr y.1), fun z => z.elim Or.inl (fun y => Or.inr ⟨y, q⟩)⟩
  · rw [if_neg q, e]
    apply decide_eq_decide.mpr
    rw [key]
    exact ⟨fun z => z.elim (fun y => y) (fun y => absurd y.2 q), Or.inl⟩
theorem L_off {n : Nat} (h7 : n ≤ 7) {v : List Nat} (T : Tw n v) {m : Nat} (hm : m < 7) : jRo_without (enc v) (nI m) = some (enc (offS v m)) := by
  have := T.len
  have e := L_without (all7_rev.mpr (memn_7 h7 T.2)) (by simp; omega) hm
  rw [List.reverse_reverse] at e
  exact e
theorem L_holds2 {h : House} {X : St} (H : HX h X) {t : List Nat} (T : Tw (hn h) t) : jCh_holds X (enc t) = some (bI (stands h t)) := by
  have h7 := H.1
  have := T.len
  have e := L_holds H (tw_r T) (by simp; omega)
  rw [List.reverse_reverse] at e
  exact e
theorem L_shook_lp {h : House} {X : St} (H : HX h X) {v : List Nat} (T : Tw (hn h) v) : ∀ (f i : Nat), i ≤ hn h → hn h < i + f → jT_shook_27 f X (enc v) (nI (sN (shkL h v i))) (nI i) = some (nI (sN (shkL h v (hn h))), X)
  | 0, i, _, h2 => absurd h2 (by omega)
  | f + 1, i, hi, h2 => by
    have h7 := H.1
    rw [jT_shook_27, jCh_size, bS, H.2.1]
    by_cases q : i = hn h
    · rw [if_pos (nI_le (by omega) (by omega)), q]
    · rw [if_neg (nI_ge (by omega) (by omega)), L_height2 h7 T (by omega), bS]
      have ih := L_shook_lp H T f (i + 1) (by omega) (by omega)
      rw [shkL_s] at ih
      by_cases q1 : i ∈ v
      · have hx : idxH v i < 9 := by
          rw [idxH, if_pos q1]
          have := List.idxOf_lt_length_of_mem q1
          have := T.len
          omega
        have hx2 : 0 < idxH v i := by rw [idxH, if_pos q1]; omega
        rw [if_neg (nI_nle hx2 (by omega)), L_off h7 T (by omega), bS, L_holds2 H (offS_Tw T i), bS, show stands h (offS v i) = shkB h v i from rfl]
        unfold jT_shook_67
        rw [nI_1]
        by_cases q2 : shkB h v i = true
        · rw [if_neg (bI_ne q2), one_shl (by omega), fa_or]
          rw [if_pos ⟨q1, q2⟩] at ih
          exact ih
        · rw [if_pos (bI_eq (Bool.eq_false_iff.mpr q2))]
          rw [if_neg (fun z => q2 z.2)] at ih
          exact ih
      · rw [idxH, if_neg q1, if_pos (by decide)]
        unfold jT_shook_67
        rw [nI_1]
        rw [if_neg (fun z => q1 z.1)] at ih
        exact ih
theorem offS_app (a b : List Nat) (m : Nat) : offS (a ++ b) m = offS a m ++ offS b m := List.filter_append ..
theorem M_shook_in {h : House} (O : Ok h) {v : List Nat} (T : Tw (hn h) v) (k14 : St → Int32 → Int32 → Option (Int32 × St)) {k : Nat} (hk : k < v.length) (a : Int32) : ∀ (f j : Nat) (Y : St), HY h Y → sF Y 11 = nI v.length → Arr (sA Y 4) v → sF Y 18 = nI (offS (v.take j) v[k]).length → Arr (sA Y 7) (offS (v.take j) v[k]) → j ≤ v.length → v.length < j + f → ∃ Y2, jM_shook_29 k14 f Y a (nI k) (nI j) = jM_shook_101 k14 Y2 (nI k) a (if shkB h v v[k] = true then nI (2 ^ v[k]) else 0) ∧ SZ Y Y2
  | 0, j, _, _, _, _, _, _, _, h2 => absurd h2 (by omega)
  | f + 1, j, Y, K, e11, ha, e18, hA, hj, h2 => by
    have h7 := K.1
    have hv7 := T.len
    rw [jM_shook_29, e11]
    by_cases q : j = v.length
    · have hm2 := T.2 _ (List.getElem_mem hk)
      rw [q, List.take_length] at e18 hA
      have T2 := offS_Tw T v[k]
      rw [if_pos (nI_le (by omega) (by omega)), e18, M_holds O K T2.2 (by have := T2.len; omega) hA, bS, if_pos (ibN (by omega) (by omega)), clN (by omega), ha k hk, one_shl (by omega)]
      refine ⟨Y, ?_, SZ.rf⟩
      show (if bI (shkB h v v[k]) = 0 then _ else _) = _
      cases shkB h v v[k] <;> rfl
    · have hj2 : j < v.length := by omega
      rw [if_neg (nI_ge (by omega) (by omega))]
      by_cases q1 : j = k
      · subst q1
        rw [if_pos rfl]
        unfold jM_shook_67
        rw [nI_1]
        have e : offS (v.take (j + 1)) v[j] = offS (v.take j) v[j] := by
          rw [List.take_succ_eq_append_getElem hj2, offS_app]
          simp [offS]
        exact M_shook_in O T k14 hk a f (j + 1) Y K e11 ha (by rw [e]; exact e18) (by rw [e]; exact hA) (by omega) (by omega)
      · have hne : v[j] ≠ v[k] := fun z => q1 (by rw [← T.1.idxOf_getElem j hj2, ← T.1.idxOf_getElem k hk, z])
        have e : offS (v.take (j + 1)) v[k] = offS (v.take j) v[k] ++ [v[j]] := by
          rw [List.take_succ_eq_append_getElem hj2, offS_app]
          simp [offS, hne]
        have hlt : (offS (v.take j) v[k]).length ≤ j := Nat.le_trans (List.length_filter_le _ _) (List.length_take_le _ _)
        rw [if_neg (fun z => q1 (nI_inj (by omega) (by omega) z)), if_pos (ibN (by omega) (by omega)), clN (by omega), ha j hj2, e18, if_pos (ibN (by omega) (by omega)), clN (by omega), show sF (pA Y 7 (offS (v.take j) v[k]).length (nI v[j])) 18 = nI (offS (v.take j) v[k]).length from e18]
        unfold jM_shook_67
        rw [nI_1, nI_1]
        have s1 : SZ Y (pF (pA Y 7 (offS (v.take j) v[k]).length (nI v[j])) 18 (nI ((offS (v.take j) v[k]).length + 1))) := (SZ.A _ _).tr (SZ.F _)
        obtain ⟨Y2, e2, s2⟩ := M_shook_in O T k14 hk a f (j + 1) (pF (pA Y 7 (offS (v.take j) v[k]).length (nI v[j])) 18 (nI ((offS (v.take j) v[k]).length + 1))) (K.scr s1.eq) e11 ha (by rw [e, List.length_append]; rfl) (by rw [e]; exact Arr_push hA _) (by omega) (by omega)
        exact ⟨Y2, e2, s1.tr s2⟩
theorem M_shook_lp {h : House} (O : Ok h) {v : List Nat} (T : Tw (hn h) v) : ∀ (f k : Nat) (Y : St), HY h Y → sF Y 11 = nI v.length → Arr (sA Y 4) v → k ≤ v.length → v.length < k + f → ∃ Y2, jM_shook_14 f Y (nI (sN ((v.take k).filter (shkB h v)))) (nI k) = some (if stands h v = true then 0 else nI (sN (v.filter (shkB h v))), Y2) ∧ SZ Y Y2
  | 0, k, _, _, _, _, _, h2 => absurd h2 (by omega)
  | f + 1, k, Y, K, e11, ha, hk, h2 => by
    have h7 := K.1
    have hv7 := T.len
    rw [jM_shook_14, e11]
    by_cases q : k = v.length
    · rw [if_pos (nI_le (by omega) (by omega)), M_holds O K T.2 (by omega) ha, bS, q, List.take_length]
      refine ⟨Y, ?_, SZ.rf⟩
      cases stands h v <;> rfl
    · have hk2 : k < v.length := by omega
      have hm2 := T.2 _ (List.getElem_mem hk2)
      rw [if_neg (nI_ge (by omega) (by omega))]
      obtain ⟨Y2, e2, s2⟩ := M_shook_in O T (jM_shook_14 f) hk2 (nI (sN ((v.take k).filter (shkB h v)))) 10 0 (pF Y 18 0) K e11 ha rfl Arr_nil (by omega) (by omega)
      have s3 : SZ Y Y2 := (SZ.F 0).tr s2
      obtain ⟨Y3, e3, s4⟩ := M_shook_lp O T f (k + 1) Y2 (K.scr s3.eq) ((s3.1 11 (by decide)).trans e11) (by rw [s3.2 4 (by decide)]; exact ha) (by omega) (by omega)
      refine ⟨Y3, ?_, s3.tr s4⟩
      rw [show (0 : Int32) = nI 0 from rfl] at e2
      rw [← e3, show (0 : Int32) = nI 0 from rfl, e2]
      unfold jM_shook_101
      rw [nI_1, List.take_succ_eq_append_getElem hk2, List.filter_append]
      congr 2
      by_cases q2 : shkB h v v[k] = true
      · rw [if_pos q2, fa_or, List.filter_cons_of_pos q2, List.filter_nil, sN_push]
      · rw [if_neg q2, fa_or, Nat.or_zero, List.filter_cons_of_neg q2, List.filter_nil, List.append_nil]
theorem op_shook : Op_shook Rel := by
  intro X Y hr
  obtain ⟨h, t, pg, hr⟩ := hr
  obtain ⟨X2, r, e1, ex, hd⟩ := L_debateRow hr
  obtain ⟨Y2, b, e2, ey, hb, f11, a4⟩ := M_isDebate hr
  have O := hr.1.1
  have H2 := hr.1.2.1.scr ex
  have K2 := hr.1.2.2.1.scr ey
  have hv := dgo_VT pg [] VT_nil
  have hv7 := hv.len
  have h7 := H2.1
  unfold jT_shook jM_shook
  rw [e1, e2, bS, bS]
  dsimp only
  rcases hd with ⟨hd, rfl⟩ | ⟨hd, rfl⟩
  · have T : Tw (hn h) (dgo pg []) := ⟨hv.1, hd.2.2⟩
    rw [hb.mpr hd, if_neg (enc_ne hv.2 hv7 hd.2.1), if_neg (by decide)]
    obtain ⟨Y3, e3, s3⟩ := M_shook_lp O T 10 0 Y2 K2 f11 a4 (by omega) (by omega)
    have e4 := L_shook_lp H2 T 10 0 (by omega) (by omega)
    have e5 : shkL h (dgo pg []) 0 = [] := List.filter_eq_nil_iff.mpr (by simp)
    have e6 : shkL h (dgo pg []) (hn h) = (dgo pg []).filter (shkB h (dgo pg [])) := by
      apply List.filter_congr
      intro x hx
      rw [decide_eq_true (hd.2.2 x hx), Bool.true_and]
    rw [e5, e6] at e4
    rw [List.take_zero] at e3
    rw [L_holds2 H2 T, bS]
    refine ⟨_, X2, Y3, ?_, e3, h, t, pg, hr.scr ex (ey.tr s3.eq)⟩
    cases hs : stands h (dgo pg []) with
    | true => rw [if_neg (by decide), if_pos rfl]
    | false =>
      rw [if_pos (by decide), if_neg (by decide)]
      exact e4
  · rw [Bool.eq_false_iff.mpr (fun z => hd (hb.mp z)), if_pos rfl, if_pos (by decide)]
    exact ⟨_, X2, Y2, rfl, rfl, h, t, pg, hr.scr ex ey⟩
