/-! the night's best end: the reference's search without calls of itself -/
def LvE (d : Nat) (Y Y2 : St) : Prop := (∀ q, q ≠ 18 → sF Y2 q = sF Y q) ∧ (∀ a, a ≠ 7 → a ≠ 12 → a ≠ 13 → a ≠ 14 → a ≠ 15 → sA Y2 a = sA Y a) ∧ (∀ j, j < d → sA Y2 12 j = sA Y 12 j ∧ sA Y2 13 j = sA Y 13 j ∧ sA Y2 15 j = sA Y 15 j) ∧ ∀ i, i < 7 * d → sA Y2 14 i = sA Y 14 i
theorem LvE.tr {d : Nat} {X X2 X3 : St} (a : LvE d X X2) (b : LvE d X2 X3) : LvE d X X3 :=
  ⟨fun q h1 => (b.1 q h1).trans (a.1 q h1), fun i h1 h2 h3 h4 h5 => (b.2.1 i h1 h2 h3 h4 h5).trans (a.2.1 i h1 h2 h3 h4 h5), fun j hj => ⟨(b.2.2.1 j hj).1.trans (a.2.2.1 j hj).1, (b.2.2.1 j hj).2.1.trans (a.2.2.1 j hj).2.1, (b.2.2.1 j hj).2.2.trans (a.2.2.1 j hj).2.2⟩, fun i hi => (b.2.2.2 i hi).trans (a.2.2.2 i hi)⟩
theorem LvE.le {d e : Nat} (hd : d ≤ e) {X X2 : St} (a : LvE e X X2) : LvE d X X2 :=
  ⟨a.1, a.2.1, fun j hj => a.2.2.1 j (by omega), fun i hi => a.2.2.2 i (by omega)⟩
theorem LvE.Z (d : Nat) {X X2 : St} (a : SZ X X2) : LvE d X X2 :=
  ⟨a.1, fun i h _ _ _ _ => a.2 i h, fun j _ => ⟨by rw [a.2 12 (by decide)], by rw [a.2 13 (by decide)], by rw [a.2 15 (by decide)]⟩, fun i _ => by rw [a.2 14 (by decide)]⟩
theorem LvE.A {d : Nat} (Y : St) {a j : Nat} (ha : a = 12 ∨ a = 13) (hj : d ≤ j) (v : Int32) : LvE d Y (pA Y a j v) := by
  refine ⟨fun _ _ => rfl, fun b h1 h2 h3 h4 h5 => by rw [sA_pA, if_neg (by omega)], fun i hi => ?_, fun i hi => by rw [sA_pA, if_neg (by omega)]⟩
  have e : ∀ b, sA (pA Y a j v) b i = sA Y b i := by
    intro b
    rw [sA_pA]
    split
    · rename_i z
      rw [z]
      show (if i = j then _ else _) = _
      rw [if_neg (by omega)]
    · rfl
  exact ⟨e 12, e 13, e 15⟩
theorem LvE.eq {d : Nat} {Y Y2 : St} (s : LvE d Y Y2) : EqY Y Y2 :=
  ⟨⟨s.1 _ (by decide), s.1 _ (by decide), s.1 _ (by decide), s.1 _ (by decide), s.1 _ (by decide)⟩, ⟨s.1 _ (by decide), s.1 _ (by decide), s.1 _ (by decide), s.1 _ (by decide), s.1 _ (by decide)⟩, ⟨s.2.1 _ (by decide) (by decide) (by decide) (by decide) (by decide), s.2.1 _ (by decide) (by decide) (by decide) (by decide) (by decide), s.2.1 _ (by decide) (by decide) (by decide) (by decide) (by decide), s.2.1 _ (by decide) (by decide) (by decide) (by decide) (by decide)⟩, ⟨s.2.1 _ (by decide) (by decide) (by decide) (by decide) (by decide), s.2.1 _ (by decide) (by decide) (by decide) (by decide) (by decide), s.2.1 _ (by decide) (by decide) (by decide) (by decide) (by decide)⟩⟩
def Svd (d : Nat) (u : List Nat) (Y : St) : Prop := sA Y 15 d = nI u.length ∧ ∀ (i : Nat) (hi : i < u.length), sA Y 14 (7 * d + i) = nI u[i]
theorem Svd.cg {d : Nat} {u : List Nat} (hl : u.length ≤ 7) {Y Y2 : St} (s : Svd d u Y) (e : LvE (d + 1) Y Y2) : Svd d u Y2 :=
  ⟨(e.2.2.1 d (by omega)).2.2.trans s.1, fun i hi => (e.2.2.2 _ (by omega)).trans (s.2 i hi)⟩
theorem par_eq {d : Nat} (hd : d < 1000) : nI d - nI d / 2 * 2 = nI (d % 2) := by
  exact pk_rem (d := 2) (by omega) (by omega) (by omega)
theorem back_lp {d : Nat} (hd : d < 6) {u : List Nat} (hl : u.length ≤ 7) : ∀ (f k : Nat) (Y : St), sF Y 18 = nI u.length → (∀ (i : Nat) (hi : i < u.length), sA Y 14 (7 * d + i) = nI u[i]) → (∀ i, i < k → ∀ (hi : i < u.length), sA Y 7 i = nI u[i]) → k ≤ u.length → u.length < k + f → ∃ Y2, jM_backTo_12 f Y (nI d) (nI k) = some Y2 ∧ SZ Y Y2 ∧ sF Y2 18 = nI u.length ∧ Arr (sA Y2 7) u
  | 0, k, _, _, _, _, _, h2 => absurd h2 (by omega)
  | f + 1, k, Y, e18, h14, hdn, hk, h2 => by
    rw [jM_backTo_12, e18]
    by_cases q : k = u.length
    · rw [if_pos (nI_le (by omega) (by omega))]
      exact ⟨Y, rfl, SZ.rf, e18, fun i hi => hdn i (by omega) hi⟩
    · have hk2 : k < u.length := by omega
      rw [if_neg (nI_ge (by omega) (by omega)), show (7 : Int32) * nI d + nI k = nI (7 * d + k) by rw [show (7 : Int32) = nI 7 from rfl, pk_mul, nI_add], if_pos (ibN (by omega) (by omega)), if_pos (ibN (by omega) (by omega)), clN (by omega), clN (by omega), h14 k hk2, nI_1 k]
      obtain ⟨Y2, e, s, e2, e3⟩ := back_lp hd hl f (k + 1) (pA Y 7 k (nI u[k])) e18 h14 (fun i hi hi2 => by
        rw [sA_pA, if_pos rfl]
        show (if i = k then _ else _) = _
        by_cases z : i = k
        · subst z; rw [if_pos rfl]
        · rw [if_neg z]; exact hdn i (by omega) hi2) (by omega) (by omega)
      exact ⟨Y2, e, (SZ.A _ _).tr s, e2, e3⟩
theorem back_eq {d : Nat} (hd : d < 6) {u : List Nat} (hl : u.length ≤ 7) {Y : St} (s : Svd d u Y) : ∃ Y2, jM_backTo Y (nI d) = some Y2 ∧ SZ Y Y2 ∧ sF Y2 18 = nI u.length ∧ Arr (sA Y2 7) u := by
  unfold jM_backTo
  rw [if_pos (ibN hd (by omega)), clN (by omega), s.1]
  obtain ⟨Y2, e, s2, r⟩ := back_lp hd hl 10 0 (pF Y 18 (nI u.length)) rfl s.2 (fun i hi => absurd hi (by omega)) (by omega) (by omega)
  exact ⟨Y2, e, (SZ.F _).tr s2, r⟩
theorem save_lp {d : Nat} (hd : d < 6) {u : List Nat} (hl : u.length ≤ 7) : ∀ (f k : Nat) (Y : St), sF Y 18 = nI u.length → Arr (sA Y 7) u → (∀ i, i < k → ∀ (hi : i < u.length), sA Y 14 (7 * d + i) = nI u[i]) → k ≤ u.length → u.length < k + f → ∃ Y2, jM_saveAt_2 f Y (nI d) (nI k) = some Y2 ∧ LvE d Y Y2 ∧ Svd d u Y2
  | 0, k, _, _, _, _, _, h2 => absurd h2 (by omega)
  | f + 1, k, Y, e18, hA, hdn, hk, h2 => by
    rw [jM_saveAt_2, e18]
    by_cases q : k = u.length
    · rw [if_pos (nI_le (by omega) (by omega)), if_pos (ibN hd (by omega)), clN (by omega)]
      refine ⟨_, rfl, ⟨fun _ _ => rfl, fun a _ _ _ _ h => by rw [sA_pA, if_neg h], fun j hj => ⟨rfl, rfl, ?_⟩, fun _ _ => rfl⟩, ?_, fun i hi => hdn i (by omega) hi⟩
      · show (if j = d then _ else _) = _
        rw [if_neg (by omega)]
        rfl
      · show (if d = d then _ else _) = _
        rw [if_pos rfl]
    · have hk2 : k < u.length := by omega
      rw [if_neg (nI_ge (by omega) (by omega)), show (7 : Int32) * nI d + nI k = nI (7 * d + k) by rw [show (7 : Int32) = nI 7 from rfl, pk_mul, nI_add], if_pos (ibN (by omega) (by omega)), if_pos (ibN (by omega) (by omega)), clN (by omega), clN (by omega), hA k hk2, nI_1 k]
      obtain ⟨Y2, e, s, r⟩ := save_lp hd hl f (k + 1) (pA Y 14 (7 * d + k) (nI u[k])) e18 hA (fun i hi hi2 => by
        rw [sA_pA, if_pos rfl]
        show (if 7 * d + i = 7 * d + k then _ else _) = _
        by_cases z : i = k
        · subst z; rw [if_pos rfl]
        · rw [if_neg (by omega)]; exact hdn i (by omega) hi2) (by omega) (by omega)
      refine ⟨Y2, e, LvE.tr (X2 := pA Y 14 (7 * d + k) (nI u[k])) ⟨fun _ _ => rfl, fun a _ _ _ h _ => by rw [sA_pA, if_neg h], fun j _ => ⟨rfl, rfl, rfl⟩, fun i hi => ?_⟩ s, r⟩
      show (if i = 7 * d + k then _ else _) = _
      rw [if_neg (by omega)]
      rfl
theorem save_eq {d : Nat} (hd : d < 6) {u : List Nat} (hl : u.length ≤ 7) {Y : St} (e18 : sF Y 18 = nI u.length) (hA : Arr (sA Y 7) u) : ∃ Y2, jM_saveAt Y (nI d) = some Y2 ∧ LvE d Y Y2 ∧ Svd d u Y2 :=
  save_lp hd hl 10 0 Y e18 hA (fun i hi => absurd hi (by omega)) (by omega) (by omega)
theorem onTop_eq {h : House} {Y : St} (K : HY h Y) {u : List Nat} (T : Tw (hn h) u) (e18 : sF Y 18 = nI u.length) (hA : Arr (sA Y 7) u) : jM_onTop Y = some (sideS h u.reverse) := by
  have h7 := K.1
  have hl := T.len
  unfold jM_onTop
  rw [e18]
  by_cases q : u = []
  · rw [if_pos (by rw [q]; rfl), q]
    rfl
  · have hp := List.length_pos_iff.mpr q
    have el : u.reverse = u[u.length - 1] :: (u.take (u.length - 1)).reverse := by
      conv => lhs; rw [← List.take_append_drop (u.length - 1) u, List.drop_eq_getElem_cons (by omega), List.reverse_append]
      rw [show u.length - 1 + 1 = u.length by omega, List.drop_length]
      rfl
    have hm := T.2 _ (List.getElem_mem (show u.length - 1 < u.length by omega))
    have a := M_k K hm (k := 3) (by omega) 3 rfl
    rw [if_neg (nI_ne0 (by omega) (by omega)), show nI u.length - 1 = nI (u.length - 1) from pk_sub (b := 1) (by omega), if_pos (ibN (by omega) (by omega)), clN (by omega), hA _ (by omega), if_pos a.1, a.2, el, sideS]
    unfold jM_onTop_32
    split
    · rfl
    · split <;> rfl
theorem keep_eq {d : Nat} (hd : d < 6) (Y : St) (v : Int32) : jM_keep Y (nI d) v = some (pA Y 13 d (mx (sA Y 13 d) (sgS (d % 2) v))) := by
  have key : ∀ x, jM_keep_12 Y (nI d) x = some (pA Y 13 d (mx (sA Y 13 d) x)) := by
    intro x
    unfold jM_keep_12 jM_keep_38 mx
    simp only [if_pos (ibN (n := 6) hd (by omega)), clN (show d < 2147483648 by omega)]
    by_cases q : x ≤ sA Y 13 d
    · rw [if_pos q, if_neg (Int32.not_lt.mpr q)]
    · rw [if_neg q, if_pos (Int32.not_le.mp q)]
  unfold jM_keep sgS
  rw [par_eq (by omega)]
  by_cases q : d % 2 = 0
  · rw [if_pos (by rw [q]; rfl), if_pos q, key]
  · rw [if_neg (nI_ne0 (by omega) (by omega)), if_neg q, key]
theorem next_lp {h : House} {Y : St} (K : HY h Y) {u : List Nat} (T : Tw (hn h) u) (e18 : sF Y 18 = nI u.length) (hA : Arr (sA Y 7) u) (s : Nat) : ∀ (f m : Nat), m ≤ hn h → hn h < m + f → ∃ q, jM_nextOne_2 Y f (nI s) (nI m) = some (nI q) ∧ m ≤ q ∧ q ≤ hn h ∧ (∀ j, m ≤ j → j < q → canS h s u j = false) ∧ (q < hn h → canS h s u q = true)
  | 0, m, _, h2 => absurd h2 (by omega)
  | f + 1, m, hm, h2 => by
    have h7 := K.1
    have hl := T.len
    rw [jM_nextOne_2, K.2.1]
    by_cases q : m = hn h
    · exact ⟨m, by rw [if_pos (nI_le (by omega) (by omega))], by omega, by omega, fun j _ _ => by omega, fun z => by omega⟩
    · have hm2 : m < hn h := by omega
      have a := M_k K hm2 (k := 3) (by omega) 3 rfl
      obtain ⟨p, e, p1, p2, p3, p4⟩ := next_lp K T e18 hA s f (m + 1) (by omega) (by omega)
      rw [if_neg (nI_ge (by omega) (by omega)), if_pos a.1, a.2, e18, M_mayRise2 K T.2 (by omega) hA hm2, bS]
      unfold jM_nextOne_41
      rw [nI_1 m, e]
      have skip : canS h s u m = false → ∃ q, some (nI p) = some (nI q) ∧ m ≤ q ∧ q ≤ hn h ∧ (∀ j, m ≤ j → j < q → canS h s u j = false) ∧ (q < hn h → canS h s u q = true) := by
        intro z
        refine ⟨p, rfl, by omega, p2, fun j h1 h2 => ?_, p4⟩
        by_cases y : j = m
        · rw [y]; exact z
        · exact p3 j (by omega) h2
      by_cases q1 : hg h m 3 = nI s
      · rw [if_pos q1]
        by_cases q2 : mayS h u m = true
        · rw [if_neg (bI_ne q2)]
          exact ⟨m, rfl, by omega, by omega, fun j _ _ => by omega, fun _ => canS_1.mpr ⟨q1, q2⟩⟩
        · rw [if_pos (bI_eq (Bool.eq_false_iff.mpr q2))]
          exact skip (Bool.eq_false_iff.mpr (fun z => q2 (canS_1.mp z).2))
      · rw [if_neg q1]
        exact skip (Bool.eq_false_iff.mpr (fun z => q1 (canS_1.mp z).1))
theorem fld_skip {f : Nat → Int32} {p : Nat → Bool} (b : Int32) (n : Nat) : ∀ (g m : Nat), g + m ≤ n → (∀ j, m ≤ j → j < g + m → p j = false) → fld f p (List.range' m (n - m)) b = fld f p (List.range' (g + m) (n - (g + m))) b
  | 0, m, _, _ => by rw [Nat.zero_add]
  | g + 1, m, h1, h2 => by
    rw [show n - m = (n - (m + 1)) + 1 by omega, List.range'_succ, fld, if_neg (by rw [h2 m (by omega) (by omega)]; decide), fld_skip b n g (m + 1) (by omega) (fun j h3 h4 => h2 j (by omega) (by omega)), show g + (m + 1) = g + 1 + m by omega]
def ChS (h : House) (k : Nat) : Prop := ∀ (d K : Nat) (u : List Nat) (Y : St) (v3 s0 : Int32), d + (k + 1) = K → K ≤ 5 → HY h Y → Tw (hn h) u → sF Y 18 = nI u.length → Arr (sA Y 7) u → ∃ (c : Nat) (Y2 : St) (v4 : Int32), (∀ N n, jM_midnightOf_211 N (jM_midnightOf_60 N (n + c)) Y (nI K) (nI d) v3 s0 = jM_midnightOf_60 N n Y2 (nI K) (nI d) v4) ∧ LvE (d + 1) (pA Y 13 d (mx (sA Y 13 d) (sgS (d % 2) (endS h k u (1 - d % 2))))) Y2
def NdS (h : House) (k : Nat) : Prop := ∀ (d K : Nat) (u : List Nat) (Y : St) (v3 : Int32), d + (k + 1) = K → K ≤ 5 → HY h Y → Tw (hn h) u → Svd d u Y → sA Y 12 d = -1 → sA Y 13 d = -2 → ∃ (c : Nat) (Y2 : St), (∀ N n, jM_midnightOf_60 N (n + c) Y (nI K) (nI d) v3 = jM_midnightOf_154 N (jM_midnightOf_60 N n) Y2 (nI K) (nI d) (endS h (k + 1) u (d % 2))) ∧ LvE d Y Y2
theorem nt_from {h : House} (O : Ok h) {k : Nat} (hc : ChS h k) {d K : Nat} (hdK : d + (k + 1) = K) (hK : K ≤ 5) {u : List Nat} (T : Tw (hn h) u) : ∀ (g m : Nat), hn h - m < g → m ≤ hn h → ∀ (Y : St) (v3 : Int32), HY h Y → Svd d u Y → sA Y 12 d = nI m → ∃ (c : Nat) (Y2 : St), (∀ N n, jM_midnightOf_60 N (n + c) Y (nI K) (nI d) v3 = jM_midnightOf_154 N (jM_midnightOf_60 N n) Y2 (nI K) (nI d) (sgS (d % 2) (fld (fun m => sgS (d % 2) (endS h k (riseS h u m) (1 - d % 2))) (canS h (d % 2) u) (List.range' m (hn h - m)) (sA Y 13 d)))) ∧ LvE d Y Y2 := by
  intro g
  induction g with
  | zero => intro m hg; omega
  | succ g ih =>
    intro m hg hm Y v3 HK hs e12
    have h7 := HK.1
    have hl := T.len
    obtain ⟨Y0, e0, s0, f18, a7⟩ := back_eq (d := d) (by omega) (by omega) hs
    have K0 := HK.scr s0.eq
    obtain ⟨q, eq1, q1, q2, q3, q4⟩ := next_lp K0 T f18 a7 (d % 2) 10 m hm (by omega)
    have d12 : sA Y0 12 d = nI m := by rw [s0.2 12 (by decide)]; exact e12
    have d13 : sA Y0 13 d = sA Y 13 d := by rw [s0.2 13 (by decide)]
    have go : ∀ N n, jM_midnightOf_60 N (n + 1) Y (nI K) (nI d) v3 = jM_midnightOf_100 N (jM_midnightOf_60 N n) Y0 (nI K) (nI d) v3 (nI (d % 2)) (nI q) := by
      intro N n
      have eq2 : jM_nextOne Y0 (nI m) (nI (d % 2)) = some (nI q) := eq1
      rw [jM_midnightOf_60, if_neg (nI_pos (by omega)), e0, bS, if_pos (ibN (by omega) (by omega)), clN (by omega), d12, if_neg (nI_m1 (by omega)), par_eq (by omega), eq2, if_pos (ibN (by omega) (by omega)), bS]
    have efl := fld_skip (f := fun m => sgS (d % 2) (endS h k (riseS h u m) (1 - d % 2))) (p := canS h (d % 2) u) (sA Y 13 d) (hn h) (q - m) m (by omega) (fun j h1 h2 => q3 j h1 (by omega))
    rw [show q - m + m = q by omega] at efl
    by_cases z : q = hn h
    · refine ⟨1, Y0, fun N n => ?_, LvE.Z _ s0⟩
      rw [go, efl, z, Nat.sub_self]
      unfold jM_midnightOf_100 jM_midnightOf_126
      rw [K0.2.1, if_pos rfl, if_pos (ibN (by omega) (by omega)), clN (by omega), d12, if_neg (nI_m1 (by omega)), if_neg (by decide), d13]
      simp only [if_pos (ibN (i := d) (n := 6) (by omega) (by omega))]
      show _ = jM_midnightOf_154 N _ Y0 (nI K) (nI d) (sgS (d % 2) (sA Y 13 d))
      unfold sgS
      by_cases y : d % 2 = 0
      · rw [if_pos (by rw [y]; rfl), if_pos y]
      · rw [if_neg (nI_ne0 (by omega) (by omega)), if_neg y]
    · have hq : q < hn h := by omega
      have hcan := q4 hq
      have T2 := T.push hq (mayS_iff (canS_1.mp hcan).2).2
      have s1 : LvE d Y0 (pA Y0 12 d (nI (q + 1))) := LvE.A _ (Or.inl rfl) (Nat.le_refl _) _
      obtain ⟨Y1, e1, s2, f18b, a7b⟩ := M_rises O (Y := pA Y0 12 d (nI (q + 1))) (K0.scr s1.eq) T2 f18 a7
      have K1 := (K0.scr s1.eq).scr s2.eq
      have hf : sF Y1 18 = nI (riseS h u q).length := by
        rw [f18b]; unfold riseS
        split <;> rfl
      have ha : Arr (sA Y1 7) (riseS h u q) := by
        unfold riseS
        split
        · exact a7b
        · exact Arr_nil
      have w12 : sA Y1 12 d = nI (q + 1) := by
        rw [s2.2 12 (by decide)]
        show (if d = d then _ else _) = _
        rw [if_pos rfl]
      have w13 : sA Y1 13 d = sA Y 13 d := by
        rw [s2.2 13 (by decide)]
        exact d13
      have go2 : ∃ b, ∀ N n, jM_midnightOf_60 N (n + 1) Y (nI K) (nI d) v3 = jM_midnightOf_211 N (jM_midnightOf_60 N n) Y1 (nI K) (nI d) v3 b := by
        refine ⟨if bI (!stands h (u ++ [q])) = 0 then 0 else 1, fun N n => ?_⟩
        rw [go]
        unfold jM_midnightOf_100 jM_midnightOf_125 jM_midnightOf_126 jM_midnightOf_190 jM_midnightOf_210
        rw [K0.2.1, if_neg (fun y => z (nI_inj (by omega) (by omega) y)), if_pos rfl, if_neg (nI_m1 (by omega)), if_pos (ibN (by omega) (by omega)), if_neg (nI_m1 (by omega)), clN (by omega), nI_1 q, e1, bS]
        dsimp only
        split <;> rfl
      obtain ⟨b, go2⟩ := go2
      obtain ⟨c1, Y2, v4, e2, s3⟩ := hc d K (riseS h u q) Y1 v3 b hdK hK K1 (riseS_Tw T2) hf ha
      rw [w13] at s3
      have s13 : ∀ x, LvE d Y (pA Y1 13 d x) := fun x => (((LvE.Z d s0).tr s1).tr (LvE.Z d s2)).tr (LvE.A _ (Or.inr rfl) (Nat.le_refl _) _)
      have sv : ∀ x, Svd d u (pA Y1 13 d x) := fun x => ⟨by
        show sA Y1 15 d = _
        rw [s2.2 15 (by decide)]
        show sA Y0 15 d = _
        rw [s0.2 15 (by decide)]
        exact hs.1, fun i hi => by
        show sA Y1 14 _ = _
        rw [s2.2 14 (by decide)]
        show sA Y0 14 _ = _
        rw [s0.2 14 (by decide)]
        exact hs.2 i hi⟩
      have x12 : sA Y2 12 d = nI (q + 1) := ((s3.2.2.1 d (by omega)).1).trans w12
      have x13 : sA Y2 13 d = mx (sA Y 13 d) (sgS (d % 2) (endS h k (riseS h u q) (1 - d % 2))) := by
        rw [(s3.2.2.1 d (by omega)).2.1]
        show (if d = d then _ else _) = _
        rw [if_pos rfl]
      obtain ⟨c2, Y3, e3, s4⟩ := ih (q + 1) (by omega) (by omega) Y2 v4 ((K1.scr (LvE.A (d := d) _ (Or.inr rfl) (Nat.le_refl _) _).eq).scr s3.eq) ((sv _).cg (by omega) s3) x12
      refine ⟨c2 + c1 + 1, Y3, fun N n => ?_, ((s13 _).tr (s3.le (by omega))).tr s4⟩
      rw [← Nat.add_assoc n, go2, ← Nat.add_assoc n, e2, e3, x13, efl, show hn h - q = (hn h - (q + 1)) + 1 by omega, List.range'_succ, fld, if_pos hcan]
theorem nt_node {h : House} (O : Ok h) {k : Nat} (hc : ChS h k) : NdS h k := by
  intro d K u Y v3 hdK hK HK T hs e12 e13
  have h7 := HK.1
  have hl := T.len
  obtain ⟨Y0, e0, s0, f18, a7⟩ := back_eq (d := d) (by omega) (by omega) hs
  have K0 := HK.scr s0.eq
  have d12 : sA Y0 12 d = -1 := by rw [s0.2 12 (by decide)]; exact e12
  have d13 : sA Y0 13 d = -2 := by rw [s0.2 13 (by decide)]; exact e13
  have s1 : LvE d Y0 (pA Y0 12 d 0) := LvE.A _ (Or.inl rfl) (Nat.le_refl _) _
  obtain ⟨c1, Y1, v4, e1, s2⟩ := hc d K u (pA Y0 12 d 0) v3 0 hdK hK (K0.scr s1.eq) T f18 a7
  have go : ∀ N n, jM_midnightOf_60 N (n + 1) Y (nI K) (nI d) v3 = jM_midnightOf_211 N (jM_midnightOf_60 N n) (pA Y0 12 d 0) (nI K) (nI d) v3 0 := by
    intro N n
    rw [jM_midnightOf_60, if_neg (nI_pos (by omega)), e0, bS, if_pos (ibN (by omega) (by omega)), clN (by omega), d12, if_pos rfl]
    unfold jM_midnightOf_100 jM_midnightOf_125 jM_midnightOf_126 jM_midnightOf_190 jM_midnightOf_210
    rw [K0.2.1, if_neg (fun y => nI_m1 (k := hn h) (by omega) y.symm), if_pos rfl, if_pos rfl, if_pos (ibN (by omega) (by omega)), if_pos rfl, clN (by omega)]
  have hv : sA (pA Y0 12 d 0) 13 d = -2 := d13
  rw [hv, mx_m2 (Vn_sg _ (Vn_end h k _ _))] at s2
  have x12 : sA Y1 12 d = nI 0 := by
    rw [(s2.2.2.1 d (by omega)).1]
    show (if d = d then _ else _) = _
    rw [if_pos rfl]
    rfl
  have x13 : sA Y1 13 d = sgS (d % 2) (endS h k u (1 - d % 2)) := by
    rw [(s2.2.2.1 d (by omega)).2.1]
    show (if d = d then _ else _) = _
    rw [if_pos rfl]
  have s3 : LvE d Y0 (pA (pA Y0 12 d 0) 13 d (sgS (d % 2) (endS h k u (1 - d % 2)))) := s1.tr (LvE.A _ (Or.inr rfl) (Nat.le_refl _) _)
  have sv : Svd d u (pA (pA Y0 12 d 0) 13 d (sgS (d % 2) (endS h k u (1 - d % 2)))) := ⟨by
    show sA Y0 15 d = _
    rw [s0.2 15 (by decide)]
    exact hs.1, fun i hi => by
    show sA Y0 14 _ = _
    rw [s0.2 14 (by decide)]
    exact hs.2 i hi⟩
  obtain ⟨c2, Y2, e2, s4⟩ := nt_from O hc hdK hK T (hn h + 1) 0 (by omega) (by omega) Y1 v4 ((K0.scr s3.eq).scr s2.eq) (sv.cg (by omega) s2) x12
  refine ⟨c2 + c1 + 1, Y2, fun N n => ?_, (((LvE.Z d s0).tr s3).tr (s2.le (by omega))).tr s4⟩
  rw [← Nat.add_assoc n, go, ← Nat.add_assoc n, e1, e2, x13, Nat.sub_zero]
  rfl
theorem nt_child {h : House} (O : Ok h) : ∀ k, ChS h k
  | 0 => by
    intro d K u Y v3 s0 hdK hK HK T e18 hA
    refine ⟨0, pA Y 13 d (mx (sA Y 13 d) (sgS (d % 2) (endS h 0 u (1 - d % 2)))), v3, fun N n => ?_, LvE.Z _ SZ.rf⟩
    unfold jM_midnightOf_211 jM_midnightOf_255
    rw [if_pos (show nI d + 1 = nI K by rw [nI_1, ← hdK]), onTop_eq HK T e18 hA, bS, keep_eq (by omega), bS]
    rfl
  | k + 1 => by
    intro d K u Y v3 s0 hdK hK HK T e18 hA
    have h7 := HK.1
    have hl := T.len
    obtain ⟨Y1, e1, s1, sv⟩ := save_eq (d := d + 1) (by omega) (by omega) e18 hA
    have s2 : LvE (d + 1) Y1 (pA (pA Y1 12 (d + 1) (-1)) 13 (d + 1) (-2)) := (LvE.A _ (Or.inl rfl) (Nat.le_refl _) _).tr (LvE.A _ (Or.inr rfl) (Nat.le_refl _) _)
    obtain ⟨c, Y2, e2, s3⟩ := nt_node O (nt_child O k) (d + 1) K u (pA (pA Y1 12 (d + 1) (-1)) 13 (d + 1) (-2)) v3 (by omega) hK ((HK.scr s1.eq).scr s2.eq) T sv (by
      show (if d + 1 = d + 1 then _ else _) = _
      rw [if_pos rfl]) (by
      show (if d + 1 = d + 1 then _ else _) = _
      rw [if_pos rfl])
    have s4 := (s1.tr s2).tr s3
    have x13 : sA Y2 13 d = sA Y 13 d := (s4.2.2.1 d (by omega)).2.1
    refine ⟨c, pA Y2 13 d (mx (sA Y2 13 d) (sgS (d % 2) (endS h (k + 1) u ((d + 1) % 2)))), endS h (k + 1) u ((d + 1) % 2), fun N n => ?_, ?_⟩
    · unfold jM_midnightOf_211
      rw [nI_1, if_neg (fun y => by have := nI_inj (by omega) (by omega) y; omega), e1, bS]
      simp only [if_pos (ibN (i := d + 1) (n := 6) (by omega) (by omega))]
      unfold jM_midnightOf_255
      rw [clN (by omega), e2]
      unfold jM_midnightOf_154 jM_midnightOf_255
      rw [show nI (d + 1) + -1 = nI d from pk_m1 d, if_neg (nI_pos (by omega)), keep_eq (by omega), bS]
    · rw [x13, show (d + 1) % 2 = 1 - d % 2 by omega]
      refine ⟨s4.1, fun a h1 h2 h3 h4 h5 => ?_, fun j hj => ⟨(s4.2.2.1 j hj).1, ?_, (s4.2.2.1 j hj).2.2⟩, s4.2.2.2⟩
      · rw [sA_pA, if_neg h3, sA_pA, if_neg h3]; exact s4.2.1 a h1 h2 h3 h4 h5
      · show (if j = d then _ else sA Y2 13 j) = if j = d then _ else sA Y 13 j
        rw [(s4.2.2.1 j hj).2.1]
theorem nt_copy {t : List Nat} (hl : t.length ≤ 7) (v1 : Int32) : ∀ (f k : Nat) (Y : St), sF Y 14 = nI t.length → Arr (sA Y 6) t → (∀ i, i < k → ∀ (hi : i < t.length), sA Y 7 i = nI t[i]) → k ≤ t.length → t.length < k + f → ∃ Y2, (∀ N, jM_midnightOf_2 N f Y v1 (nI k) = (jM_saveAt (pF Y2 18 (nI t.length)) 0).bind fun q40 => jM_midnightOf_60 N N (pA (pA q40 12 0 (-1)) 13 0 (-2)) v1 0 0) ∧ SZ Y Y2 ∧ Arr (sA Y2 7) t
  | 0, k, _, _, _, _, _, h2 => absurd h2 (by omega)
  | f + 1, k, Y, e14, a6, hd, hk, h2 => by
    by_cases q : k = t.length
    · refine ⟨Y, fun N => ?_, SZ.rf, fun i hi => hd i (by omega) hi⟩
      rw [jM_midnightOf_2, e14, if_pos (nI_le (by omega) (by omega))]
      rfl
    · have hk2 : k < t.length := by omega
      obtain ⟨Y2, e, s, e3⟩ := nt_copy hl v1 f (k + 1) (pA Y 7 k (nI t[k])) e14 a6 (fun i hi hi2 => by
        rw [sA_pA, if_pos rfl]
        show (if i = k then _ else _) = _
        by_cases z : i = k
        · subst z; rw [if_pos rfl]
        · rw [if_neg z]; exact hd i (by omega) hi2) (by omega) (by omega)
      refine ⟨Y2, fun N => ?_, (SZ.A _ _).tr s, e3⟩
      rw [jM_midnightOf_2, e14, if_neg (nI_ge (by omega) (by omega)), if_pos (ibN (by omega) (by omega)), if_pos (ibN (by omega) (by omega)), clN (by omega), a6 k hk2, nI_1 k]
      exact e N
theorem M_night {h : House} (O : Ok h) {Y : St} (K : HY h Y) {t : List Nat} (T : Tw (hn h) t) (e14 : sF Y 14 = nI t.length) (a6 : Arr (sA Y 6) t) {n : Nat} (h1 : 1 ≤ n) (h5 : n ≤ 5) : ∃ (N : Nat) (Y2 : St), jM_midnightOf N Y (nI n) = some (endS h n t 0, Y2) ∧ EqY Y Y2 := by
  have h7 := K.1
  have hl := T.len
  obtain ⟨k, rfl⟩ : ∃ k, n = k + 1 := ⟨n - 1, by omega⟩
  obtain ⟨Y1, e1, s1, a7⟩ := nt_copy (t := t) (by omega) (nI (k + 1)) 10 0 Y e14 a6 (fun i hi => absurd hi (by omega)) (by omega) (by omega)
  obtain ⟨Y2, e2, s2, sv⟩ := save_eq (d := 0) (by omega) (u := t) (by omega) (Y := pF Y1 18 (nI t.length)) rfl a7
  have s3 : LvE 0 Y2 (pA (pA Y2 12 0 (-1)) 13 0 (-2)) := (LvE.A _ (Or.inl rfl) (Nat.le_refl _) _).tr (LvE.A _ (Or.inr rfl) (Nat.le_refl _) _)
  have s4 : LvE 0 Y (pA (pA Y2 12 0 (-1)) 13 0 (-2)) := ((LvE.Z 0 (s1.tr (SZ.F _))).tr s2).tr s3
  obtain ⟨c, Y3, e3, s5⟩ := nt_node O (nt_child O k) 0 (k + 1) t (pA (pA Y2 12 0 (-1)) 13 0 (-2)) 0 (by omega) h5 (K.scr s4.eq) T sv rfl rfl
  refine ⟨1 + c, Y3, ?_, (s4.tr s5).eq⟩
  unfold jM_midnightOf
  have e3' := e3 (1 + c) 1
  rw [show nI 0 = (0 : Int32) from rfl] at e1 e2 e3'
  rw [e1, e2, bS, e3', ← show nI 0 = (0 : Int32) from rfl]
  unfold jM_midnightOf_154 jM_midnightOf_255
  rw [if_pos (by decide), jM_midnightOf_60, if_pos (by decide)]
theorem RelH.cnt9 {h : House} {t pg : List Nat} {X Y : St} (r : RelH h t pg X Y) {d : Nat} (hd : d < 30) (e1 : sF X 9 = nI d) (e2 : sF Y 25 = nI d) : RelH h t pg (pF X 9 (sF X 9 + 1)) (pF Y 25 (sF Y 25 + 1)) := by
  obtain ⟨⟨O, H, K, F⟩, T, P, Q, D1, D2, I⟩ := r
  refine ⟨⟨O, H, K, F⟩, T, P, Q, D1, ⟨d + 1, by omega, ?_, ?_⟩, I⟩
  · show sF X 9 + 1 = _
    rw [e1, nI_1]
  · show sF Y 25 + 1 = _
    rw [e2, nI_1]
theorem op_midnight : Op_midnight Rel := by
  intro X Y a1 hr
  obtain ⟨h, t, pg, hr⟩ := hr
  obtain ⟨d, d1, d2, d3⟩ := hr.2.2.2.2.2.1
  unfold jT_midnight jM_midnight
  rw [between_eq, in_int, show (1 : Int64).toInt = (1 : Int32).toInt from rfl, show (5 : Int64).toInt = (5 : Int32).toInt from rfl, bS]
  by_cases q : (1 : Int32).toInt ≤ a1.toInt ∧ a1.toInt ≤ (5 : Int32).toInt
  · have e1 : (1 : Int32).toInt = 1 := rfl
    have e5 : (5 : Int32).toInt = 5 := rfl
    obtain ⟨k, rfl, hk, -⟩ := toInt_nI (x := a1) (by omega)
    simp only [bS, if_neg (bI_T q)]
    by_cases q3 : d = 30
    · simp only [if_neg (show ¬ sF X 9 < 30 by rw [d2, q3]; decide), if_pos (show sF Y 25 = 30 by rw [d3, q3]; rfl)]
      exact ⟨0, _, _, _, rfl, rfl, h, t, pg, hr⟩
    · have hr2 := hr.cnt9 (by omega) d2 d3
      simp only [if_pos (show sF X 9 < 30 by rw [d2]; exact nI_lt (b := 30) (by omega) (by omega)), if_neg (show ¬ sF Y 25 = 30 by rw [d3]; intro z; have := nI_inj (a := d) (b := 30) (by omega) (by omega) z; omega)]
      generalize pF X 9 (sF X 9 + 1) = X1 at hr2
      generalize pF Y 25 (sF Y 25 + 1) = Y1 at hr2
      obtain ⟨⟨O, H2, K2, F⟩, ⟨T, tx, ty, ta⟩, -⟩ := id hr2
      obtain ⟨N, Y2, e, ey⟩ := M_night O K2 T ty ta (n := k) (by omega) (by omega)
      refine ⟨N, endS h k t 0, X1, Y2, ?_, ?_, h, t, pg, hr2.scr EqX.rfl ey⟩
      · rw [tx, show (0 : Int32) = nI 0 from rfl, L_end H2 k 8 t 0 (by omega) (by omega) (by omega) T, bS]
      · rw [e, bS]
  · simp only [bS, if_pos (bI_F q)]
    exact ⟨0, _, _, _, rfl, rfl, h, t, pg, hr⟩
