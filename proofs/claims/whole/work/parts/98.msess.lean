/-! sessions by a seed -/
def nxs (s : Nat) : Nat := (1103515245 * s + 12345) % 2147483648
def pks (n s : Nat) : Nat := nxs s / 65536 % n
theorem nxs_lt (s : Nat) : nxs s < 2147483648 := Nat.mod_lt _ (by decide)
theorem seed_L {s : Nat} (hs : s < 2147483648) : ((1103515245 : Int64) * lN s + 12345) - ((1103515245 : Int64) * lN s + 12345) / 2147483648 * 2147483648 = lN (nxs s) := by
  rw [show (1103515245 : Int64) = lN 1103515245 from rfl, show (12345 : Int64) = lN 12345 from rfl, show (2147483648 : Int64) = lN 2147483648 from rfl, lN_mul, lN_add, pk_lRem (by omega) (by omega) (by omega)]
  rfl
theorem pick_L {s n : Nat} (hn : 0 < n) (h7 : n ≤ 7) : ((lN (nxs s) / (65536 : Int64)) - (lN (nxs s) / (65536 : Int64)) / (nI n).toInt64 * (nI n).toInt64).toInt32 = nI (pks n s) := by
  have := nxs_lt s
  rw [nI_l (by omega), show (65536 : Int64) = lN 65536 from rfl, pk_lDiv (by omega) (by omega) (by omega), pk_lRem (by omega) (by omega) (by omega), lN_i]
  rfl
theorem seed_M {s : Nat} (hs : s < 2147483648) : (((1103515245 : Int64) * (nI s).toInt64 + 12345) &&& 2147483647).toInt32 = nI (nxs s) := by
  rw [nI_l hs, show (1103515245 : Int64) = lN 1103515245 from rfl, show (12345 : Int64) = lN 12345 from rfl, show (2147483647 : Int64) = lN (2 ^ 31 - 1) from rfl, lN_mul, lN_add, wb_mask (by omega) (by decide), lN_i]
  rfl
theorem pick_M {s n : Nat} (hn : 0 < n) (h7 : n ≤ 7) : (nI (nxs s) / 65536) - (nI (nxs s) / 65536) / nI n * nI n = nI (pks n s) := by
  have := nxs_lt s
  rw [show (65536 : Int32) = nI 65536 from rfl, pk_div (by omega) (by omega) (by omega), pk_rem (by omega) (by omega) (by omega)]
  rfl
def SS (Y Y2 : St) : Prop := (∀ q, q ≠ 18 → q ≠ 30 → sF Y2 q = sF Y q) ∧ ∀ a, a ≠ 7 → sA Y2 a = sA Y a
theorem SS.rf {Y : St} : SS Y Y := ⟨fun _ _ _ => rfl, fun _ _ => rfl⟩
theorem SS.tr {X X2 X3 : St} (a : SS X X2) (b : SS X2 X3) : SS X X3 := ⟨fun q h1 h2 => (b.1 q h1 h2).trans (a.1 q h1 h2), fun i h => (b.2 i h).trans (a.2 i h)⟩
theorem SS.Z {X X2 : St} (a : SZ X X2) : SS X X2 := ⟨fun q h _ => a.1 q h, a.2⟩
theorem SS.F {Y : St} (v : Int32) : SS Y (pF Y 30 v) := ⟨fun q _ h => by rw [sF_pF, if_neg h], fun _ _ => rfl⟩
theorem SS.eq {Y Y2 : St} (s : SS Y Y2) : EqY Y Y2 :=
  ⟨⟨s.1 _ (by decide) (by decide), s.1 _ (by decide) (by decide), s.1 _ (by decide) (by decide), s.1 _ (by decide) (by decide), s.1 _ (by decide) (by decide)⟩, ⟨s.1 _ (by decide) (by decide), s.1 _ (by decide) (by decide), s.1 _ (by decide) (by decide), s.1 _ (by decide) (by decide), s.1 _ (by decide) (by decide)⟩, ⟨s.2 _ (by decide), s.2 _ (by decide), s.2 _ (by decide), s.2 _ (by decide)⟩, ⟨s.2 _ (by decide), s.2 _ (by decide), s.2 _ (by decide)⟩⟩
theorem ss_lp {h : House} (O : Ok h) {X : St} (H : HX h X) {n1 : Nat} (hn1 : n1 ≤ 60) (a3 : Int32) : ∀ (f k : Nat) (Y : St) (u : List Nat) (c : Int32) (s : Nat), HY h Y → Tw (hn h) u → sF Y 18 = nI u.length → Arr (sA Y 7) u → s < 2147483648 → sF Y 30 = nI s → k ≤ n1 → n1 < k + f → ∃ r Y2, jT_sessions_51 X f (nI n1) a3 (nI (hn h)) (enc u) c (lN s) (nI k) = some r ∧ jM_sessions_82 f Y (nI n1) a3 c (nI k) = some (r, Y2) ∧ SS Y Y2
  | 0, k, _, _, _, _, _, _, _, _, _, _, _, hf => absurd hf (by omega)
  | f + 1, k, Y, u, c, s, K, T, e18, a7, hs, e30, hk, hf => by
    have h7 := H.1
    have hl := T.len
    have fin : ∃ r, jT_sessions_139 X a3 (enc u) c (lN s) = some r ∧ jM_sessions_147 Y a3 c = some (r, Y) := by
      unfold jT_sessions_139 jM_sessions_147
      rw [L_size2 h7 T, L_bill2 H T, e18, M_bill K T.2 (by omega) a7, e30, lN_i]
      simp only [bS]
      by_cases q0 : a3 = 0
      · rw [if_pos q0, if_pos q0]; exact ⟨_, rfl, rfl⟩
      · rw [if_neg q0, if_neg q0]
        by_cases q1 : a3 = 1
        · rw [if_pos q1, if_pos q1]; exact ⟨_, rfl, rfl⟩
        · rw [if_neg q1, if_neg q1]
          by_cases q2 : a3 = 2
          · rw [if_pos q2, if_pos q2]; exact ⟨_, rfl, rfl⟩
          · rw [if_neg q2, if_neg q2]; exact ⟨_, rfl, rfl⟩
    rw [jT_sessions_51, jM_sessions_82]
    by_cases q : k = n1
    · obtain ⟨r, r1, r2⟩ := fin
      rw [if_pos (nI_le (by omega) (by omega)), if_pos (nI_le (by omega) (by omega))]
      exact ⟨r, Y, r1, r2, SS.rf⟩
    · rw [if_neg (nI_ge (by omega) (by omega)), if_neg (nI_ge (by omega) (by omega)), K.2.1]
      by_cases q0 : hn h = 0
      · obtain ⟨r, r1, r2⟩ := fin
        rw [if_pos (by rw [q0]; decide), if_pos (by rw [q0]; decide)]
        exact ⟨r, Y, r1, r2, SS.rf⟩
      · have hm : pks (hn h) s < hn h := Nat.mod_lt _ (by omega)
        have K1 : HY h (pF Y 30 (nI (nxs s))) := K.scr (SS.F (Y := Y) (nI (nxs s))).eq
        unfold jM_draw
        rw [if_neg (nI_nle (by omega) (by omega)), if_neg (nI_nle (by omega) (by omega)), if_neg (show ¬ (nI (hn h)).toInt64 = 0 by
          rw [nI_l (by omega)]
          intro z
          have := (lN_eq (b := 0) (by omega) (by omega)).mp z
          omega), seed_L hs, pick_L (by omega) h7, L_canRise2 H T (by omega), bS, if_neg (nI_ne0 (by omega) (by omega)), e30, seed_M hs, show sF (pF Y 30 (nI (nxs s))) 30 = nI (nxs s) from rfl, pick_M (by omega) h7, bS]
        dsimp only
        rw [show sF (pF Y 30 (nI (nxs s))) 18 = nI u.length from e18, M_mayRise2 K1 T.2 (by omega) a7 hm, bS]
        have s0 := SS.F (Y := Y) (nI (nxs s))
        by_cases q1 : mayS h u (pks (hn h) s) = true
        · have T2 := T.push hm (mayS_iff q1).2
          obtain ⟨Y2, e, sz, f18, b7⟩ := M_rises O K1 T2 e18 a7
          have K2 := K1.scr sz.eq
          have g30 : sF Y2 30 = nI (nxs s) := (sz.1 30 (by decide)).trans rfl
          rw [if_neg (bI_ne q1), if_neg (bI_ne q1), L_risen2 H T2, bS, e, bS]
          dsimp only
          unfold jT_sessions_130 jT_sessions_133 jM_sessions_138 jM_sessions_141
          rw [nI_1]
          by_cases q2 : stands h (u ++ [pks (hn h) s]) = true
          · rw [if_pos q2, if_neg (enc_ne (memn_7 h7 T2.2) (by have := T2.len; omega) (by simp)), q2, if_pos (by decide)]
            rw [if_pos q2] at f18
            obtain ⟨r, Y3, r1, r2, r3⟩ := ss_lp O H hn1 a3 f (k + 1) Y2 _ (c + 0) (nxs s) K2 T2 f18 b7 (nxs_lt s) g30 (by omega) (by omega)
            exact ⟨r, Y3, r1, r2, (s0.tr (SS.Z sz)).tr r3⟩
          · rw [if_neg q2, if_pos rfl, Bool.eq_false_iff.mpr q2, if_neg (by decide)]
            rw [if_neg q2] at f18
            obtain ⟨r, Y3, r1, r2, r3⟩ := ss_lp O H hn1 a3 f (k + 1) Y2 [] (c + 1) (nxs s) K2 Tw_nil f18 Arr_nil (nxs_lt s) g30 (by omega) (by omega)
            exact ⟨r, Y3, r1, r2, (s0.tr (SS.Z sz)).tr r3⟩
        · have q1' := bI_eq (Bool.eq_false_iff.mpr q1)
          rw [if_pos q1', if_pos q1']
          unfold jT_sessions_133 jM_sessions_141
          rw [nI_1]
          obtain ⟨r, Y3, r1, r2, r3⟩ := ss_lp O H hn1 a3 f (k + 1) (pF Y 30 (nI (nxs s))) u c (nxs s) K1 T e18 a7 (nxs_lt s) rfl (by omega) (by omega)
          exact ⟨r, Y3, r1, r2, s0.tr r3⟩
theorem ss_copy {t : List Nat} (hl : t.length ≤ 7) (v1 v2 v3 : Int32) : ∀ (f k : Nat) (Y : St), sF Y 14 = nI t.length → Arr (sA Y 6) t → (∀ i, i < k → ∀ (hi : i < t.length), sA Y 7 i = nI t[i]) → k ≤ t.length → t.length < k + f → ∃ Y2, jM_sessions_34 f Y v1 v2 v3 (nI k) = jM_sessions_82 70 (pF (pF Y2 18 (nI t.length)) 30 v2) v1 v3 0 0 ∧ SZ Y Y2 ∧ Arr (sA Y2 7) t
  | 0, k, _, _, _, _, _, h2 => absurd h2 (by omega)
  | f + 1, k, Y, e14, a6, hd, hk, h2 => by
    by_cases q : k = t.length
    · refine ⟨Y, ?_, SZ.rf, fun i hi => hd i (by omega) hi⟩
      rw [jM_sessions_34, e14, if_pos (nI_le (by omega) (by omega))]
    · have hk2 : k < t.length := by omega
      obtain ⟨Y2, e, s, e3⟩ := ss_copy hl v1 v2 v3 f (k + 1) (pA Y 7 k (nI t[k])) e14 a6 (fun i hi hi2 => by
        rw [sA_pA, if_pos rfl]
        show (if i = k then _ else _) = _
        by_cases z : i = k
        · subst z; rw [if_pos rfl]
        · rw [if_neg z]; exact hd i (by omega) hi2) (by omega) (by omega)
      refine ⟨Y2, ?_, (SZ.A _ _).tr s, e3⟩
      rw [jM_sessions_34, e14, if_neg (nI_ge (by omega) (by omega)), if_pos (ibN (by omega) (by omega)), if_pos (ibN (by omega) (by omega)), clN (by omega), a6 k hk2, nI_1 k]
      exact e
theorem op_sessions : Op_sessions Rel := by
  intro X Y a1 a2 a3 hr
  obtain ⟨h, t, pg, hr⟩ := hr
  obtain ⟨⟨O, H, K, F⟩, ⟨T, tx, ty, ta⟩, -⟩ := id hr
  have h7 := H.1
  have hl := T.len
  unfold jT_sessions jM_sessions
  rw [between_eq, between_eq, in_int, in_int, show (1 : Int64).toInt = (1 : Int32).toInt from rfl, show (60 : Int64).toInt = (60 : Int32).toInt from rfl, show (0 : Int64).toInt = (0 : Int32).toInt from rfl, show (3 : Int64).toInt = (3 : Int32).toInt from rfl]
  simp only [bS]
  by_cases q1 : (1 : Int32).toInt ≤ a1.toInt ∧ a1.toInt ≤ (60 : Int32).toInt
  · simp only [if_neg (bI_T q1)]
    by_cases q2 : a2 < 0
    · simp only [if_pos q2]
      exact ⟨_, _, rfl, rfl, h, t, pg, hr⟩
    · simp only [if_neg q2]
      by_cases q3 : (0 : Int32).toInt ≤ a3.toInt ∧ a3.toInt ≤ (3 : Int32).toInt
      · simp only [if_neg (bI_T q3)]
        have e1 : (1 : Int32).toInt = 1 := rfl
        have e60 : (60 : Int32).toInt = 60 := rfl
        obtain ⟨n1, rfl, hk, -⟩ := toInt_nI (x := a1) (by omega)
        obtain ⟨s, hs, rfl⟩ := nI_of q2
        obtain ⟨Y1, c1, c2, c3⟩ := ss_copy (t := t) (by omega) (nI n1) (nI s) a3 10 0 Y ty ta (fun i hi => absurd hi (by omega)) (by omega) (by omega)
        have s1 : SS Y (pF (pF Y1 18 (nI t.length)) 30 (nI s)) := ((SS.Z c2).tr (SS.Z (SZ.F _))).tr (SS.F _)
        obtain ⟨r, Y2, r1, r2, r3⟩ := ss_lp O H (n1 := n1) (by omega) a3 70 0 (pF (pF Y1 18 (nI t.length)) 30 (nI s)) t 0 s (K.scr s1.eq) T rfl c3 (by omega) rfl (by omega) (by omega)
        refine ⟨r, Y2, ?_, ?_, h, t, pg, hr.scr EqX.rfl (s1.tr r3).eq⟩
        · rw [jCh_size, bS, H.2.1, tx, nI_l (by omega)]
          exact r1
        · rw [show (0 : Int32) = nI 0 from rfl, c1]
          exact r2
      · simp only [if_pos (bI_F q3)]
        exact ⟨_, _, rfl, rfl, h, t, pg, hr⟩
  · simp only [if_pos (bI_F q1)]
    exact ⟨_, _, rfl, rfl, h, t, pg, hr⟩
