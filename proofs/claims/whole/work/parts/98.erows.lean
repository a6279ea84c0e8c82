/-! the reference's search as a whole -/
def LayO (h : House) (tl : Nat) (u : List Nat) (Y Y2 : St) (L : List Nat) (o : Option (List Nat)) (rows : List (List Nat)) : Prop := SL Y Y2 ∧ sF Y2 18 = nI (popN (u.length - tl) u.length) ∧ (∀ k, k < u.length → sA Y2 7 k = sA Y 7 k) ∧ (∀ j, j < u.length - tl → sA Y2 10 j = sA Y 10 j) ∧ BY Y2 (L ++ rows.map (bN h)) ∧ FdR tl Y2 (o.or rows.head?)
theorem LayO.tr {h : House} {tl : Nat} {u : List Nat} {Y Y1 Y2 : St} {L : List Nat} {o : Option (List Nat)} {a b : List (List Nat)} (s1 : SL Y Y1) (a7 : ∀ k, k < u.length → sA Y1 7 k = sA Y 7 k) (a10 : ∀ j, j < u.length - tl → sA Y1 10 j = sA Y 10 j) (q : LayO h tl u Y1 Y2 (L ++ a.map (bN h)) (o.or a.head?) b) : LayO h tl u Y Y2 L o (a ++ b) := by
  obtain ⟨q1, q2, q3, q4, q5, q6⟩ := q
  refine ⟨s1.tr q1, q2, fun k hk => (q3 k hk).trans (a7 k hk), fun j hj => (q4 j hj).trans (a10 j hj), ?_, ?_⟩
  · rw [List.map_append, ← List.append_assoc]; exact q5
  · rw [List.head?_append, ← Option.or_assoc]; exact q6
theorem BY.cg {Y Y2 : St} {L : List Nat} (h : BY Y L) (e : sA Y2 9 = sA Y 9) : BY Y2 L := by
  intro b hb
  rw [e]; exact h b hb
theorem Arr.cg {f g : Nat → Int32} {t : List Nat} (h : Arr f t) (e : ∀ k, k < t.length → g k = f k) : Arr g t := fun k hk => (e k hk).trans (h k hk)
theorem lay_enter {h : House} {tl : Nat} {u : List Nat} {Y : St} (s : LayS h tl u Y) (hl : u.length ≤ 7) {N mo : Nat} (hmo : mo ≤ 7) (hne : u.length ≠ mo) (n : Nat) (v1 : Int32) : jM_layRows_82 N (n + 1) Y v1 (nI mo) (nI (u.length - tl)) = jM_layRows_161 N (jM_layRows_82 N n) 10 Y v1 (nI mo) (nI (u.length - tl)) (sA Y 10 (u.length - tl)) := by
  obtain ⟨K, e14, e18, hA⟩ := s
  rw [jM_layRows_82, if_neg (nI_pos (by omega)), e18, if_neg (fun z => hne (nI_inj (by omega) (by omega) z)), if_pos (show nI mo ≤ 7 from nI_le (b := 7) hmo (by omega)), if_pos (ibN (by omega) (by omega)), clN (by omega)]
theorem fromS_out {h : House} {e : Nat} {u R : List Nat} : ∀ (k m : Nat), k + m = 7 → hn h ≤ m → fromS h e u R m = []
  | 0, m, hk, _ => by rw [show m = 7 by omega]; rfl
  | k + 1, m, hk, hm => by
    rw [fromS_s h e u R (by omega), fromS_out k (m + 1) (by omega) (by omega), if_neg, List.append_nil]
    intro z
    have := (mayS_iff (takeS_1.mp z).2.1).1
    omega
theorem lay_from {h : House} (O : Ok h) {S0 : List Nat} (h7S : all7 S0) {tl mo : Nat} (hmo : mo ≤ 7) {e : Nat} {u R : List Nat} (T : Tw (hn h) u) (hR : R.Nodup) (hRS : ∀ m, ¬ m ∈ u → (m ∈ R ↔ m ∈ S0)) (hl : e + 1 + u.length = 8) (ht : tl ≤ u.length) (hm0 : mo = u.length + R.length) (hRne : R ≠ [])
    (ih : ∀ (u R : List Nat) (Y : St) (L : List Nat) (o : Option (List Nat)), Tw (hn h) u → R.Nodup → (∀ m, ¬ m ∈ u → (m ∈ R ↔ m ∈ S0)) → e + u.length = 8 → tl ≤ u.length → mo = u.length + R.length → LayS h tl u Y → sA Y 10 (u.length - tl) = 0 → BY Y L → FdR tl Y o → ∃ (c : Nat) (Y2 : St), (∀ N n, jM_layRows_82 N (n + c) Y (nI (sN S0)) (nI mo) (nI (u.length - tl)) = jM_layRows_82 N n Y2 (nI (sN S0)) (nI mo) (nI (u.length - tl) + -1)) ∧ LayO h tl u Y Y2 L o (rowsS h e u R)) :
    ∀ (g m : Nat), g + m = hn h → ∀ (f : Nat) (Y : St) (L : List Nat) (o : Option (List Nat)), hn h < m + f → LayS h tl u Y → BY Y L → FdR tl Y o → ∃ (c : Nat) (Y2 : St), (∀ N n, jM_layRows_161 N (jM_layRows_82 N (n + c)) f Y (nI (sN S0)) (nI mo) (nI (u.length - tl)) (nI m) = jM_layRows_82 N n Y2 (nI (sN S0)) (nI mo) (nI (u.length - tl) + -1)) ∧ LayO h tl u Y Y2 L o (fromS h e u R m) := by
  intro g
  induction g with
  | zero =>
    intro m hg f Y L o hf s hB hF
    have h7 := s.1.1
    have hul := T.len
    obtain ⟨f, rfl⟩ : ∃ k, f = k + 1 := ⟨f - 1, by omega⟩
    obtain rfl : m = hn h := by omega
    refine ⟨0, pF (pA Y 10 (u.length - tl) (nI (hn h + 1))) 18 (nI (popN (u.length - tl) u.length)), fun N n => ?_, ?_⟩
    · rw [jM_layRows_161, s.1.2.1, if_pos (nI_le (Nat.le_refl _) (by omega)), lay_end s (by omega) ht]
      rfl
    · rw [fromS_out (7 - hn h) (hn h) (by omega) (Nat.le_refl _)]
      refine ⟨(SL.A (by omega) _ _).tr (SL.F (by omega) _), rfl, fun _ _ => rfl, fun j hj => ?_, ?_, ?_⟩
      · show sA (pA Y 10 (u.length - tl) (nI (hn h + 1))) 10 j = _
        rw [sA_pA, if_pos rfl]
        show (if j = u.length - tl then _ else _) = _
        rw [if_neg (by omega)]
      · rw [List.map_nil, List.append_nil]; exact hB.cg rfl
      · rw [List.head?_nil, Option.or_none]; exact hF.cg rfl rfl
  | succ g ihg =>
    intro m hg f Y L o hf s hB hF
    have h7 := s.1.1
    have hul := T.len
    have hm : m < hn h := by omega
    have hs := sN_lt h7S
    obtain ⟨f, rfl⟩ : ∃ k, f = k + 1 := ⟨f - 1, by omega⟩
    have skip : takeS h u R m ≠ true → (∀ N k, jM_layRows_161 N k (f + 1) Y (nI (sN S0)) (nI mo) (nI (u.length - tl)) (nI m) = jM_layRows_161 N k f Y (nI (sN S0)) (nI mo) (nI (u.length - tl)) (nI (m + 1))) → ∃ (c : Nat) (Y2 : St), (∀ N n, jM_layRows_161 N (jM_layRows_82 N (n + c)) (f + 1) Y (nI (sN S0)) (nI mo) (nI (u.length - tl)) (nI m) = jM_layRows_82 N n Y2 (nI (sN S0)) (nI mo) (nI (u.length - tl) + -1)) ∧ LayO h tl u Y Y2 L o (fromS h e u R m) := by
      intro q ek
      obtain ⟨c, Y2, e2, o2⟩ := ihg (m + 1) (by omega) f Y L o (by omega) s hB hF
      refine ⟨c, Y2, fun N n => (ek N _).trans (e2 N n), ?_⟩
      rw [fromS_s h e u R (by omega), if_neg q, List.nil_append]
      exact o2
    by_cases q1 : m ∈ S0
    · by_cases q2 : mayS h u m = true
      · have T2 := T.push hm (mayS_iff q2).2
        have hl2 : (u ++ [m]).length = u.length + 1 := by simp
        have hmR := (hRS m (mayS_iff q2).2).mpr q1
        have ed : (u ++ [m]).length - tl = u.length - tl + 1 := by rw [hl2]; omega
        have go : ∀ N k, jM_layRows_161 N k (f + 1) Y (nI (sN S0)) (nI mo) (nI (u.length - tl)) (nI m) = jM_layRows_202 N k Y (nI (sN S0)) (nI mo) (nI (u.length - tl)) (nI m) := by
          intro N k
          rw [jM_layRows_161, s.1.2.1, if_neg (nI_ge hm (by omega)), bit_shr (by omega) (by omega), sN_bit, decide_eq_true q1, if_neg (by decide), s.2.2.1, M_mayRise2 s.1 T.2 (by omega) s.2.2.2 hm, bS, if_neg (bI_ne q2)]
        have sp := YP_SL Y (u.length - tl) u m
        have KP := s.1.scr sp.eq
        have u7 : ∀ k, k < u.length → sA (YP Y (u.length - tl) u m) 7 k = sA Y 7 k := by
          intro k hk
          show (if k = u.length then _ else _) = _
          rw [if_neg (by omega)]
          rfl
        have u10 : ∀ j, sA (YP Y (u.length - tl) u m) 10 j = if j = u.length - tl then nI (m + 1) else sA Y 10 j := fun _ => rfl
        by_cases q3 : stands h (u ++ [m]) = true
        · have hz := takeS_1.mpr ⟨hmR, q2, q3⟩
          have hlR : (offS R m).length + 1 = R.length := by
            have e2 : offS R m = R.erase m := by
              rw [hR.erase_eq_filter]
              apply List.filter_congr
              intro y _
              by_cases z : y = m <;> simp [z]
            have := List.length_pos_of_mem hmR
            rw [e2, List.length_erase_of_mem hmR]
            omega
          obtain ⟨c1, Y1, e1, o1⟩ := ih (u ++ [m]) (offS R m) (pA (YP Y (u.length - tl) u m) 10 (u.length - tl + 1) 0) L o T2 (hR.filter _) (fun x hx => by
              have hx1 : ¬ x ∈ u := fun z => hx (List.mem_append_left _ z)
              have hx2 : x ≠ m := fun z => hx (by rw [z]; simp)
              rw [← hRS x hx1]
              simp [offS, List.mem_filter, hx2]) (by omega) (by omega) (by omega)
            ⟨KP.scr (SL.A (a := 10) (by omega) _ _).eq, s.2.1, by rw [hl2]; rfl, Arr_push s.2.2.2 m⟩ (by rw [ed]; show (if u.length - tl + 1 = u.length - tl + 1 then _ else _) = _; rw [if_pos rfl]) (hB.cg rfl) (hF.cg rfl rfl)
          rw [ed] at e1
          obtain ⟨o11, o12, o13, o14, o15, o16⟩ := o1
          rw [ed] at o14
          rw [ed, hl2, popN, if_neg (by omega), Nat.add_sub_cancel] at o12
          have a7 : ∀ k, k < u.length → sA Y1 7 k = sA Y 7 k := fun k hk => (o13 k (by omega)).trans (u7 k hk)
          have a10 : ∀ j, j < u.length - tl → sA Y1 10 j = sA Y 10 j := by
            intro j hj
            rw [o14 j (by omega)]
            show (if j = u.length - tl + 1 then _ else sA (YP Y (u.length - tl) u m) 10 j) = _
            rw [if_neg (by omega), u10, if_neg (by omega)]
          have a10d : sA Y1 10 (u.length - tl) = nI (m + 1) := by
            rw [o14 _ (by omega)]
            show (if u.length - tl = u.length - tl + 1 then _ else sA (YP Y (u.length - tl) u m) 10 (u.length - tl)) = _
            rw [if_neg (by omega), u10, if_pos rfl]
          have s1 : SL Y Y1 := (sp.tr (SL.A (a := 10) (by omega) _ _)).tr o11
          have L1 : LayS h tl u Y1 := ⟨s.1.scr s1.eq, (s1.1 14 (by decide) (by decide)).trans s.2.1, o12, s.2.2.2.cg a7⟩
          obtain ⟨c2, Y2, e2, o2⟩ := ihg (m + 1) (by omega) 10 Y1 _ _ (by omega) L1 o15 o16
          refine ⟨c2 + 1 + c1, Y2, fun N n => ?_, ?_⟩
          · rw [go, lay_push O s T2 ht, if_pos q3, ← Nat.add_assoc n, e1, pk_m1, ← Nat.add_assoc n, lay_enter L1 (by omega) hmo (by
              have := List.length_pos_iff.mpr hRne
              omega), a10d]
            exact e2 N n
          · rw [fromS_s h e u R (by omega), if_pos hz]
            exact LayO.tr s1 a7 a10 o2
        · have s1 : SL Y (pF (YP Y (u.length - tl) u m) 18 (nI u.length)) := sp.tr (SL.F (by omega) _)
          have a7 : ∀ k, k < u.length → sA (pF (YP Y (u.length - tl) u m) 18 (nI u.length)) 7 k = sA Y 7 k := u7
          have a10 : ∀ j, j < u.length - tl → sA (pF (YP Y (u.length - tl) u m) 18 (nI u.length)) 10 j = sA Y 10 j := by
            intro j hj
            show sA (YP Y (u.length - tl) u m) 10 j = _
            rw [u10, if_neg (by omega)]
          have a10d : sA (pF (YP Y (u.length - tl) u m) 18 (nI u.length)) 10 (u.length - tl) = nI (m + 1) := by
            show sA (YP Y (u.length - tl) u m) 10 (u.length - tl) = _
            rw [u10, if_pos rfl]
          have L1 : LayS h tl u (pF (YP Y (u.length - tl) u m) 18 (nI u.length)) := ⟨s.1.scr s1.eq, s.2.1, rfl, s.2.2.2.cg a7⟩
          obtain ⟨c2, Y2, e2, o2⟩ := ihg (m + 1) (by omega) 10 _ L o (by omega) L1 (hB.cg rfl) (hF.cg rfl rfl)
          refine ⟨c2 + 1, Y2, fun N n => ?_, ?_⟩
          · rw [go, lay_push O s T2 ht, if_neg q3, ← Nat.add_assoc n, lay_enter L1 (by omega) hmo (by
              have := List.length_pos_iff.mpr hRne
              omega), a10d]
            exact e2 N n
          · rw [fromS_s h e u R (by omega), if_neg (fun z => q3 (takeS_1.mp z).2.2)]
            refine LayO.tr s1 a7 a10 ?_
            rw [List.map_nil, List.append_nil, List.head?_nil, Option.or_none]
            exact o2
      · refine skip (fun z => q2 (takeS_1.mp z).2.1) (fun N k => ?_)
        rw [jM_layRows_161, s.1.2.1, if_neg (nI_ge hm (by omega)), bit_shr (by omega) (by omega), sN_bit, decide_eq_true q1, if_neg (by decide), s.2.2.1, M_mayRise2 s.1 T.2 (by omega) s.2.2.2 hm, bS, if_pos (bI_eq (Bool.eq_false_iff.mpr q2))]
        unfold jM_layRows_196
        rw [nI_1 m]
    · refine skip (fun z => q1 ((hRS m (mayS_iff (takeS_1.mp z).2.1).2).mp (takeS_1.mp z).1)) (fun N k => ?_)
      rw [jM_layRows_161, s.1.2.1, if_neg (nI_ge hm (by omega)), bit_shr (by omega) (by omega), sN_bit, decide_eq_false q1, if_pos (by decide)]
      unfold jM_layRows_196
      rw [nI_1 m]
theorem lay_pop {h : House} {tl : Nat} {u : List Nat} {Y : St} (e18 : sF Y 18 = nI u.length) (hl : u.length ≤ 7) {N : Nat} (k82 : St → Int32 → Int32 → Int32 → Option St) (v1 v2 : Int32) : jM_layRows_129 N k82 Y v1 v2 (nI (u.length - tl)) = k82 (pF Y 18 (nI (popN (u.length - tl) u.length))) v1 v2 (nI (u.length - tl) + -1) := by
  unfold jM_layRows_129 jM_layRows_146 popN
  rw [e18]
  by_cases q : u.length - tl = 0
  · rw [if_pos ((pop_lt _ (by omega)).mpr q), if_pos q, Int32.sub_zero]
  · rw [if_neg (fun z => q ((pop_lt _ (by omega)).mp z)), if_neg q, show (1 : Int32) = nI 1 from rfl, pk_sub (by omega)]
theorem lay_node {h : House} (O : Ok h) {S0 : List Nat} (h7S : all7 S0) {tl mo : Nat} (hmo : mo ≤ 7) : ∀ (e : Nat) (u R : List Nat) (Y : St) (L : List Nat) (o : Option (List Nat)), Tw (hn h) u → R.Nodup → (∀ m, ¬ m ∈ u → (m ∈ R ↔ m ∈ S0)) → e + u.length = 8 → tl ≤ u.length → mo = u.length + R.length → LayS h tl u Y → sA Y 10 (u.length - tl) = 0 → BY Y L → FdR tl Y o → ∃ (c : Nat) (Y2 : St), (∀ N n, jM_layRows_82 N (n + c) Y (nI (sN S0)) (nI mo) (nI (u.length - tl)) = jM_layRows_82 N n Y2 (nI (sN S0)) (nI mo) (nI (u.length - tl) + -1)) ∧ LayO h tl u Y Y2 L o (rowsS h e u R)
  | 0, u, R, Y, L, o, T, _, _, hl, _, _, s, _, _, _ => by have := T.len; have := s.1.1; omega
  | e + 1, u, R, Y, L, o, T, hR, hRS, hl, ht, hm0, s, h0, hB, hF => by
    have h7 := s.1.1
    have hul := T.len
    rw [rowsS_s]
    by_cases q : R = []
    · obtain ⟨b1, b2⟩ := bN_eq h u
      have hmu : mo = u.length := by rw [hm0, q]; rfl
      obtain ⟨Y2, e2, f2, a2, d2⟩ := found_eq (tl := tl) (u := u) (by omega) ht (Y := pA Y 9 (bN h u) 1) s.2.1 s.2.2.2 (o := o) (hF.cg rfl rfl)
      have s2 : SL Y (pF Y2 18 (nI (popN (u.length - tl) u.length))) := SL.tr (SL.tr (SL.A (a := 9) (by omega) _ _) ⟨fun q h1 h2 => f2 q h2, fun a h1 h2 h3 h4 => a2 a h2⟩) (SL.F (by omega) _)
      refine ⟨1, pF Y2 18 (nI (popN (u.length - tl) u.length)), fun N n => ?_, s2, rfl, ?_, ?_, ?_, ?_⟩
      · rw [jM_layRows_82, if_neg (nI_pos (by omega)), s.2.2.1, hmu, if_pos rfl]
        unfold jM_layRows_100
        rw [if_neg (show ¬ (7 : Int32) < nI u.length from nI_nlt (a := 7) (by omega) (by omega)), s.2.2.1, M_bill s.1 T.2 (by omega) s.2.2.2, bS, b1, if_pos (ibN (by omega) (by omega)), clN (by omega), e2, bS, lay_pop (h := h) ((f2 18 (by decide)).trans s.2.2.1) (by omega)]
      · intro k hk
        show sA Y2 7 k = _
        rw [a2 7 (by decide)]
        rfl
      · intro k hk
        show sA Y2 10 k = _
        rw [a2 10 (by decide)]
        rfl
      · rw [if_pos q]
        exact (hB.add b2).cg (a2 9 (by decide))
      · rw [if_pos q]
        exact d2.cg rfl rfl
    · obtain ⟨c, Y2, e2, o2⟩ := lay_from O h7S hmo T hR hRS hl ht hm0 q (lay_node O h7S hmo e) (hn h) 0 (by omega) 10 Y L o (by omega) s hB hF
      refine ⟨c + 1, Y2, fun N n => ?_, ?_⟩
      · rw [← Nat.add_assoc n, lay_enter s (by omega) hmo (by
          have := List.length_pos_iff.mpr q
          omega), h0]
        exact e2 N n
      · rw [if_neg q]
        exact o2
def setL (S : Nat) : List Nat := (List.range 7).filter (fun m => S.testBit m)
theorem setL_mem {S m : Nat} : m ∈ setL S ↔ m < 7 ∧ S.testBit m = true := by
  unfold setL
  rw [List.mem_filter, List.mem_range]
theorem setL_7 (S : Nat) : all7 (setL S) := fun _ hm => (setL_mem.mp hm).1
theorem setL_nd (S : Nat) : (setL S).Nodup := List.nodup_range.filter _
theorem setL_eq {S : Nat} (hS : S < 128) : sN (setL S) = S := by
  apply Nat.eq_of_testBit_eq
  intro j
  rw [sN_bit]
  by_cases q : S.testBit j = true
  · rw [q]
    refine decide_eq_true (setL_mem.mpr ⟨?_, q⟩)
    by_cases z : j < 7
    · exact z
    · have h2 := Nat.ge_two_pow_of_testBit q
      have h3 : 2 ^ 7 ≤ 2 ^ j := Nat.pow_le_pow_right (by decide) (by omega)
      omega
  · rw [Bool.eq_false_iff.mpr q]
    exact decide_eq_false (fun z => q (setL_mem.mp z).2)
theorem ones_lp {S : Nat} (hS : S < 128) : ∀ (f k : Nat), k ≤ 7 → 7 < k + f → jM_ones_4 f (nI S) (nI ((List.range k).filter (fun m => S.testBit m)).length) (nI k) = some (nI (setL S).length)
  | 0, k, _, h2 => absurd h2 (by omega)
  | f + 1, k, hk, h2 => by
    rw [jM_ones_4]
    by_cases q : k = 7
    · rw [if_pos (by rw [q]; decide), q]; rfl
    · have ih := ones_lp hS f (k + 1) (by omega) (by omega)
      rw [List.range_succ, List.filter_append] at ih
      rw [if_neg (show ¬ (7 : Int32) ≤ nI k from nI_ge (b := 7) (by omega) (by omega)), bit_shr (by omega) (by omega), nI_1 k]
      by_cases z : S.testBit k = true
      · rw [List.filter_cons_of_pos z, List.length_append] at ih
        rw [if_pos z, nI_1]
        exact ih
      · rw [List.filter_cons_of_neg z, List.filter_nil, List.append_nil] at ih
        rw [if_neg z, Int32.add_zero]
        exact ih
theorem ones_eq {S : Nat} (hS : S < 128) : jM_ones (nI S) = some (nI (setL S).length) := ones_lp hS 10 0 (by omega) (by omega)
theorem lay_zero (v1 : Int32) : ∀ (f k : Nat) (Y : St), k ≤ 1000 → 1000 < k + f → ∃ Y2, (∀ N, jM_layRows_2 N f Y v1 (nI k) = jM_layRows_29 N 10 (pF Y2 21 (-1)) v1 0) ∧ (∀ q, sF Y2 q = sF Y q) ∧ (∀ a, a ≠ 9 → sA Y2 a = sA Y a) ∧ ∀ b, b < 1000 → sA Y2 9 b = if k ≤ b then 0 else sA Y 9 b
  | 0, k, _, _, h2 => absurd h2 (by omega)
  | f + 1, k, Y, hk, h2 => by
    by_cases q : k = 1000
    · exact ⟨Y, fun N => by rw [jM_layRows_2, if_pos (by rw [q]; decide)], fun _ => rfl, fun _ _ => rfl, fun b hb => by rw [if_neg (by omega)]⟩
    · obtain ⟨Y2, e, e1, e2, e3⟩ := lay_zero v1 f (k + 1) (pA Y 9 k 0) (by omega) (by omega)
      refine ⟨Y2, fun N => ?_, e1, fun a ha => by rw [e2 a ha, sA_pA, if_neg ha], fun b hb => ?_⟩
      · rw [jM_layRows_2, if_neg (show ¬ (1000 : Int32) ≤ nI k from nI_ge (b := 1000) (by omega) (by omega)), if_pos (ibN (by omega) (by omega)), clN (by omega), nI_1 k]
        exact e N
      · rw [e3 b hb, sA_pA, if_pos rfl]
        show (if k + 1 ≤ b then (0 : Int32) else if b = k then 0 else sA Y 9 b) = _
        by_cases q1 : k ≤ b
        · rw [if_pos q1]
          by_cases q2 : k + 1 ≤ b
          · rw [if_pos q2]
          · rw [if_neg q2, if_pos (by omega)]
        · rw [if_neg q1, if_neg (by omega), if_neg (by omega)]
theorem lay_copy {S : Nat} (hS : S < 128) {t : List Nat} (hl : t.length ≤ 7) : ∀ (f k : Nat) (Y : St), sF Y 14 = nI t.length → Arr (sA Y 6) t → (∀ i, i < k → ∀ (hi : i < t.length), sA Y 7 i = nI t[i]) → k ≤ t.length → t.length < k + f → ∃ Y2, (∀ N, jM_layRows_29 N f Y (nI S) (nI k) = jM_layRows_82 N N (pA (pF Y2 18 (nI t.length)) 10 0 0) (nI S) (nI (t.length + (setL S).length)) 0) ∧ (∀ q, sF Y2 q = sF Y q) ∧ (∀ a, a ≠ 7 → sA Y2 a = sA Y a) ∧ Arr (sA Y2 7) t
  | 0, k, _, _, _, _, _, h2 => absurd h2 (by omega)
  | f + 1, k, Y, e14, a6, hd, hk, h2 => by
    by_cases q : k = t.length
    · refine ⟨Y, fun N => ?_, fun _ => rfl, fun _ _ => rfl, fun i hi => hd i (by omega) hi⟩
      rw [jM_layRows_29, e14, if_pos (nI_le (by omega) (by omega)), ones_eq hS, bS, if_pos (by decide), show sF (pF Y 18 (nI t.length)) 14 = nI t.length from e14, nI_add]
      rfl
    · have hk2 : k < t.length := by omega
      obtain ⟨Y2, e, e1, e2, e3⟩ := lay_copy hS hl f (k + 1) (pA Y 7 k (nI t[k])) e14 a6 (fun i hi hi2 => by
        rw [sA_pA, if_pos rfl]
        show (if i = k then _ else _) = _
        by_cases z : i = k
        · subst z; rw [if_pos rfl]
        · rw [if_neg z]; exact hd i (by omega) hi2) (by omega) (by omega)
      refine ⟨Y2, fun N => ?_, e1, fun a ha => by rw [e2 a ha, sA_pA, if_neg ha], e3⟩
      rw [jM_layRows_29, e14, if_neg (nI_ge (by omega) (by omega)), if_pos (ibN (by omega) (by omega)), if_pos (ibN (by omega) (by omega)), clN (by omega), a6 k hk2, nI_1 k]
      exact e N
theorem lay_eq {h : House} (O : Ok h) {Y : St} (K : HY h Y) {t : List Nat} (T : Tw (hn h) t) (e14 : sF Y 14 = nI t.length) (a6 : Arr (sA Y 6) t) {S : Nat} (hS : S < 128) : ∃ (N : Nat) (Y2 : St), jM_layRows N Y (nI S) = some Y2 ∧ SL Y Y2 ∧ BY Y2 ((rowsS h (8 - t.length) t (setL S)).map (bN h)) ∧ FdR t.length Y2 (rowsS h (8 - t.length) t (setL S)).head? := by
  have h7 := K.1
  have hl := T.len
  have rest : ∃ Y2, (∀ N, jM_layRows N Y (nI S) = jM_layRows_82 N N Y2 (nI S) (nI (t.length + (setL S).length)) 0) ∧ SL Y Y2 ∧ sF Y2 18 = nI t.length ∧ sA Y2 10 0 = 0 ∧ Arr (sA Y2 7) t ∧ BY Y2 [] ∧ sF Y2 21 = -1 := by
    obtain ⟨Y1, e1, f1, a1, b1⟩ := lay_zero (nI S) 1100 0 Y (by omega) (by omega)
    obtain ⟨Y2, e2, f2, a2, b2⟩ := lay_copy hS (t := t) (by omega) 10 0 (pF Y1 21 (-1)) ((f1 14).trans e14) (by
      show Arr (sA Y1 6) t
      rw [a1 6 (by decide)]; exact a6) (fun i hi => absurd hi (by omega)) (by omega) (by omega)
    refine ⟨pA (pF Y2 18 (nI t.length)) 10 0 0, fun N => (e1 N).trans (e2 N), ⟨fun q h1 h2 => ?_, fun a h1 h2 h3 h4 => ?_⟩, rfl, rfl, b2, ?_, ?_⟩
    · show sF (pF Y2 18 _) q = _
      rw [sF_pF, if_neg h1, f2, sF_pF, if_neg h2, f1]
    · rw [sA_pA, if_neg h4]
      show sA Y2 a = _
      rw [a2 a h1]
      exact a1 a h3
    · intro b hb
      show sA Y2 9 b = _
      rw [a2 9 (by decide)]
      show sA Y1 9 b = _
      rw [b1 b hb, if_pos (Nat.zero_le _)]
      rfl
    · show sF Y2 21 = -1
      rw [f2]
      rfl
  obtain ⟨Y2, e, s, f18, a10, a7, hB, f21⟩ := rest
  have f14 : sF Y2 14 = nI t.length := (s.1 14 (by decide) (by decide)).trans e14
  have hlR : (setL S).length ≤ 7 := nodup_len 7 _ (setL_nd S) (setL_7 S)
  by_cases q : t.length + (setL S).length ≤ 7
  · obtain ⟨c, Y3, e3, o1, o2, o3, o4, o5, o6⟩ := lay_node O (setL_7 S) q (8 - t.length) t (setL S) Y2 [] none T (setL_nd S) (fun _ _ => Iff.rfl) (by omega) (Nat.le_refl _) rfl ⟨K.scr s.eq, f14, f18, a7⟩ (by rw [Nat.sub_self]; exact a10) hB f21
    refine ⟨1 + c, Y3, ?_, s.tr o1, ?_, ?_⟩
    · rw [Nat.sub_self, setL_eq hS] at e3
      rw [e, show (0 : Int32) = nI 0 from rfl, e3, jM_layRows_82, if_pos (by decide)]
    · rw [List.nil_append] at o5; exact o5
    · rw [Option.none_or] at o6; exact o6
  · have er : rowsS h (8 - t.length) t (setL S) = [] := by
      cases hr : rowsS h (8 - t.length) t (setL S) with
      | nil => rfl
      | cons x l =>
        obtain ⟨T2, w, e1, e2⟩ := rows_mem (8 - t.length) t (setL S) T (setL_nd S) x (by rw [hr]; exact List.mem_cons_self)
        have := T2.len
        rw [e1, List.length_append, e2] at this
        omega
    refine ⟨2, pF Y2 18 (nI (popN (t.length - t.length) t.length)), ?_, s.tr (SL.F (by omega) _), ?_, ?_⟩
    · rw [e, jM_layRows_82, if_neg (by decide), f18, if_neg (fun z => by have := nI_inj (by omega) (by omega) z; omega), if_neg (show ¬ nI (t.length + (setL S).length) ≤ 7 from nI_ge (a := 7) (by omega) (by omega))]
      unfold jM_layRows_100
      rw [if_pos (show (7 : Int32) < nI (t.length + (setL S).length) from nI_lt (a := 7) (by omega) (by omega))]
      have := lay_pop (h := h) (tl := t.length) (N := 2) f18 (by omega) (jM_layRows_82 2 1) (nI S) (nI (t.length + (setL S).length))
      rw [Nat.sub_self] at this ⊢
      rw [show (0 : Int32) = nI 0 from rfl, this, jM_layRows_82, if_pos (by decide)]
    · rw [er]; exact hB.cg rfl
    · rw [er]; exact f21
