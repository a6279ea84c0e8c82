/-! the reference's search as a whole -/
def LayO (h : House) (tl : Nat) (u : List Nat) (Y Y2 : St) (L : List Nat) (o : Option (List Nat)) (rows : List (List Nat)) : Prop := SL Y Y2 ∧ sF Y2 18 = nI (popN (u.length - tl) u.length) ∧ (∀ k, k < u.length → sA Y2 7 k = sA Y 7 k) ∧ (∀ j, j < u.length - tl → sA Y2 10 j = sA Y 10 j) ∧ BY Y2 (L ++ rows.map (bN h)) ∧ FdR tl Y2 (o.or rows.head?)
theorem LayO.tr {h : House} {tl : Nat} {u : List Nat} {Y Y1 Y2 : St} {L : List Nat} {o : Option (List Nat)} {a b : List (List Nat)} (s1 : SL Y Y1) (a7 : ∀ k, k < u.length → sA Y1 7 k = sA Y 7 k) (a10 : ∀ j, j < u.length - tl → sA Y1 10 j = sA Y 10 j) (q : LayO h tl u Y1 Y2 (L ++ a.map (bN h)) (o.or a.head?) b) : LayO h tl u Y Y2 L o (a ++ b) := by
  obtain ⟨q1, q2, q3, q4, q5, q6⟩ := q
  refine ⟨s1.tr q1, q2, fun k hk => (q3 k hk).trans (a7 k hk), fun j hj => (q4 j hj).trans (a10 j hj), ?_, ?_⟩
  · rw [List.map_append, ← List.append_assoc]; exact q5
  · rw [List.head?_append, ← Option.or_assoc]; exact q6
theorem BY.cg {Y Y2 : St} {L : List Nat} (h : BY Y L) (e : sA Y2 9 = sA Y 9) : BY Y2 L := by
  intro b hb
  rw [e]; exact h b hb
theorem Arr.cg {f g : Nat → Int32} {t : List Nat} (h : Arr f t) (e : ∀ k, k < t.length → g k = f k) : Arr g t := fun k hk => (e k hk).trans (h k hk)
theorem lay_enter {h : House} {tl : Nat} {u : List Nat} {Y : St} (s : LayS h tl u Y) (hl : u.length ≤ 7) {N mo : Nat} (hmo : mo ≤ 7) (hne : u.length ≠ mo) (n : Nat) (v1 : Int32) : jM_layRows_82 N (n + 1) Y v1 (nI mo) (nI (u.length - tl)) = jM_layRows_161 N (jM_layRows_82 N n) 10 Y v1 (nI mo) (nI (u.length - tl)) (sA Y 10 (u.length - tl)) := by
  obtain ⟨K, e14, e18, hA⟩ := s
  rw [jM_layRows_82, if_neg (nI_pos (by omega)), e18, if_neg (fun z => hne (nI_inj (by omega) (by omega) z)), if_pos (show nI mo ≤ 7 from nI_le (b := 7) hmo (by omega)), if_pos (ibN (by omega) (by omega)), clN (by omega)]
theorem fromS_out {h : House} {e : Nat} {u R : List Nat} : ∀ (k m : Nat), k + m = 7 → hn h ≤ m → fromS h e u R m = []
  | 0, m, hk, _ => by rw [show m = 7 by omega]; rfl
  | k + 1, m, hk, hm => by
    rw [fromS_s h e u R (by omega), fromS_out k (m + 1) (by omega) (by omega), if_neg, List.append_nil]
    intro z
    have := (mayS_iff (takeS_1.mp z).2.1).1
    omega
theorem lay_from {h : House} (O : Ok h) {S0 : List Nat} (h7S : all7 S0) {N tl mo : Nat} (hmo : mo ≤ 7) {e : Nat} {u R : List Nat} (T : Tw (hn h) u) (hR : R.Nodup) (hRS : ∀ m, ¬ m ∈ u → (m ∈ R ↔ m ∈ S0)) (hl : e + 1 + u.length = 8) (ht : tl ≤ u.length) (hm0 : mo = u.length + R.length) (hRne : R ≠ [])
    (ih : ∀ (u R : List Nat) (Y : St) (L : List Nat) (o : Option (List Nat)), Tw (hn h) u → R.Nodup → (∀ m, ¬ m ∈ u → (m ∈ R ↔ m ∈ S0)) → e + u.length = 8 → tl ≤ u.length → mo = u.length + R.length → LayS h tl u Y → sA Y 10 (u.length - tl) = 0 → BY Y L → FdR tl Y o → ∃ (c : Nat) (Y2 : St), (∀ n, jM_layRows_82 N (n + c) Y (nI (sN S0)) (nI mo) (nI (u.length - tl)) = jM_layRows_82 N n Y2 (nI (sN S0)) (nI mo) (nI (u.length - tl) + -1)) ∧ LayO h tl u Y Y2 L o (rowsS h e u R)) :
    ∀ (g m : Nat), g + m = hn h → ∀ (f : Nat) (Y : St) (L : List Nat) (o : Option (List Nat)), hn h < m + f → LayS h tl u Y → BY Y L → FdR tl Y o → ∃ (c : Nat) (Y2 : St), (∀ n, jM_layRows_161 N (jM_layRows_82 N (n + c)) f Y (nI (sN S0)) (nI mo) (nI (u.length - tl)) (nI m) = jM_layRows_82 N n Y2 (nI (sN S0)) (nI mo) (nI (u.length - tl) + -1)) ∧ LayO h tl u Y Y2 L o (fromS h e u R m) := by
  intro g
  induction g with
  | zero =>
    intro m hg f Y L o hf s hB hF
    have h7 := s.1.1
    have hul := T.len
    obtain ⟨f, rfl⟩ : ∃ k, f = k + 1 := ⟨f - 1, by omega⟩
    obtain rfl : m = hn h := by omega
    refine ⟨0, pF (pA Y 10 (u.length - tl) (nI (hn h + 1))) 18 (nI (popN (u.length - tl) u.length)), fun n => ?_, ?_⟩
    · rw [jM_layRows_161, s.1.2.1, if_pos (nI_le (Nat.le_refl _) (by omega)), lay_end s (by omega) ht]
      rfl
    · rw [fromS_out (7 - hn h) (hn h) (by omega) (Nat.le_refl _)]
      refine ⟨(SL.A (by omega) _ _).tr (SL.F (by omega) _), rfl, fun _ _ => rfl, fun j hj => ?_, ?_, ?_⟩
      · show sA (pA Y 10 (u.length - tl) (nI (hn h + 1))) 10 j = _
        rw [sA_pA, if_pos rfl]
        show (if j = u.length - tl then _ else _) = _
        rw [if_neg (by omega)]
      · rw [List.map_nil, List.append_nil]; exact hB.cg rfl
      · rw [List.head?_nil, Option.or_none]; exact hF.cg rfl rfl
  | succ g ihg =>
    intro m hg f Y L o hf s hB hF
    have h7 := s.1.1
    have hul := T.len
    have hm : m < hn h := by omega
    have hs := sN_lt h7S
    obtain ⟨f, rfl⟩ : ∃ k, f = k + 1 := ⟨f - 1, by omega⟩
    have skip : takeS h u R m ≠ true → (∀ k, jM_layRows_161 N k (f + 1) Y (nI (sN S0)) (nI mo) (nI (u.length - tl)) (nI m) = jM_layRows_161 N k f Y (nI (sN S0)) (nI mo) (nI (u.length - tl)) (nI (m + 1))) → ∃ (c : Nat) (Y2 : St), (∀ n, jM_layRows_161 N (jM_layRows_82 N (n + c)) (f + 1) Y (nI (sN S0)) (nI mo) (nI (u.length - tl)) (nI m) = jM_layRows_82 N n Y2 (nI (sN S0)) (nI mo) (nI (u.length - tl) + -1)) ∧ LayO h tl u Y Y2 L o (fromS h e u R m) := by
      intro q ek
      obtain ⟨c, Y2, e2, o2⟩ := ihg (m + 1) (by omega) f Y L o (by omega) s hB hF
      refine ⟨c, Y2, fun n => (ek _).trans (e2 n), ?_⟩
      rw [fromS_s h e u R (by omega), if_neg q, List.nil_append]
      exact o2
    by_cases q1 : m ∈ S0
    · by_cases q2 : mayS h u m = true
      · have T2 := T.push hm (mayS_iff q2).2
        have hl2 : (u ++ [m]).length = u.length + 1 := by simp
        have hmR := (hRS m (mayS_iff q2).2).mpr q1
        have ed : (u ++ [m]).length - tl = u.length - tl + 1 := by rw [hl2]; omega
        have go : ∀ k, jM_layRows_161 N k (f + 1) Y (nI (sN S0)) (nI mo) (nI (u.length - tl)) (nI m) = jM_layRows_202 N k Y (nI (sN S0)) (nI mo) (nI (u.length - tl)) (nI m) := by
          intro k
          rw [jM_layRows_161, s.1.2.1, if_neg (nI_ge hm (by omega)), bit_shr (by omega) (by omega), sN_bit, decide_eq_true q1, if_neg (by decide), s.2.2.1, M_mayRise2 s.1 T.2 (by omega) s.2.2.2 hm, bS, if_neg (bI_ne q2)]
        have sp := YP_SL Y (u.length - tl) u m
        have KP := s.1.scr sp.eq
        have u7 : ∀ k, k < u.length → sA (YP Y (u.length - tl) u m) 7 k = sA Y 7 k := by
          intro k hk
          show (if k = u.length then _ else _) = _
          rw [if_neg (by omega)]
          rfl
        have u10 : ∀ j, sA (YP Y (u.length - tl) u m) 10 j = if j = u.length - tl then nI (m + 1) else sA Y 10 j := fun _ => rfl
        by_cases q3 : stands h (u ++ [m]) = true
        · have hz := takeS_1.mpr ⟨hmR, q2, q3⟩
          have hlR : (offS R m).length + 1 = R.length := by
            have e2 : offS R m = R.erase m := by
              rw [hR.erase_eq_filter]
              apply List.filter_congr
              intro y _
              by_cases z : y = m <;> simp [z]
            have := List.length_pos_of_mem hmR
            rw [e2, List.length_erase_of_mem hmR]
            omega
          obtain ⟨c1, Y1, e1, o1⟩ := ih (u ++ [m]) (offS R m) (pA (YP Y (u.length - tl) u m) 10 (u.length - tl + 1) 0) L o T2 (hR.filter _) (fun x hx => by
              have hx1 : ¬ x ∈ u := fun z => hx (List.mem_append_left _ z)
              have hx2 : x ≠ m := fun z => hx (by rw [z]; simp)
              rw [← hRS x hx1]
              simp [offS, List.mem_filter, hx2]) (by omega) (by omega) (by omega)
            ⟨KP.scr (SL.A (a := 10) (by omega) _ _).eq, s.2.1, by rw [hl2]; rfl, Arr_push s.2.2.2 m⟩ (by rw [ed]; show (if u.length - tl + 1 = u.length - tl + 1 then _ else _) = _; rw [if_pos rfl]) (hB.cg rfl) (hF.cg rfl rfl)
          rw [ed] at e1
          obtain ⟨o11, o12, o13, o14, o15, o16⟩ := o1
          rw [ed] at o14
          rw [ed, hl2, popN, if_neg (by omega), Nat.add_sub_cancel] at o12
          have a7 : ∀ k, k < u.length → sA Y1 7 k = sA Y 7 k := fun k hk => (o13 k (by omega)).trans (u7 k hk)
          have a10 : ∀ j, j < u.length - tl → sA Y1 10 j = sA Y 10 j := by
            intro j hj
            rw [o14 j (by omega)]
            show (if j = u.length - tl + 1 then _ else sA (YP Y (u.length - tl) u m) 10 j) = _
            rw [if_neg (by omega), u10, if_neg (by omega)]
          have a10d : sA Y1 10 (u.length - tl) = nI (m + 1) := by
            rw [o14 _ (by omega)]
            show (if u.length - tl = u.length - tl + 1 then _ else sA (YP Y (u.length - tl) u m) 10 (u.length - tl)) = _
            rw [if_neg (by omega), u10, if_pos rfl]
          have s1 : SL Y Y1 := (sp.tr (SL.A (a := 10) (by omega) _ _)).tr o11
          have L1 : LayS h tl u Y1 := ⟨s.1.scr s1.eq, (s1.1 14 (by decide) (by decide)).trans s.2.1, o12, s.2.2.2.cg a7⟩
          obtain ⟨c2, Y2, e2, o2⟩ := ihg (m + 1) (by omega) 10 Y1 _ _ (by omega) L1 o15 o16
          refine ⟨c2 + 1 + c1, Y2, fun n => ?_, ?_⟩
          · rw [go, lay_push O s T2 ht, if_pos q3, ← Nat.add_assoc n, e1, pk_m1, ← Nat.add_assoc n, lay_enter L1 (by omega) hmo (by
              have := List.length_pos_iff.mpr hRne
              omega), a10d]
            exact e2 n
          · rw [fromS_s h e u R (by omega), if_pos hz]
            exact LayO.tr s1 a7 a10 o2
        · have s1 : SL Y (pF (YP Y (u.length - tl) u m) 18 (nI u.length)) := sp.tr (SL.F (by omega) _)
          have a7 : ∀ k, k < u.length → sA (pF (YP Y (u.length - tl) u m) 18 (nI u.length)) 7 k = sA Y 7 k := u7
          have a10 : ∀ j, j < u.length - tl → sA (pF (YP Y (u.length - tl) u m) 18 (nI u.length)) 10 j = sA Y 10 j := by
            intro j hj
            show sA (YP Y (u.length - tl) u m) 10 j = _
            rw [u10, if_neg (by omega)]
          have a10d : sA (pF (YP Y (u.length - tl) u m) 18 (nI u.length)) 10 (u.length - tl) = nI (m + 1) := by
            show sA (YP Y (u.length - tl) u m) 10 (u.length - tl) = _
            rw [u10, if_pos rfl]
          have L1 : LayS h tl u (pF (YP Y (u.length - tl) u m) 18 (nI u.length)) := ⟨s.1.scr s1.eq, s.2.1, rfl, s.2.2.2.cg a7⟩
          obtain ⟨c2, Y2, e2, o2⟩ := ihg (m + 1) (by omega) 10 _ L o (by omega) L1 (hB.cg rfl) (hF.cg rfl rfl)
          refine ⟨c2 + 1, Y2, fun n => ?_, ?_⟩
          · rw [go, lay_push O s T2 ht, if_neg q3, ← Nat.add_assoc n, lay_enter L1 (by omega) hmo (by
              have := List.length_pos_iff.mpr hRne
              omega), a10d]
            exact e2 n
          · rw [fromS_s h e u R (by omega), if_neg (fun z => q3 (takeS_1.mp z).2.2)]
            refine LayO.tr s1 a7 a10 ?_
            rw [List.map_nil, List.append_nil, List.head?_nil, Option.or_none]
            exact o2
      · refine skip (fun z => q2 (takeS_1.mp z).2.1) (fun k => ?_)
        rw [jM_layRows_161, s.1.2.1, if_neg (nI_ge hm (by omega)), bit_shr (by omega) (by omega), sN_bit, decide_eq_true q1, if_neg (by decide), s.2.2.1, M_mayRise2 s.1 T.2 (by omega) s.2.2.2 hm, bS, if_pos (bI_eq (Bool.eq_false_iff.mpr q2))]
        unfold jM_layRows_196
        rw [nI_1 m]
    · refine skip (fun z => q1 ((hRS m (mayS_iff (takeS_1.mp z).2.1).2).mp (takeS_1.mp z).1)) (fun k => ?_)
      rw [jM_layRows_161, s.1.2.1, if_neg (nI_ge hm (by omega)), bit_shr (by omega) (by omega), sN_bit, decide_eq_false q1, if_pos (by decide)]
      unfold jM_layRows_196
      rw [nI_1 m]
