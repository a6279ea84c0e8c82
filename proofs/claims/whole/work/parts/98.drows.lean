/-! the same towers, laid by the reference -/
def SL (Y Y2 : St) : Prop := (∀ q, q ≠ 18 → q ≠ 21 → sF Y2 q = sF Y q) ∧ ∀ a, a ≠ 7 → a ≠ 8 → a ≠ 9 → a ≠ 10 → sA Y2 a = sA Y a
theorem SL.rf {Y : St} : SL Y Y := ⟨fun _ _ _ => rfl, fun _ _ _ _ _ => rfl⟩
theorem SL.tr {X X2 X3 : St} (a : SL X X2) (b : SL X2 X3) : SL X X3 := ⟨fun q h1 h2 => (b.1 q h1 h2).trans (a.1 q h1 h2), fun i h1 h2 h3 h4 => (b.2 i h1 h2 h3 h4).trans (a.2 i h1 h2 h3 h4)⟩
theorem SL.F {Y : St} {k : Nat} (hk : k = 18 ∨ k = 21) (v : Int32) : SL Y (pF Y k v) := ⟨fun q h1 h2 => by rw [sF_pF, if_neg (by omega)], fun _ _ _ _ _ => rfl⟩
theorem SL.A {Y : St} {a : Nat} (ha : a = 7 ∨ a = 8 ∨ a = 9 ∨ a = 10) (j : Nat) (v : Int32) : SL Y (pA Y a j v) := ⟨fun _ _ _ => rfl, fun b h1 h2 h3 h4 => by rw [sA_pA, if_neg (by omega)]⟩
theorem SL.eq {Y Y2 : St} (s : SL Y Y2) : EqY Y Y2 :=
  ⟨⟨s.1 _ (by decide) (by decide), s.1 _ (by decide) (by decide), s.1 _ (by decide) (by decide), s.1 _ (by decide) (by decide), s.1 _ (by decide) (by decide)⟩, ⟨s.1 _ (by decide) (by decide), s.1 _ (by decide) (by decide), s.1 _ (by decide) (by decide), s.1 _ (by decide) (by decide), s.1 _ (by decide) (by decide)⟩, ⟨s.2 _ (by decide) (by decide) (by decide) (by decide), s.2 _ (by decide) (by decide) (by decide) (by decide), s.2 _ (by decide) (by decide) (by decide) (by decide), s.2 _ (by decide) (by decide) (by decide) (by decide)⟩, ⟨s.2 _ (by decide) (by decide) (by decide) (by decide), s.2 _ (by decide) (by decide) (by decide) (by decide), s.2 _ (by decide) (by decide) (by decide) (by decide)⟩⟩
def FdR (tl : Nat) (Y : St) : Option (List Nat) → Prop
  | none => sF Y 21 = -1
  | some x => sF Y 21 = nI (x.length - tl) ∧ tl ≤ x.length ∧ x.length ≤ 7 ∧ ∀ i (hi : tl + i < x.length), sA Y 8 i = nI x[tl + i]
theorem FdR.cg {tl : Nat} {Y Y2 : St} {o : Option (List Nat)} (h : FdR tl Y o) (e1 : sF Y2 21 = sF Y 21) (e2 : sA Y2 8 = sA Y 8) : FdR tl Y2 o := by
  cases o with
  | none => exact e1.trans h
  | some x =>
    obtain ⟨a, b, c, d⟩ := h
    exact ⟨e1.trans a, b, c, by rw [e2]; exact d⟩
theorem nI_m1 {k : Nat} (h : k < 2147483648) : ¬ nI k = -1 := by
  intro z
  have z1 : (nI k).toInt = (-1 : Int32).toInt := by rw [z]
  rw [nI_toInt h] at z1
  have : (-1 : Int32).toInt = -1 := rfl
  omega
theorem found_lp {tl : Nat} {u : List Nat} (hl : u.length ≤ 7) (ht : tl ≤ u.length) : ∀ (f k : Nat) (Y : St), sF Y 14 = nI tl → sF Y 21 = nI (u.length - tl) → Arr (sA Y 7) u → (∀ i, i < k → ∀ (hi : tl + i < u.length), sA Y 8 i = nI u[tl + i]) → k ≤ u.length - tl → u.length - tl < k + f → ∃ Y2, jM_layFound_20 f Y (nI k) = some Y2 ∧ (∀ q, sF Y2 q = sF Y q) ∧ (∀ a, a ≠ 8 → sA Y2 a = sA Y a) ∧ FdR tl Y2 (some u)
  | 0, k, _, _, _, _, _, _, h2 => absurd h2 (by omega)
  | f + 1, k, Y, e14, e21, hA, hd, hk, h2 => by
    rw [jM_layFound_20, e21]
    by_cases q : k = u.length - tl
    · rw [if_pos (nI_le (by omega) (by omega))]
      exact ⟨Y, rfl, fun _ => rfl, fun _ _ => rfl, e21, ht, hl, fun i hi => hd i (by omega) hi⟩
    · have hk2 : tl + k < u.length := by omega
      rw [if_neg (nI_ge (by omega) (by omega)), e14, nI_add, if_pos (ibN (by omega) (by omega)), if_pos (ibN (by omega) (by omega)), clN (by omega), clN (by omega), hA _ hk2, nI_1 k]
      obtain ⟨Y2, e, e1, e2, e3⟩ := found_lp hl ht f (k + 1) (pA Y 8 k (nI u[tl + k])) e14 e21 hA (fun i hi hi2 => by
        rw [sA_pA, if_pos rfl]
        show (if i = k then _ else _) = _
        by_cases z : i = k
        · subst z; rw [if_pos rfl]
        · rw [if_neg z]; exact hd i (by omega) hi2) (by omega) (by omega)
      exact ⟨Y2, e, fun q => (e1 q), fun a ha => by rw [e2 a ha, sA_pA, if_neg ha], e3⟩
theorem found_eq {tl : Nat} {u : List Nat} (hl : u.length ≤ 7) (ht : tl ≤ u.length) {Y : St} (e14 : sF Y 14 = nI tl) (hA : Arr (sA Y 7) u) {o : Option (List Nat)} (hf : FdR tl Y o) : ∃ Y2, jM_layFound Y (nI u.length) = some Y2 ∧ (∀ q, q ≠ 21 → sF Y2 q = sF Y q) ∧ (∀ a, a ≠ 8 → sA Y2 a = sA Y a) ∧ FdR tl Y2 (o.or (some u)) := by
  unfold jM_layFound
  cases o with
  | none =>
    rw [if_pos (show sF Y 21 = -1 from hf), e14, pk_sub ht]
    obtain ⟨Y2, e, e1, e2, e3⟩ := found_lp hl ht 10 0 (pF Y 21 (nI (u.length - tl))) e14 rfl hA (fun i hi => absurd hi (by omega)) (by omega) (by omega)
    exact ⟨Y2, e, fun q hq => by rw [e1, sF_pF, if_neg hq], e2, e3⟩
  | some x =>
    have h2 := hf.2.2.1
    rw [if_neg (by rw [hf.1]; exact nI_m1 (by omega))]
    exact ⟨Y, rfl, fun _ _ => rfl, fun _ _ => rfl, hf⟩
theorem BY.add {Y : St} {L : List Nat} (hB : BY Y L) {b : Nat} (hb : b ≤ 999) : BY (pA Y 9 b 1) (L ++ [b]) := by
  intro c hc
  rw [sA_pA, if_pos rfl]
  show (if c = b then _ else _) = _
  by_cases z : c = b
  · rw [if_pos z, if_pos (by simp [z])]
  · rw [if_neg z, hB c hc]
    by_cases y : c ∈ L
    · rw [if_pos y, if_pos (List.mem_append_left _ y)]
    · rw [if_neg y, if_neg]
      intro w
      rcases List.mem_append.mp w with w | w
      · exact y w
      · exact z (List.mem_singleton.mp w)
/-- the pop's answer -/
def popN (dep n : Nat) : Nat := if dep = 0 then n else n - 1
theorem pop_lt (dep : Nat) (hd : dep ≤ 7) : (nI dep + -1 < 0) ↔ dep = 0 := by
  cases dep with
  | zero => exact ⟨fun _ => rfl, fun _ => by decide⟩
  | succ d =>
    rw [pk_m1]
    exact ⟨fun z => absurd z (nI_pos (by omega)), fun z => absurd z (by omega)⟩
def LayS (h : House) (tl : Nat) (u : List Nat) (Y : St) : Prop := HY h Y ∧ sF Y 14 = nI tl ∧ sF Y 18 = nI u.length ∧ Arr (sA Y 7) u
theorem lay_end {h : House} {tl : Nat} {u : List Nat} {Y : St} (s : LayS h tl u Y) (hl : u.length ≤ 7) (ht : tl ≤ u.length) {N : Nat} (k82 : St → Int32 → Int32 → Int32 → Option St) (v1 v2 : Int32) : jM_layRows_202 N k82 Y v1 v2 (nI (u.length - tl)) (nI (hn h)) = k82 (pF (pA Y 10 (u.length - tl) (nI (hn h + 1))) 18 (nI (popN (u.length - tl) u.length))) v1 v2 (nI (u.length - tl) + -1) := by
  obtain ⟨K, e14, e18, hA⟩ := s
  unfold jM_layRows_202 jM_layRows_238 jM_layRows_304 popN
  rw [if_pos (ibN (by omega) (by omega)), clN (by omega), show sF (pA Y 10 (u.length - tl) (nI (hn h) + 1)) 12 = nI (hn h) from K.2.1, show sF (pA Y 10 (u.length - tl) (nI (hn h) + 1)) 18 = nI u.length from e18, if_neg (Int32.lt_irrefl), nI_1 (hn h)]
  by_cases q : u.length - tl = 0
  · rw [if_pos ((pop_lt _ (by omega)).mpr q), if_pos q, Int32.sub_zero]
  · rw [if_neg (fun z => q ((pop_lt _ (by omega)).mp z)), if_neg q, show (1 : Int32) = nI 1 from rfl, pk_sub (by omega)]
def YP (Y : St) (dep : Nat) (u : List Nat) (m : Nat) : St := pF (pA (pA Y 10 dep (nI (m + 1))) 7 u.length (nI m)) 18 (nI (u.length + 1))
theorem YP_SL (Y : St) (dep : Nat) (u : List Nat) (m : Nat) : SL Y (YP Y dep u m) := ((SL.A (by omega) _ _).tr (SL.A (by omega) _ _)).tr (SL.F (by omega) _)
theorem lay_push {h : House} (O : Ok h) {tl : Nat} {u : List Nat} {Y : St} (s : LayS h tl u Y) {m : Nat} (T2 : Tw (hn h) (u ++ [m])) (ht : tl ≤ u.length) {N : Nat} (k82 : St → Int32 → Int32 → Int32 → Option St) (v1 v2 : Int32) : jM_layRows_202 N k82 Y v1 v2 (nI (u.length - tl)) (nI m) = if stands h (u ++ [m]) = true then k82 (pA (YP Y (u.length - tl) u m) 10 (u.length - tl + 1) 0) v1 v2 (nI (u.length - tl + 1)) else k82 (pF (YP Y (u.length - tl) u m) 18 (nI u.length)) v1 v2 (nI (u.length - tl)) := by
  obtain ⟨K, e14, e18, hA⟩ := s
  have h7 := K.1
  have hl2 : (u ++ [m]).length = u.length + 1 := by simp
  have hl3 := T2.len
  have hm : m < hn h := T2.2 m (by simp)
  have A2 : Arr (sA (YP Y (u.length - tl) u m) 7) (u ++ [m]) := Arr_push hA m
  have eh := M_holds O (K.scr (YP_SL Y (u.length - tl) u m).eq) T2.2 (by omega) A2
  rw [hl2] at eh
  unfold jM_layRows_202 jM_layRows_304
  rw [if_pos (ibN (by omega) (by omega)), clN (by omega), nI_1 m, show sF (pA Y 10 (u.length - tl) (nI (m + 1))) 12 = nI (hn h) from K.2.1, show sF (pA Y 10 (u.length - tl) (nI (m + 1))) 18 = nI u.length from e18, if_pos (nI_lt hm (by omega)), if_pos (ibN (by omega) (by omega)), clN (by omega), show sF (pA (pA Y 10 (u.length - tl) (nI (m + 1))) 7 u.length (nI m)) 18 = nI u.length from e18, nI_1 u.length]
  show ((jM_holds (YP Y (u.length - tl) u m) 7 (nI (u.length + 1))).bind _) = _
  rw [eh, bS]
  by_cases q : stands h (u ++ [m]) = true
  · rw [if_neg (bI_ne q), if_pos q, nI_1 (u.length - tl), if_pos (ibN (by omega) (by omega)), clN (by omega)]
    rfl
  · rw [if_pos (bI_eq (Bool.eq_false_iff.mpr q)), if_neg q]
    show k82 (pF (YP Y (u.length - tl) u m) 18 (nI (u.length + 1) - 1)) v1 v2 (nI (u.length - tl)) = _
    rw [nI_pred]
