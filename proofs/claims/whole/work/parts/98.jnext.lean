/-! the reference's next order of a row -/
def OA (Y Y2 : St) : Prop := (∀ q, sF Y2 q = sF Y q) ∧ (∀ a, a ≠ 11 → sA Y2 a = sA Y a) ∧ ∀ q, sG Y2 q = sG Y q
theorem OA.rf {Y : St} : OA Y Y := ⟨fun _ => rfl, fun _ _ => rfl, fun _ => rfl⟩
theorem OA.tr {X X2 X3 : St} (a : OA X X2) (b : OA X2 X3) : OA X X3 := ⟨fun q => (b.1 q).trans (a.1 q), fun i h => (b.2.1 i h).trans (a.2.1 i h), fun q => (b.2.2 q).trans (a.2.2 q)⟩
theorem OA.A {Y : St} (j : Nat) (v : Int32) : OA Y (pA Y 11 j v) := ⟨fun _ => rfl, fun a h => by rw [sA_pA, if_neg h], fun _ => rfl⟩
theorem OA.eq {Y Y2 : St} (s : OA Y Y2) : EqY Y Y2 :=
  ⟨⟨s.1 _, s.1 _, s.1 _, s.1 _, s.1 _⟩, ⟨s.1 _, s.1 _, s.1 _, s.1 _, s.1 _⟩, ⟨s.2.1 _ (by decide), s.2.1 _ (by decide), s.2.1 _ (by decide), s.2.1 _ (by decide)⟩, ⟨s.2.1 _ (by decide), s.2.1 _ (by decide), s.2.1 _ (by decide)⟩⟩
def Ag (n : Nat) (g : Nat → Nat) (Y : St) : Prop := ∀ k, k < n → sA Y 11 k = nI (g k)
theorem Ag_sw {n : Nat} {g : Nat → Nat} {Y : St} (hg : Ag n g Y) {a b : Nat} (ha : a < n) (hb : b < n) : Ag n (sw g a b) (pA (pA Y 11 a (sA Y 11 b)) 11 b (sA Y 11 a)) := by
  intro k hk
  show (if k = b then sA Y 11 a else if k = a then sA Y 11 b else sA Y 11 k) = nI (if k = b then g a else if k = a then g b else g k)
  by_cases q : k = b
  · rw [if_pos q, if_pos q, hg a ha]
  · rw [if_neg q, if_neg q]
    by_cases z : k = a
    · rw [if_pos z, if_pos z, hg b hb]
    · rw [if_neg z, if_neg z, hg k hk]
theorem sw_lt {n B : Nat} {g : Nat → Nat} (hB : ∀ k, k < n → g k < B) {a b : Nat} (ha : a < n) (hb : b < n) : ∀ k, k < n → sw g a b k < B := by
  intro k hk
  unfold sw
  split
  · exact hB a ha
  · split
    · exact hB b hb
    · exact hB k hk
theorem fd_lp {n : Nat} {g : Nat → Nat} {Y : St} (hg : Ag n g Y) (hB : ∀ k, k < n → g k < 100) (hn : n ≤ 7) : ∀ (k f : Nat), k < n → k < f → jM_nextGets_7 f Y (nI k - 1) = match fd g k with
    | none => some (0, Y)
    | some i => jM_nextGets_47 10 Y (nI i) (sF Y 14 - 1)
  | k, 0, _, h => absurd h (by omega)
  | 0, f + 1, _, _ => by
    rw [jM_nextGets_7, if_pos (by decide)]
    unfold jM_nextGets_34
    rw [if_neg (by decide)]
    rfl
  | k + 1, f + 1, hk, hf => by
    have b1 := hB k (by omega)
    have b2 := hB (k + 1) hk
    rw [nI_pred, jM_nextGets_7, if_neg (nI_pos (by omega)), if_pos (ibN (by omega) (by omega)), nI_1, if_pos (ibN (by omega) (by omega)), clN (by omega), clN (by omega), hg k (by omega), hg (k + 1) hk, fd]
    by_cases q : g k ≤ g (k + 1)
    · rw [if_pos q, if_pos (nI_le q (by omega))]
      unfold jM_nextGets_34
      rw [if_pos (nI_pos' (by omega))]
    · rw [if_neg q, if_neg (nI_ge (by omega) (by omega)), ← Int32.sub_eq_add_neg]
      exact fd_lp hg hB hn k f (by omega) (by omega)
theorem fj_lp {n : Nat} {g : Nat → Nat} {Y : St} (hg : Ag n g Y) (hB : ∀ k, k < n → g k < 100) (hn : n ≤ 7) {i : Nat} (hi : i < n) : ∀ (f k : Nat), i ≤ k → k < n → k < i + f → i ≤ fj g i (k + 1) ∧ fj g i (k + 1) ≤ k ∧ jM_nextGets_47 f Y (nI i) (nI k) = jM_nextGets_107 10 (pA (pA Y 11 i (sA Y 11 (fj g i (k + 1)))) 11 (fj g i (k + 1)) (sA Y 11 i)) (sF Y 14 - 1) (nI (i + 1))
  | 0, k, _, _, h => absurd h (by omega)
  | f + 1, k, hik, hk, hf => by
    have b1 := hB k hk
    have b2 := hB i hi
    rw [jM_nextGets_47, if_pos (ibN (by omega) (by omega)), if_pos (ibN (by omega) (by omega)), clN (by omega), clN (by omega), hg k hk, hg i hi, fj]
    by_cases q : g i ≤ g k
    · refine ⟨by rw [if_pos q]; exact hik, by rw [if_pos q]; exact Nat.le_refl _, ?_⟩
      rw [if_pos q, if_pos (nI_le q (by omega)), hg k hk, nI_1]
      simp only [if_pos (ibN (i := i) (n := 7) (by omega) (by omega)), if_pos (ibN (i := k) (n := 7) (by omega) (by omega))]
      rfl
    · have hki : k ≠ i := fun z => q (by rw [z]; exact Nat.le_refl _)
      obtain ⟨k, rfl⟩ : ∃ m, k = m + 1 := ⟨k - 1, by omega⟩
      obtain ⟨h1, h2, h3⟩ := fj_lp hg hB hn hi f k (by omega) (by omega) (by omega)
      refine ⟨by rw [if_neg q]; exact h1, by rw [if_neg q]; omega, ?_⟩
      rw [if_neg q, if_neg (nI_ge (by omega) (by omega)), pk_m1, h3, hg i hi]
theorem rv_lp {n : Nat} (hn : n ≤ 7) : ∀ (f a b : Nat) (g : Nat → Nat) (Y : St), Ag n g Y → a ≤ n → b < n → b < a + f → 1 ≤ f → ∃ Y2, jM_nextGets_107 f Y (nI b) (nI a) = some (1, Y2) ∧ OA Y Y2 ∧ Ag n (rv f g a b) Y2
  | 0, a, b, g, Y, hg, ha, hb, hf, hf1 => absurd hf1 (by omega)
  | f + 1, a, b, g, Y, hg, ha, hb, hf, _ => by
    rw [jM_nextGets_107, rv]
    by_cases q : b ≤ a
    · rw [if_pos (nI_le q (by omega)), if_pos q]
      exact ⟨Y, rfl, OA.rf, hg⟩
    · rw [if_neg (nI_ge (by omega) (by omega)), if_neg q, clN (by omega), clN (by omega)]
      simp only [if_pos (ibN (i := a) (n := 7) (by omega) (by omega)), if_pos (ibN (i := b) (n := 7) (by omega) (by omega))]
      obtain ⟨Y2, e, s, r⟩ := rv_lp hn f (a + 1) (b - 1) (sw g a b) (pA (pA Y 11 a (sA Y 11 b)) 11 b (sA Y 11 a)) (Ag_sw hg (by omega) hb) (by omega) (by omega) (by omega) (by omega)
      refine ⟨Y2, ?_, (OA.tr (OA.A _ _) (OA.A _ _)).tr s, r⟩
      rw [nI_1, show nI b + -1 = nI (b - 1) by
        have := pk_m1 (b - 1)
        rw [show b - 1 + 1 = b by omega] at this
        exact this]
      exact e
theorem next_eq {n : Nat} {g : Nat → Nat} {Y : St} (h1 : 1 ≤ n) (hn : n ≤ 7) (e14 : sF Y 14 = nI n) (hg : Ag n g Y) (hB : ∀ k, k < n → g k < 100) : match nx n g with
    | none => jM_nextGets Y = some (0, Y)
    | some g2 => ∃ Y2, jM_nextGets Y = some (1, Y2) ∧ OA Y Y2 ∧ Ag n g2 Y2 := by
  have e1 : nI n - 1 = nI (n - 1) := pk_sub (b := 1) (by omega)
  have e2 : nI n - 2 = nI (n - 1) - 1 := by
    rw [← e1, Int32.sub_sub]
    rfl
  have e := fd_lp hg hB hn (n - 1) 10 (by omega) (by omega)
  unfold jM_nextGets nx
  rw [e14, e2, e]
  have hfd : ∀ k i, fd g k = some i → i < k := by
    intro k
    induction k with
    | zero => intro i z; exact absurd z (by simp [fd])
    | succ k ih =>
      intro i z
      rw [fd] at z
      split at z
      · injection z with z; omega
      · have := ih i z; omega
  cases q : fd g (n - 1) with
  | none => rfl
  | some i =>
    have hi := hfd _ _ q
    obtain ⟨k1, k2, k3⟩ := fj_lp hg hB hn (i := i) (by omega) 10 (n - 1) (by omega) (by omega) (by omega)
    rw [show n - 1 + 1 = n by omega] at k1 k2 k3
    obtain ⟨Y2, e3, s, r⟩ := rv_lp hn 10 (i + 1) (n - 1) (sw g i (fj g i n)) _ (Ag_sw hg (a := i) (b := fj g i n) (by omega) (by omega)) (by omega) (by omega) (by omega) (by omega)
    refine ⟨Y2, ?_, (OA.tr (OA.A _ _) (OA.A _ _)).tr s, r⟩
    show jM_nextGets_47 10 Y (nI i) (sF Y 14 - 1) = _
    rw [e14, e1, k3, e14, e1]
    exact e3
theorem next_pm {n k : Nat} {Y : St} (h1 : 1 ≤ n) (hn : n ≤ 7) (hk : k < ft n) (e14 : sF Y 14 = nI n) (hA : Arr (sA Y 11) (pm n (List.range n) k)) : (k + 1 = ft n ∧ jM_nextGets Y = some (0, Y)) ∨ (k + 1 < ft n ∧ ∃ Y2, jM_nextGets Y = some (1, Y2) ∧ OA Y Y2 ∧ Arr (sA Y2 11) (pm n (List.range n) (k + 1))) := by
  have hp := pm_perm n (List.range n) k List.length_range hk
  have hl := hp.length_eq
  rw [List.length_range] at hl
  have ok := nx_ok h1 hn hk
  have hg : Ag n (fun i => (pm n (List.range n) k).getD i 0) Y := by
    intro i hi
    rw [hA i (by omega)]
    show _ = nI ((pm n (List.range n) k).getD i 0)
    rw [getD_get (by omega)]
  have hB : ∀ i, i < n → (fun i => (pm n (List.range n) k).getD i 0) i < 100 := by
    intro i hi
    show (pm n (List.range n) k).getD i 0 < 100
    rw [getD_get (by omega)]
    have := List.mem_range.mp (hp.subset (List.getElem_mem (show i < (pm n (List.range n) k).length by omega)))
    omega
  have e := next_eq h1 hn e14 hg hB
  unfold nxOk at ok
  cases q : nx n (fun i => (pm n (List.range n) k).getD i 0) with
  | none =>
    rw [q] at ok e
    exact Or.inl ⟨(Nat.eq_of_beq_eq_true ok).symm, e⟩
  | some g2 =>
    rw [q] at ok e
    dsimp only at ok e
    obtain ⟨o1, o2⟩ := (Bool.and_eq_true _ _).mp ok
    have o3 := Nat.le_of_ble_eq_true o1
    obtain ⟨Y2, e1, s, a⟩ := e
    refine Or.inr ⟨by omega, Y2, e1, s, fun i hi => ?_⟩
    have hl2 := (pm_perm n (List.range n) (k + 1) List.length_range (by omega)).length_eq
    rw [List.length_range] at hl2
    have := Nat.eq_of_beq_eq_true (List.all_eq_true.mp o2 i (List.mem_range.mpr (by omega)))
    rw [a i (by omega), this, getD_get (by omega)]
