/-! chairs changed about: the best of all orders -/
theorem abv_nat {h : House} (O : Ok h) : ∀ t : List Nat, memn (hn h) t → ∃ a, a ≤ 19 * t.length ∧ abv h t = nI a
  | [], _ => ⟨0, by simp, rfl⟩
  | m :: t, ht => by
    obtain ⟨h1, h2⟩ := memn_c.mp ht
    obtain ⟨a, a1, a2⟩ := abv_nat O t h2
    obtain ⟨-, ⟨w, w1, w2, w3⟩, -, -, -, -, -, -, w9, -⟩ := O m h1
    have : ∃ b, b ≤ 18 ∧ hg h m 9 = nI b := by
      rw [w9, w3]
      by_cases q : hg h m 0 = 1
      · rw [if_pos q]
        exact ⟨2 * w, by omega, pk_mul 2 w⟩
      · rw [if_neg q]
        exact ⟨w, by omega, rfl⟩
    obtain ⟨b, b1, b2⟩ := this
    refine ⟨a + (b + 1), by rw [List.length_cons]; omega, ?_⟩
    rw [abv, a2, b2, nI_1, nI_add]
theorem nd_int {h : House} (O : Ok h) {t : List Nat} (ht : memn (hn h) t) (hl : t.length ≤ 7) {i : Nat} (hi : i < t.length) : ∃ a b, a ≤ 1000 ∧ b ≤ 10 ∧ lu h t[i] (abv h (t.drop (i + 1))) - hg h t[i] 10 = nI a - nI b := by
  have hm := ht _ (List.getElem_mem hi)
  obtain ⟨a, a1, a2⟩ := abv_nat O (t.drop (i + 1)) (fun m hm => ht m (List.mem_of_mem_drop hm))
  have a3 : a ≤ 19 * 7 := by rw [List.length_drop] at a1; omega
  have : ∃ c, c ≤ 1000 ∧ lu h t[i] (abv h (t.drop (i + 1))) = nI c := by
    rw [lu, a2]
    by_cases q : hg h t[i] 8 = 0
    · rw [if_pos q]; exact ⟨a, by omega, rfl⟩
    · rw [if_neg q, nI_1]
      exact ⟨(a + 1) / 2, by omega, pk_div (d := 2) (by omega) (by omega) (by omega)⟩
  obtain ⟨c, c1, c2⟩ := this
  rw [c2, (O _ hm).2.2.2.2.2.2.2.2.2.1]
  split
  · exact ⟨c, 10, c1, by omega, rfl⟩
  · exact ⟨c, 0, c1, by omega, rfl⟩
theorem st_int {h : House} (O : Ok h) {m : Nat} (hm : m < hn h) : ∃ k, k ≤ 99 ∧ hg h m 4 = nI k := (O m hm).2.2.2.2.1
theorem sub_int {a b k : Nat} (ha : a ≤ 1000) (hb : b ≤ 10) (hk : k ≤ 99) : (nI a - nI b).toInt = (a : Int) - b ∧ (nI k - (nI a - nI b)).toInt = (k : Int) - ((a : Int) - b) := by
  have e1 : (nI a - nI b).toInt = (a : Int) - b := pk_sub_toInt (by omega) (by omega)
  refine ⟨e1, ?_⟩
  have e2 : nI k - (nI a - nI b) = nI (k + b) - nI a := by
    rw [← nI_add]
    grind
  rw [e2, pk_sub_toInt (by omega) (by omega)]
  omega
/-- strengths and needs as whole numbers -/
def svI (h : House) (t : List Nat) (i : Nat) : Int := ((stS h t).getD i 0).toInt
def dvI (h : House) (t : List Nat) (i : Nat) : Int := ((ndS h t).getD i 0).toInt
def chE (h : House) (t l : List Nat) (i : Nat) : Int := svI h t (l.getD i 0) - dvI h t i
theorem ch_bd {h : House} (O : Ok h) {t : List Nat} (ht : memn (hn h) t) (hl : t.length ≤ 7) : (∀ i, i < t.length → 0 ≤ svI h t i ∧ svI h t i ≤ 99) ∧ (∀ i, i < t.length → -10 ≤ dvI h t i ∧ dvI h t i ≤ 1000) := by
  have l4 : (stS h t).length = t.length := List.length_map _
  have l8 := ndS_len h t
  constructor
  · intro i hi
    obtain ⟨k, k1, k2⟩ := st_int O (ht _ (List.getElem_mem hi))
    have : svI h t i = k := by
      unfold svI
      rw [← List.getElem_eq_getD (h := by omega) 0]
      show ((t.map _)[i]'_).toInt = _
      rw [List.getElem_map, k2, nI_toInt (by omega)]
    omega
  · intro i hi
    obtain ⟨a, b, a1, b1, e⟩ := nd_int O ht hl hi
    have : dvI h t i = (a : Int) - b := by
      unfold dvI
      rw [← List.getElem_eq_getD (h := by omega) 0, ndS_at h t i hi (by omega), e, (sub_int a1 b1 (k := 0) (by omega)).1]
    omega
theorem M_one {h : House} (O : Ok h) {Y : St} (K : HY h Y) {t : List Nat} (T : Tw (hn h) t) (e14 : sF Y 14 = nI t.length) (a6 : Arr (sA Y 6) t) {l : List Nat} (hp : l.Perm (List.range t.length)) (a11 : Arr (sA Y 11) l) {i : Nat} (hi : i < t.length) (N : Nat) (k37 : St → Int32 → Int32 → Option (Int32 × St)) (k47 : St → Int32 → Int32 → Int32 → Option (Int32 × St)) (v1 v3 : Int32) : ∃ x : Int32, x.toInt = chE h t l i ∧ ∀ n, jM_changedOf_47 N k37 (n + 1) Y v1 v3 (nI i) = jM_changedOf_47 N k37 n Y v1 (if v3 ≤ x then v3 else x) (nI (i + 1)) := by
  sorry
