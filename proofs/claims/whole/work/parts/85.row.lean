/-! rows of members as numbers (class Row) -/
theorem ush_hs : ∀ k, k < 32 → (((nI k).toUInt32 &&& Int32.toUInt32 31).toBitVec % 32).toNat = k := by decide +kernel
theorem shl_hs : ∀ k, k < 32 → ((nI k &&& 31).toBitVec.smod 32).toNat = k := by decide +kernel
theorem ushN {a k : Nat} (h : a < 2147483648) (hk : k < 32) : ush (nI a) (nI k) = nI (a / 2 ^ k) := by
  unfold ush
  exact pk_ushrN (n := a) (by omega) (nI k) k (ush_hs k hk)
theorem one_shl {m : Nat} (hm : m < 31) : (1 : Int32) <<< (nI m &&& 31) = nI (2 ^ m) := by
  have h2 : 2 ^ m < 2 ^ 32 := Nat.pow_lt_pow_right (by decide) (by omega)
  have := pk_shlN (n := 1) (nI m &&& 31) m (shl_hs m (by omega)) (by omega)
  rw [Nat.one_mul] at this
  exact this
theorem pow8 (i : Nat) : 2 ^ (3 * i) = 8 ^ i := by rw [Nat.pow_mul]
theorem ush_enr {r : List Nat} (h : all7 r) (hl : r.length ≤ 7) {i : Nat} (hi : i ≤ 7) : ush (nI (enr r)) (3 * nI i) = nI (enr (r.drop i)) := by
  have h1 := enr_small h hl
  rw [show (3 : Int32) * nI i = nI (3 * i) from pk_mul 3 i, ushN (by omega) (by omega), pow8, enr_drop i h]
theorem all7_drop {r : List Nat} (i : Nat) (h : all7 r) : all7 (r.drop i) := fun m hm => h m (List.mem_of_mem_drop hm)
theorem enr_ne {r : List Nat} (h : all7 r) (hl : r.length ≤ 7) (hz : r ≠ []) : ¬ nI (enr r) = 0 := by
  have h1 := enr_small h hl
  exact nI_ne0 (Nat.pos_of_ne_zero (fun q => hz (enr_zero.mp q))) (by omega)
theorem L_size_lp {r : List Nat} (h : all7 r) (hl : r.length ≤ 7) : ∀ (n i : Nat), i ≤ r.length → r.length < i + n → jRo_size_2 n (nI (enr r)) (nI i) = some (nI r.length)
  | 0, i, h1, h2 => absurd h2 (by omega)
  | n + 1, i, h1, h2 => by
    rw [jRo_size_2]
    by_cases h7 : 7 ≤ i
    · rw [if_pos (show (7 : Int32) ≤ nI i from nI_le h7 (by omega)), show i = r.length by omega]
    · rw [if_neg (show ¬ (7 : Int32) ≤ nI i from nI_ge (b := 7) (by omega) (by omega)), ush_enr h hl (by omega)]
      by_cases hz : r.drop i = []
      · rw [hz, if_pos (show nI (enr []) = 0 from rfl)]
        have := List.drop_eq_nil_iff.mp hz
        rw [show i = r.length by omega]
      · have hne := enr_ne (all7_drop i h) (by simp; omega) hz
        rw [if_neg hne, nI_1]
        have : ¬ r.length ≤ i := fun q => hz (List.drop_eq_nil_iff.mpr q)
        exact L_size_lp h hl n (i + 1) (by omega) (by omega)
theorem L_size {r : List Nat} (h : all7 r) (hl : r.length ≤ 7) : jRo_size (nI (enr r)) = some (nI r.length) := L_size_lp h hl 10 0 (by omega) (by omega)
theorem L_memberAt {r : List Nat} (h : all7 r) (hl : r.length ≤ 7) {k : Nat} (hk : k < r.length) : jRo_memberAt (nI (enr r)) (nI (r.length - k)) = some (nI r[k]) := by
  unfold jRo_memberAt
  rw [L_size h hl]
  show (if nI (r.length - k) < 1 then _ else _) = _
  rw [if_neg (show ¬ nI (r.length - k) < 1 from nI_nlt (a := r.length - k) (b := 1) (by omega) (by omega)), if_pos (nI_le (by omega) (by omega)), pk_sub (by omega), show r.length - (r.length - k) = k by omega, ush_enr h hl (by omega), List.drop_eq_getElem_cons hk, L_top (h _ (List.getElem_mem hk))]
  rfl
theorem L_memberAt_out {r : List Nat} (h : all7 r) (hl : r.length ≤ 7) {x : Int32} (hx : x < 1 ∨ nI r.length < x) : jRo_memberAt (nI (enr r)) x = some (-1) := by
  unfold jRo_memberAt
  rw [L_size h hl]
  show (if x < 1 then _ else if x ≤ nI r.length then _ else _) = _
  by_cases h1 : x < 1
  · rw [if_pos h1]
  · rw [if_neg h1, if_neg]
    rcases hx with q | q
    · exact absurd q h1
    · intro h2
      have a := Int32.lt_iff_toInt_lt.mp q
      have b := Int32.le_iff_toInt_le.mp h2
      omega
/-- a set of members as bits -/
def sN : List Nat → Nat
  | [] => 0
  | m :: u => sN u ||| 2 ^ m
theorem sN_bit : ∀ (u : List Nat) (j : Nat), (sN u).testBit j = decide (j ∈ u)
  | [], j => by simp [sN]
  | m :: u, j => by
    rw [sN, Nat.testBit_or, sN_bit u j, Nat.testBit_two_pow]
    by_cases h : m = j
    · subst h; simp
    · have h2 : ¬ j = m := fun q => h q.symm
      simp [h, h2]
theorem sN_lt {u : List Nat} (h : all7 u) : sN u < 128 := by
  show sN u < 2 ^ 7
  apply Nat.lt_pow_two_of_testBit
  intro i hi
  rw [sN_bit]
  exact decide_eq_false (fun q => by have := h i q; omega)
theorem sN_ext {u v : List Nat} (h : ∀ j, j ∈ u ↔ j ∈ v) : sN u = sN v := by
  apply Nat.eq_of_testBit_eq
  intro j
  rw [sN_bit, sN_bit]
  by_cases q : j ∈ u
  · simp [q, (h j).mp q]
  · have : ¬ j ∈ v := fun z => q ((h j).mpr z)
    simp [q, this]
theorem L_members_lp : ∀ (n : Nat) (r u : List Nat), all7 r → r.length + u.length ≤ 7 → r.length < n → jRo_members_6 n (nI (sN u)) (nI (enr r)) (nI u.length) = some (nI (sN (r.reverse ++ u)))
  | 0, r, u, _, _, h2 => absurd h2 (by omega)
  | n + 1, [], u, h, hl, h2 => by
    rw [jRo_members_6, show nI (enr []) = 0 from rfl]
    by_cases h7 : 7 ≤ u.length
    · rw [if_pos (show (7 : Int32) ≤ nI u.length from nI_le h7 (by simp at hl; omega))]; rfl
    · rw [if_neg (show ¬ (7 : Int32) ≤ nI u.length from nI_ge (b := 7) (by omega) (by omega)), if_pos rfl]; rfl
  | n + 1, m :: r, u, h, hl, h2 => by
    have hl2 : r.length + 1 + u.length ≤ 7 := by simpa using hl
    have hm := (all7_c.mp h).1
    rw [jRo_members_6, if_neg (show ¬ (7 : Int32) ≤ nI u.length from nI_ge (b := 7) (by omega) (by omega)), if_neg (enr_ne h (by simp; omega) (by simp)), L_top hm, bS, L_below h (by omega), bS]
    show jRo_members_6 n (nI (sN u) ||| 1 <<< (nI m &&& 31)) (nI (enr r)) (nI u.length + 1) = _
    rw [one_shl (by omega), fa_or, nI_1]
    have := L_members_lp n r (m :: u) (all7_c.mp h).2 (by simp; omega) (by simp at h2; omega)
    rw [List.length_cons] at this
    rw [show sN u ||| 2 ^ m = sN (m :: u) from rfl, this, List.reverse_cons, List.append_assoc]
    rfl
theorem L_members {r : List Nat} (h : all7 r) (hl : r.length ≤ 7) : jRo_members (nI (enr r)) = some (nI (sN r.reverse)) := by
  have := L_members_lp 10 r [] h (by simpa using hl) (by omega)
  rw [List.append_nil] at this
  exact this
theorem L_turned_lp : ∀ (n : Nat) (r v : List Nat), all7 r → all7 v → r.length + v.length ≤ 7 → r.length < n → jRo_turned_6 n (nI (enr v)) (nI (enr r)) (nI v.length) = some (nI (enr (r.reverse ++ v)))
  | 0, r, v, _, _, _, h2 => absurd h2 (by omega)
  | n + 1, [], v, h, hv, hl, h2 => by
    rw [jRo_turned_6, show nI (enr []) = 0 from rfl]
    by_cases h7 : 7 ≤ v.length
    · rw [if_pos (show (7 : Int32) ≤ nI v.length from nI_le h7 (by simp at hl; omega))]; rfl
    · rw [if_neg (show ¬ (7 : Int32) ≤ nI v.length from nI_ge (b := 7) (by omega) (by omega)), if_pos rfl]; rfl
  | n + 1, m :: r, v, h, hv, hl, h2 => by
    have hl2 : r.length + 1 + v.length ≤ 7 := by simpa using hl
    have hm := (all7_c.mp h).1
    have hmv : all7 (m :: v) := all7_c.mpr ⟨hm, hv⟩
    rw [jRo_turned_6, if_neg (show ¬ (7 : Int32) ≤ nI v.length from nI_ge (b := 7) (by omega) (by omega)), if_neg (enr_ne h (by simp; omega) (by simp)), L_top hm, bS, L_with hmv (by omega), bS, L_below h (by omega), bS]
    show jRo_turned_6 n (nI (enr (m :: v))) (nI (enr r)) (nI v.length + 1) = _
    rw [nI_1]
    have := L_turned_lp n r (m :: v) (all7_c.mp h).2 hmv (by simp; omega) (by simp at h2; omega)
    rw [List.length_cons] at this
    rw [this, List.reverse_cons, List.append_assoc]
    rfl
theorem L_turned {r : List Nat} (h : all7 r) (hl : r.length ≤ 7) : jRo_turned (nI (enr r)) = some (nI (enr r.reverse)) := by
  have := L_turned_lp 10 r [] h (fun _ h => by simp at h) (by simpa using hl) (by omega)
  rw [List.append_nil] at this
  exact this
/-- how high one stands, 0: not at all (a row, the topmost first) -/
def hgt : List Nat → Nat → Nat
  | [], _ => 0
  | m :: r, x => if m = x then r.length + 1 else hgt r x
theorem L_heightOf_lp : ∀ (n : Nat) (r : List Nat) (x : Nat), all7 r → r.length ≤ 7 → x < 7 → r.length < n → jRo_heightOf_7 n (nI x) (nI r.length) (nI (enr r)) = some (nI (hgt r x))
  | 0, r, x, _, _, _, h2 => absurd h2 (by omega)
  | n + 1, [], x, h, hl, hx, h2 => by
    rw [jRo_heightOf_7, if_pos (show nI ([] : List Nat).length ≤ 0 by decide)]; rfl
  | n + 1, m :: r, x, h, hl, hx, h2 => by
    have hl2 : r.length + 1 ≤ 7 := by simpa using hl
    have hm := (all7_c.mp h).1
    rw [jRo_heightOf_7, if_neg (show ¬ nI (m :: r).length ≤ 0 from nI_nle (by simp) (by simp; omega)), L_top hm]
    show (if nI m = nI x then _ else _) = _
    by_cases hmx : m = x
    · rw [if_pos (by rw [hmx]), hgt, if_pos hmx, List.length_cons]
    · rw [if_neg (fun q => hmx (nI_inj (by omega) (by omega) q)), L_below h (by omega)]
      show jRo_heightOf_7 n (nI x) (nI (m :: r).length + (-1)) (nI (enr r)) = _
      rw [List.length_cons, pk_m1, hgt, if_neg hmx]
      exact L_heightOf_lp n r x (all7_c.mp h).2 (by omega) hx (by simp at h2; omega)
theorem L_heightOf {r : List Nat} (h : all7 r) (hl : r.length ≤ 7) {x : Nat} (hx : x < 7) : jRo_heightOf (nI (enr r)) (nI x) = some (nI (hgt r x)) := by
  unfold jRo_heightOf
  rw [L_size h hl]
  exact L_heightOf_lp 10 r x h hl hx (by omega)
theorem getD_rev {r : List Nat} {k : Nat} (hk : k < r.length) : r.reverse[k]'(by simpa using hk) = r[r.length - 1 - k] := List.getElem_reverse (by simpa using hk)
theorem L_without_lp {r : List Nat} (h : all7 r) (hl : r.length ≤ 7) {x : Nat} (hx : x < 7) : ∀ (n k : Nat) (v : List Nat), all7 v → v.length ≤ k → k ≤ r.length → r.length < k + n → jRo_without_10 n (nI (enr r)) (nI x) (nI (enr v)) (nI r.length) (nI (k + 1)) = some (nI (enr (((r.reverse.drop k).filter (fun m => decide (m ≠ x))).reverse ++ v)))
  | 0, k, v, _, _, _, h2 => absurd h2 (by omega)
  | n + 1, k, v, hv, hvl, hk, h2 => by
    rw [jRo_without_10]
    by_cases hkl : k = r.length
    · rw [if_pos (nI_lt (by omega) (by omega)), hkl, List.drop_eq_nil_iff.mpr (by simp)]
      rfl
    · have hk2 : r.length - 1 - k < r.length := by omega
      have hm := h _ (List.getElem_mem hk2)
      have e1 := L_memberAt h hl hk2
      rw [show r.length - (r.length - 1 - k) = k + 1 by omega] at e1
      have e2 : r.reverse.drop k = r[r.length - 1 - k] :: r.reverse.drop (k + 1) := by
        rw [List.drop_eq_getElem_cons (by simp; omega), getD_rev (by omega)]
      rw [if_neg (nI_nlt (by omega) (by omega)), e1, e2]
      generalize r[r.length - 1 - k] = m at hm
      show (if nI m = nI x then _ else _) = _
      by_cases hmx : m = x
      · rw [if_pos (by rw [hmx])]
        show jRo_without_10 n (nI (enr r)) (nI x) (nI (enr v)) (nI r.length) (nI (k + 1) + 1) = _
        rw [nI_1, L_without_lp h hl hx n (k + 1) v hv (by omega) (by omega) (by omega), List.filter_cons_of_neg (by simp [hmx])]
      · have hmv : all7 (m :: v) := all7_c.mpr ⟨hm, hv⟩
        rw [if_neg (fun q => hmx (nI_inj (by omega) (by omega) q)), L_with hmv (by omega)]
        show jRo_without_10 n (nI (enr r)) (nI x) (nI (enr (m :: v))) (nI r.length) (nI (k + 1) + 1) = _
        rw [nI_1, L_without_lp h hl hx n (k + 1) (m :: v) hmv (by simp; omega) (by omega) (by omega), List.filter_cons_of_pos (by simp [hmx]), List.reverse_cons, List.append_assoc]
        rfl
theorem L_without {r : List Nat} (h : all7 r) (hl : r.length ≤ 7) {x : Nat} (hx : x < 7) : jRo_without (nI (enr r)) (nI x) = some (nI (enr (r.reverse.filter (fun m => decide (m ≠ x))).reverse)) := by
  unfold jRo_without
  rw [L_size h hl]
  have := L_without_lp h hl hx 10 0 [] (fun _ h => by simp at h) (by simp) (by omega) (by omega)
  rw [List.append_nil, List.drop_zero] at this
  exact this
