/-! the reference's members and towers, read off the same house -/
def OkM (v : Nat → Int32) : Prop := (∃ k, k ≤ 4 ∧ v 0 = nI k) ∧ (∃ k, 1 ≤ k ∧ k ≤ 9 ∧ v 1 = nI k) ∧ (-3 ≤ (v 2).toInt ∧ (v 2).toInt ≤ 3) ∧ (∃ k, k ≤ 2 ∧ v 3 = nI k) ∧ (∃ k, k ≤ 99 ∧ v 4 = nI k) ∧ (∃ k, k ≤ 4 ∧ v 5 = nI k) ∧ (∃ k, k ≤ 9 ∧ v 6 = nI k) ∧ v 8 = (if v 0 = 1 then 1 else 0) ∧ v 9 = (if v 0 = 1 then 2 * v 1 else v 1) ∧ v 10 = (if v 0 = 2 ∨ v 0 = 4 then 10 else 0) ∧ v 11 = (if v 0 = 3 ∨ v 0 = 4 then 0 else v 2)
def Ok (h : House) : Prop := ∀ i, i < hn h → OkM (hg h i)
def HY (h : House) (Y : St) : Prop := hn h ≤ 7 ∧ sF Y 12 = nI (hn h) ∧ sF Y 4 = hlim h ∧ (∀ i, i < hn h → ∀ k, k < 8 → sA Y 5 (8 * i + k) = hg h i k) ∧ (∀ i, i < 7 → sA Y 2 i = hg h i 12)
def Arr (f : Nat → Int32) (t : List Nat) : Prop := ∀ (k : Nat) (hk : k < t.length), f k = nI t[k]
theorem e8 (i : Nat) : (8 : Int32) * nI i = nI (8 * i) := pk_mul 8 i
theorem e8k (i k : Nat) (kk : Int32) (h : kk = nI k) : (8 : Int32) * nI i + kk = nI (8 * i + k) := by rw [e8, h, nI_add]
theorem in_eq (a b c : Int64) : jM_in a b c = some (bI (decide (b ≤ a ∧ a ≤ c))) := by
  unfold jM_in
  simp only [lg_cmp_lt, lg_cmp_gt]
  by_cases h1 : a < b
  · rw [if_pos h1, decide_eq_false]; rfl
    rintro ⟨h2, -⟩
    rw [Int64.lt_iff_toInt_lt] at h1; rw [Int64.le_iff_toInt_le] at h2; omega
  · rw [if_neg h1]
    by_cases h2 : c < a
    · rw [if_pos h2, decide_eq_false]; rfl
      rintro ⟨-, h3⟩
      rw [Int64.lt_iff_toInt_lt] at h2; rw [Int64.le_iff_toInt_le] at h3; omega
    · rw [if_neg h2, decide_eq_true]; rfl
      rw [Int64.lt_iff_toInt_lt] at h1 h2
      exact ⟨by rw [Int64.le_iff_toInt_le]; omega, by rw [Int64.le_iff_toInt_le]; omega⟩
theorem in_int (x : Int32) (b c : Int64) : jM_in x.toInt64 b c = some (bI (decide (b.toInt ≤ x.toInt ∧ x.toInt ≤ c.toInt))) := by
  rw [in_eq]
  congr 2
  simp only [Int64.le_iff_toInt_le, Int32.toInt_toInt64]
theorem isMember_eq {h : House} {Y : St} (K : HY h Y) (x : Int32) : jM_isMember Y x = some (bI (decide (0 ≤ x.toInt ∧ x.toInt < hn h))) := by
  unfold jM_isMember
  have h7 := K.1
  have e : ((sF Y 12 - 1).toInt64).toInt = (hn h : Int) - 1 := by
    rw [Int32.toInt_toInt64, K.2.1]
    exact pk_sub_toInt (a := hn h) (b := 1) (by omega) (by omega)
  rw [in_int, bS, bI_and, if_pos rfl, e]
  congr 2
  have e0 : (0 : Int64).toInt = 0 := rfl
  rw [e0]
  by_cases q : 0 ≤ x.toInt ∧ x.toInt < hn h
  · rw [decide_eq_true q, decide_eq_true (by omega)]
  · rw [decide_eq_false q, decide_eq_false (by omega)]
section MO
variable {h : House} {Y : St}
theorem M_0 (K : HY h Y) {i : Nat} (hi : i < hn h) : ib (8 * nI i) 56 = true ∧ sA Y 5 (8 * nI i).toNatClampNeg = hg h i 0 := by
  have h7 := K.1
  rw [e8, clN (by omega)]
  exact ⟨ibN (by omega) (by omega), K.2.2.2.1 i hi 0 (by omega)⟩
theorem M_k (K : HY h Y) {i : Nat} (hi : i < hn h) {k : Nat} (hk : k < 8) (kk : Int32) (e : kk = nI k) : ib (8 * nI i + kk) 56 = true ∧ sA Y 5 (8 * nI i + kk).toNatClampNeg = hg h i k := by
  have h7 := K.1
  rw [e8k i k kk e, clN (by omega)]
  exact ⟨ibN (by omega) (by omega), K.2.2.2.1 i hi k hk⟩
theorem M_weighs (O : Ok h) (K : HY h Y) {i : Nat} (hi : i < hn h) : jM_weighs Y (nI i) = some (hg h i 9) := by
  unfold jM_weighs
  obtain ⟨a1, a2⟩ := M_0 K hi
  obtain ⟨b1, b2⟩ := M_k K hi (k := 1) (by omega) 1 rfl
  rw [if_pos a1, a2, if_pos b1, b2, (O i hi).2.2.2.2.2.2.2.2.1]
  split <;> rfl
theorem M_canBear (O : Ok h) (K : HY h Y) {i : Nat} (hi : i < hn h) : jM_canBear Y (nI i) = some (hb h i) := by
  unfold jM_canBear hb jM_canBear_31 jM_canBear_37
  obtain ⟨a1, a2⟩ := M_0 K hi
  obtain ⟨b1, b2⟩ := M_k K hi (k := 4) (by omega) 4 rfl
  rw [if_pos a1, a2, if_pos b1, b2, (O i hi).2.2.2.2.2.2.2.2.2.1]
  by_cases q : hg h i 0 = 2
  · rw [if_pos q, if_pos (Or.inl q)]
  · by_cases z : hg h i 0 = 4
    · rw [if_neg q, if_pos z, if_pos (Or.inr z)]
    · rw [if_neg q, if_neg z, if_neg (fun y => y.elim q z)]
theorem M_leans (O : Ok h) (K : HY h Y) {i : Nat} (hi : i < hn h) : jM_leans Y (nI i) = some (hg h i 11) := by
  unfold jM_leans
  obtain ⟨a1, a2⟩ := M_0 K hi
  obtain ⟨b1, b2⟩ := M_k K hi (k := 2) (by omega) 2 rfl
  rw [if_pos a1, a2, if_pos b1, b2, (O i hi).2.2.2.2.2.2.2.2.2.2]
  obtain ⟨k, hk, e⟩ := (O i hi).1
  rw [e]
  by_cases q : k ≤ 2
  · rw [if_pos (show nI k ≤ 2 from nI_le (b := 2) q (by omega)), if_neg]
    rintro (z | z)
    · have := nI_inj (a := k) (b := 3) (by omega) (by omega) z; omega
    · have := nI_inj (a := k) (b := 4) (by omega) (by omega) z; omega
  · rw [if_neg (show ¬ nI k ≤ 2 from nI_ge (a := 2) (by omega) (by omega)), if_pos]
    rcases (show k = 3 ∨ k = 4 by omega) with z | z
    · exact Or.inl (by rw [z]; rfl)
    · exact Or.inr (by rw [z]; rfl)
theorem fat_iff (O : Ok h) {i : Nat} (hi : i < hn h) : hg h i 0 = 1 ↔ ¬ hg h i 8 = 0 := by
  rw [(O i hi).2.2.2.2.2.2.2.1]
  by_cases q : hg h i 0 = 1
  · rw [if_pos q]; exact ⟨fun _ => by decide, fun _ => q⟩
  · rw [if_neg q]; exact ⟨fun z => absurd z q, fun z => absurd rfl z⟩
theorem abv_drop (t : List Nat) {k : Nat} (hk : k < t.length) : abv h (t.drop k) = abv h (t.drop (k + 1)) + (hg h t[k] 9 + 1) := by rw [List.drop_eq_getElem_cons hk]; rfl
theorem M_bears_lp (O : Ok h) (K : HY h Y) {ak : Nat} {t : List Nat} (ht : memn (hn h) t) (hl : t.length ≤ 7) (hA : Arr (sA Y ak) t) {p : Nat} (hp : p < t.length) : ∀ (n k : Nat) (a : Int32), k ≤ t.length → t.length < k + n → jM_bears_8 Y ak n (nI t.length) (nI p) a (nI k) = some (lu h t[p] (a + abv h (t.drop k)))
  | 0, k, a, _, h2 => absurd h2 (by omega)
  | n + 1, k, a, hk, h2 => by
    have h7 := K.1
    rw [jM_bears_8]
    by_cases q : k = t.length
    · have hm := ht _ (List.getElem_mem hp)
      obtain ⟨a1, a2⟩ := M_0 K hm
      rw [if_pos (nI_le (by omega) (by omega)), if_pos (ibN (by omega) (by omega)), clN (by omega), hA p hp, if_pos a1, a2, q, List.drop_length, abv, Int32.add_zero, lu]
      by_cases z : hg h t[p] 8 = 0
      · rw [if_pos z, if_neg (fun y => (fat_iff O hm).mp y z)]
      · rw [if_neg z, if_pos ((fat_iff O hm).mpr z)]
    · have hk2 : k < t.length := by omega
      rw [if_neg (nI_ge (by omega) (by omega)), if_pos (ibN (by omega) (by omega)), clN (by omega), hA k hk2, M_weighs O K (ht _ (List.getElem_mem hk2)), bS, nI_1, M_bears_lp O K ht hl hA hp n (k + 1) _ (by omega) (by omega), abv_drop t hk2]
      congr 2
      rw [Int32.add_assoc, Int32.add_comm (hg h t[k] 9 + 1)]
theorem M_bears (O : Ok h) (K : HY h Y) {ak : Nat} {t : List Nat} (ht : memn (hn h) t) (hl : t.length ≤ 7) (hA : Arr (sA Y ak) t) {p : Nat} (hp : p < t.length) : jM_bears Y ak (nI t.length) (nI p) = some (lu h t[p] (abv h (t.drop (p + 1)))) := by
  unfold jM_bears
  rw [nI_1, M_bears_lp O K ht hl hA hp 10 (p + 1) 0 (by omega) (by omega), Int32.zero_add]
theorem M_leansOf_lp (O : Ok h) (K : HY h Y) {ak : Nat} {t : List Nat} (ht : memn (hn h) t) (hl : t.length ≤ 7) (hA : Arr (sA Y ak) t) : ∀ (n k : Nat) (a : Int32), k ≤ t.length → t.length < k + n → jM_leansOf_5 Y ak n (nI t.length) a (nI k) = some (absI (a + ln h (t.drop k)))
  | 0, k, a, _, h2 => absurd h2 (by omega)
  | n + 1, k, a, hk, h2 => by
    rw [jM_leansOf_5]
    by_cases q : k = t.length
    · rw [if_pos (nI_le (by omega) (by omega)), q, List.drop_length, ln, Int32.add_zero, absI]
      by_cases z : 0 ≤ a
      · rw [if_pos z, if_pos z]
      · rw [if_neg z, if_neg z, Int32.zero_sub]
    · have hk2 : k < t.length := by omega
      rw [if_neg (nI_ge (by omega) (by omega)), if_pos (ibN (by omega) (by omega)), clN (by omega), hA k hk2, M_leans O K (ht _ (List.getElem_mem hk2)), bS, nI_1, M_leansOf_lp O K ht hl hA n (k + 1) _ (by omega) (by omega), List.drop_eq_getElem_cons hk2, ln]
      congr 2
      rw [Int32.add_assoc, Int32.add_comm (hg h t[k] 11)]
theorem M_leansOf (O : Ok h) (K : HY h Y) {ak : Nat} {t : List Nat} (ht : memn (hn h) t) (hl : t.length ≤ 7) (hA : Arr (sA Y ak) t) : jM_leansOf Y ak (nI t.length) = some (absI (ln h t)) := by
  unfold jM_leansOf
  have := M_leansOf_lp O K ht hl hA 10 0 0 (by omega) (by omega)
  rw [Int32.zero_add, List.drop_zero] at this
  exact this
theorem M_holds_lp (O : Ok h) (K : HY h Y) {ak : Nat} {t : List Nat} (ht : memn (hn h) t) (hl : t.length ≤ 7) (hA : Arr (sA Y ak) t) : ∀ (n k : Nat) (b : Bool), k ≤ t.length → t.length < k + n → jM_holds_22 Y ak n (nI t.length) (bI b) (nI k) = some (bI (b && okD h (t.drop k)))
  | 0, k, a, _, h2 => absurd h2 (by omega)
  | n + 1, k, b, hk, h2 => by
    rw [jM_holds_22]
    by_cases q : k = t.length
    · rw [if_pos (nI_le (by omega) (by omega)), bI_and, if_pos rfl, q, List.drop_length, okD, Bool.and_true]
    · have hk2 : k < t.length := by omega
      have hm := ht _ (List.getElem_mem hk2)
      rw [if_neg (nI_ge (by omega) (by omega)), List.drop_eq_getElem_cons hk2, okD]
      have key : ∀ c : Bool, jM_holds_56 Y ak (jM_holds_22 Y ak n) (nI t.length) (nI k) (bI c) = some (bI (c && okD h (t.drop (k + 1)))) := by
        intro c
        unfold jM_holds_56
        rw [nI_1, M_holds_lp O K ht hl hA n (k + 1) c (by omega) (by omega)]
      cases b with
      | false =>
        rw [if_pos bI_f, jM_holds_55]
        exact key false
      | true =>
        rw [if_neg (by decide), M_bears O K ht hl hA hk2, bS, if_pos (ibN (by omega) (by omega)), clN (by omega), hA k hk2, M_canBear O K hm, bS, Bool.true_and]
        by_cases z : hb h t[k] < lu h t[k] (abv h (t.drop (k + 1)))
        · rw [if_pos z, jM_holds_55, decide_eq_false (fun y => Int32.lt_irrefl (Int32.lt_of_lt_of_le z y))]
          exact key false
        · rw [if_neg z, decide_eq_true (Int32.not_lt.mp z)]
          exact key true
theorem M_holds (O : Ok h) (K : HY h Y) {ak : Nat} {t : List Nat} (ht : memn (hn h) t) (hl : t.length ≤ 7) (hA : Arr (sA Y ak) t) : jM_holds Y ak (nI t.length) = some (bI (stands h t)) := by
  unfold jM_holds jM_holds_18
  rw [M_leansOf O K ht hl hA, bS, K.2.2.1, stands, lnOk]
  have h1 := M_holds_lp O K ht hl hA 10 0 true (by omega) (by omega)
  have h0 := M_holds_lp O K ht hl hA 10 0 false (by omega) (by omega)
  rw [List.drop_zero] at h1 h0
  by_cases q : hlim h < absI (ln h t)
  · rw [if_pos q, decide_eq_true q, Bool.not_true, Bool.and_false]
    exact h0
  · rw [if_neg q, decide_eq_false q, Bool.not_false, Bool.and_true]
    rw [Bool.true_and] at h1
    exact h1
theorem M_bill_lp (K : HY h Y) {ak : Nat} {t : List Nat} (ht : memn (hn h) t) (hl : t.length ≤ 7) (hA : Arr (sA Y ak) t) : ∀ (n k : Nat) (b : Int32), k ≤ t.length → t.length < k + n → jM_billOf_5 Y ak n (nI t.length) b (nI k) = some ((t.drop k).foldl (spk h) b)
  | 0, k, a, _, h2 => absurd h2 (by omega)
  | n + 1, k, b, hk, h2 => by
    rw [jM_billOf_5]
    by_cases q : k = t.length
    · rw [if_pos (nI_le (by omega) (by omega)), q, List.drop_length]; rfl
    · have hk2 : k < t.length := by omega
      have hm := ht _ (List.getElem_mem hk2)
      obtain ⟨a1, a2⟩ := M_k K hm (k := 5) (by omega) 5 rfl
      obtain ⟨b1, b2⟩ := M_k K hm (k := 6) (by omega) 6 rfl
      rw [if_neg (nI_ge (by omega) (by omega)), if_pos (ibN (by omega) (by omega)), clN (by omega), hA k hk2, if_pos a1, if_pos (ibN (by omega) (by omega)), if_pos b1, a2, b2, List.drop_eq_getElem_cons hk2]
      have key : ∀ x : Int32, jM_billOf_95 Y ak (jM_billOf_5 Y ak n) (nI t.length) (nI k) x = some ((t.drop (k + 1)).foldl (spk h) (clI x)) := by
        intro x
        have e : ∀ y, jM_billOf_118 Y ak (jM_billOf_5 Y ak n) (nI t.length) (nI k) y = some ((t.drop (k + 1)).foldl (spk h) y) := by
          intro y
          unfold jM_billOf_118
          rw [nI_1, M_bill_lp K ht hl hA n (k + 1) y (by omega) (by omega)]
        unfold jM_billOf_95 clI
        simp only [e]
        split
        · split <;> rfl
        · rfl
      simp only [key, List.foldl_cons, spk]
      split
      · rfl
      · split
        · rfl
        · split
          · rfl
          · split <;> rfl
theorem M_bill (K : HY h Y) {ak : Nat} {t : List Nat} (ht : memn (hn h) t) (hl : t.length ≤ 7) (hA : Arr (sA Y ak) t) : jM_billOf Y ak (nI t.length) = some (billS h t) := by
  unfold jM_billOf
  have := M_bill_lp K ht hl hA 10 0 0 (by omega) (by omega)
  rw [List.drop_zero] at this
  exact this
theorem M_setOf_lp {ak : Nat} {t : List Nat} (ht : all7 t) (hl : t.length ≤ 7) (hA : Arr (sA Y ak) t) : ∀ (n k s : Nat), k ≤ t.length → t.length < k + n → jM_setOf_4 Y ak n (nI t.length) (nI s) (nI k) = some (nI (s ||| sN (t.drop k)))
  | 0, k, a, _, h2 => absurd h2 (by omega)
  | n + 1, k, s, hk, h2 => by
    rw [jM_setOf_4]
    by_cases q : k = t.length
    · rw [if_pos (nI_le (by omega) (by omega)), q, List.drop_length, sN, Nat.or_zero]
    · have hk2 : k < t.length := by omega
      have hm := ht _ (List.getElem_mem hk2)
      rw [if_neg (nI_ge (by omega) (by omega)), if_pos (ibN (by omega) (by omega)), clN (by omega), hA k hk2, one_shl (by omega), fa_or, nI_1, M_setOf_lp ht hl hA n (k + 1) _ (by omega) (by omega), List.drop_eq_getElem_cons hk2, sN]
      congr 2
      rw [Nat.or_assoc, Nat.or_comm (2 ^ t[k])]
theorem M_setOf {ak : Nat} {t : List Nat} (ht : all7 t) (hl : t.length ≤ 7) (hA : Arr (sA Y ak) t) : jM_setOf Y ak (nI t.length) = some (nI (sN t)) := by
  unfold jM_setOf
  have := M_setOf_lp ht hl hA 10 0 0 (by omega) (by omega)
  rw [Nat.zero_or, List.drop_zero] at this
  exact this
theorem bit_shr {S m : Nat} (hS : S < 2147483648) (hm : m < 7) : (nI S >>> (nI m &&& 31)) &&& 1 = if S.testBit m = true then 1 else 0 := by
  rw [pk_shrN (n := S) (by omega) (nI m &&& 31) m (shl_hs m (by omega)), show (1 : Int32) = nI (2 ^ 1 - 1) from rfl, fa_mask, Nat.testBit_eq_decide_div_mod_eq]
  have : S / 2 ^ m % 2 < 2 := Nat.mod_lt _ (by decide)
  by_cases q : S / 2 ^ m % 2 = 1
  · rw [decide_eq_true q, if_pos rfl, Nat.pow_one, q]
  · rw [decide_eq_false q, if_neg (by decide), Nat.pow_one, show S / 2 ^ m % 2 = 0 by omega]; rfl
theorem M_mayRise (K : HY h Y) {ak : Nat} {t : List Nat} (ht : memn (hn h) t) (hl : t.length ≤ 7) (hA : Arr (sA Y ak) t) {m : Nat} (hm : m < 7) : jM_mayRise Y ak (nI m) (nI t.length) = some (bI (!decide (m ∈ t) && repOk h t m)) := by
  unfold jM_mayRise
  have h7 := memn_7 K.1 ht
  rw [M_setOf h7 hl hA, bS, bit_shr (Nat.lt_trans (sN_lt h7) (by decide)) hm, sN_bit]
  by_cases z : m ∈ t
  · rw [decide_eq_true z, if_neg (by decide)]; rfl
  · rw [decide_eq_false z, if_pos (by decide), if_pos (ibN (by omega) (by omega)), clN (by omega), K.2.2.2.2 m hm, repOk]
    by_cases y : hg h m 12 &&& (nI (sN t) ^^^ (-1)) = 0
    · rw [if_pos y, decide_eq_true y]; rfl
    · rw [if_neg y, decide_eq_false y]; rfl
theorem M_mayRise2 (K : HY h Y) {ak : Nat} {t : List Nat} (ht : memn (hn h) t) (hl : t.length ≤ 7) (hA : Arr (sA Y ak) t) {m : Nat} (hm : m < hn h) : jM_mayRise Y ak (nI m) (nI t.length) = some (bI (mayS h t m)) := by
  have := K.1
  rw [M_mayRise K ht hl hA (by omega), mayS, decide_eq_true hm, Bool.true_and]
/-- how high one stands (from below, 0: not) -/
def idxH (t : List Nat) (x : Nat) : Nat := if x ∈ t then t.idxOf x + 1 else 0
theorem M_height_lp {t : List Nat} (h7 : all7 t) (hl : t.length ≤ 7) (hhi : sF Y 14 = nI t.length) (hA : Arr (sA Y 6) t) {x : Nat} (hx : x < 7) : ∀ (n k : Nat), k ≤ t.length → t.length < k + n → ¬ x ∈ t.take k → jM_heightOf_2 Y n (nI x) (nI k) = some (nI (idxH t x))
  | 0, k, _, h2, _ => absurd h2 (by omega)
  | n + 1, k, hk, h2, hno => by
    rw [jM_heightOf_2, hhi]
    by_cases q : k = t.length
    · rw [if_pos (nI_le (by omega) (by omega)), idxH, if_neg (by rw [q, List.take_length] at hno; exact hno)]; rfl
    · have hk2 : k < t.length := by omega
      have hm := h7 _ (List.getElem_mem hk2)
      rw [if_neg (nI_ge (by omega) (by omega)), if_pos (ibN (by omega) (by omega)), clN (by omega), hA k hk2]
      by_cases z : t[k] = x
      · rw [if_pos (by rw [z]), nI_1]
        have hin : x ∈ t := by rw [← z]; exact List.getElem_mem hk2
        have e : t.idxOf x = k := by
          have h1 : t = t.take k ++ x :: t.drop (k + 1) := by
            conv => lhs; rw [← List.take_append_drop k t, List.drop_eq_getElem_cons hk2, z]
          rw [h1, List.idxOf_append, if_neg hno, List.idxOf_cons_self, List.length_take]
          omega
        rw [idxH, if_pos hin, e]
      · rw [if_neg (fun y => z (nI_inj (by omega) (by omega) y)), nI_1]
        refine M_height_lp h7 hl hhi hA hx n (k + 1) (by omega) (by omega) ?_
        rw [List.take_succ_eq_append_getElem hk2]
        intro y
        rcases List.mem_append.mp y with y | y
        · exact hno y
        · exact z (List.mem_singleton.mp y).symm
theorem M_height {t : List Nat} (h7 : all7 t) (hl : t.length ≤ 7) (hhi : sF Y 14 = nI t.length) (hA : Arr (sA Y 6) t) {x : Nat} (hx : x < 7) : jM_heightOf Y (nI x) = some (nI (idxH t x)) := M_height_lp h7 hl hhi hA hx 10 0 (by omega) (by omega) (by simp)
end MO
theorem nodup_rev {t : List Nat} (h : t.Nodup) : t.reverse.Nodup := List.pairwise_reverse.mpr (h.imp (fun q => q.symm))
/-- the class' way to that height -/
theorem hgt_idx : ∀ (t : List Nat), t.Nodup → ∀ x, hgt t.reverse x = idxH t x := by
  have key : ∀ (r : List Nat), r.Nodup → ∀ x, hgt r x = idxH r.reverse x := by
    intro r
    induction r with
    | nil => intro _ x; rfl
    | cons m r ih =>
      intro hnd x
      obtain ⟨h1, h2⟩ := List.nodup_cons.mp hnd
      rw [hgt, List.reverse_cons, ih h2 x]
      by_cases q : m = x
      · subst q
        rw [if_pos rfl, idxH, if_pos (by simp), List.idxOf_append, if_neg (by simpa using h1)]
        simp
      · rw [if_neg q, idxH, idxH]
        by_cases z : x ∈ r.reverse
        · rw [if_pos z, if_pos (List.mem_append_left _ z), List.idxOf_append, if_pos z]
        · rw [if_neg z, if_neg]
          intro y
          rcases List.mem_append.mp y with y | y
          · exact z y
          · exact q (List.mem_singleton.mp y).symm
  intro t ht x
  rw [key t.reverse (nodup_rev ht) x, List.reverse_reverse]
