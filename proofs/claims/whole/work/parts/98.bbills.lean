/-! the bills heard: a set of numbers as words and as flags -/
theorem clI_nat (x : Int32) : ∃ b, b ≤ 999 ∧ clI x = nI b := by
  unfold clI
  by_cases q : 0 ≤ x
  · rw [if_pos q]
    by_cases q2 : x ≤ 999
    · rw [if_pos q2]
      have a0 : (0 : Int32).toInt = 0 := rfl
      have a9 : (999 : Int32).toInt = 999 := rfl
      rw [Int32.le_iff_toInt_le] at q q2
      obtain ⟨k, rfl, h1, h2⟩ := toInt_nI (x := x) (by omega)
      exact ⟨k, by omega, rfl⟩
    · rw [if_neg q2]; exact ⟨999, by omega, rfl⟩
  · rw [if_neg q]; exact ⟨0, by omega, rfl⟩
theorem bill_nat (h : House) : ∀ (u : List Nat) (b : Nat), b ≤ 999 → ∃ c, c ≤ 999 ∧ u.foldl (spk h) (nI b) = nI c
  | [], b, hb => ⟨b, hb, rfl⟩
  | m :: u, b, hb => by
    obtain ⟨c, hc, e⟩ : ∃ c, c ≤ 999 ∧ spk h (nI b) m = nI c := clI_nat _
    obtain ⟨d, hd, e2⟩ := bill_nat h u c hc
    exact ⟨d, hd, by rw [List.foldl_cons, e, e2]⟩
def bN (h : House) (u : List Nat) : Nat := (billS h u).toNatClampNeg
theorem bN_eq (h : House) (u : List Nat) : billS h u = nI (bN h u) ∧ bN h u ≤ 999 := by
  obtain ⟨c, hc, e⟩ := bill_nat h u 0 (by omega)
  have e2 : billS h u = nI c := e
  unfold bN
  rw [e2, clN (by omega)]
  exact ⟨rfl, hc⟩
def wd (L : List Nat) (i : Nat) : Nat := sN ((L.filter (fun b => decide (b / 64 = i))).map (fun b => b % 64))
theorem wd_bit (L : List Nat) (i : Nat) {j : Nat} (hj : j < 64) : (wd L i).testBit j = decide (64 * i + j ∈ L) := by
  unfold wd
  rw [sN_bit]
  apply decide_eq_decide.mpr
  rw [List.mem_map]
  constructor
  · rintro ⟨b, h1, h2⟩
    obtain ⟨h3, h4⟩ := List.mem_filter.mp h1
    have := of_decide_eq_true h4
    rw [show 64 * i + j = b by omega]
    exact h3
  · intro h1
    exact ⟨64 * i + j, List.mem_filter.mpr ⟨h1, decide_eq_true (by omega)⟩, by omega⟩
theorem wd_lt (L : List Nat) (i : Nat) : wd L i < 2 ^ 64 := by
  unfold wd
  apply (sN_lt_iff 64).mpr
  intro m hm
  obtain ⟨b, -, rfl⟩ := List.mem_map.mp hm
  exact Nat.mod_lt _ (by decide)
theorem wd_ext {L M : List Nat} (h : ∀ b, b ∈ L ↔ b ∈ M) (i : Nat) : wd L i = wd M i := by
  unfold wd
  apply sN_ext
  intro j
  simp only [List.mem_map, List.mem_filter, h]
theorem wd_push (L : List Nat) (b i : Nat) : wd (L ++ [b]) i = if b / 64 = i then wd L i ||| 2 ^ (b % 64) else wd L i := by
  have e : wd (L ++ [b]) i = wd (b :: L) i := wd_ext (by intro x; simp [or_comm]) i
  rw [e]
  unfold wd
  by_cases q : b / 64 = i
  · rw [if_pos q, List.filter_cons_of_pos (by simpa using q), List.map_cons, sN]
  · rw [if_neg q, List.filter_cons_of_neg (by simpa using q)]
def BX (X : St) (L : List Nat) : Prop := ∀ i, i < 16 → sB X 13 i = lN (wd L i)
def EqB (X X2 : St) : Prop := (∀ q, sF X2 q = sF X q) ∧ (∀ q, sG X2 q = sG X q) ∧ (∀ i k, sM X2 i k = sM X i k) ∧ ∀ a, sA X2 a = sA X a
theorem EqB.rf {X : St} : EqB X X := ⟨fun _ => rfl, fun _ => rfl, fun _ _ => rfl, fun _ => rfl⟩
theorem EqB.tr {X X2 X3 : St} (a : EqB X X2) (b : EqB X2 X3) : EqB X X3 := ⟨fun q => (b.1 q).trans (a.1 q), fun q => (b.2.1 q).trans (a.2.1 q), fun i k => (b.2.2.1 i k).trans (a.2.2.1 i k), fun i => (b.2.2.2 i).trans (a.2.2.2 i)⟩
theorem EqB.eq {X X2 : St} (s : EqB X X2) : EqX X X2 :=
  ⟨⟨s.1 _, s.1 _, s.1 _, s.1 _, s.1 _⟩, ⟨s.1 _, s.1 _, s.1 _, s.1 _, s.1 _⟩, s.2.1 _, s.2.2.1, ⟨s.2.2.2 _, s.2.2.2 _, s.2.2.2 _⟩⟩
theorem add_eq {X : St} {L : List Nat} (hB : BX X L) {b : Nat} (hb : b ≤ 999) : ∃ X2, jBi_add X (nI b) = some X2 ∧ EqB X X2 ∧ BX X2 (L ++ [b]) := by
  have ed : nI b / 64 = nI (b / 64) := pk_div (d := 64) (by omega) (by omega) (by omega)
  have em : nI b - nI (b / 64) * 64 = nI (b % 64) := by
    rw [show (64 : Int32) = nI 64 from rfl, show nI (b / 64) * nI 64 = nI (b / 64 * 64) from pk_mul _ _, pk_sub (by omega)]
    congr 1
    omega
  unfold jBi_add
  rw [ed, if_neg (nI_pos (by omega)), if_neg (show ¬ (16 : Int32) ≤ nI (b / 64) from nI_ge (b := 16) (by omega) (by omega)), if_pos (ibN (by omega) (by omega)), if_pos (ibN (by omega) (by omega)), em, clN (by omega)]
  refine ⟨_, rfl, ⟨fun _ => rfl, fun _ => rfl, fun _ _ => rfl, fun _ => rfl⟩, ?_⟩
  intro i hi
  rw [sB_pB, if_pos rfl, wd_push]
  show (if i = b / 64 then _ else _) = _
  have hp : 2 ^ (b % 64) < 2 ^ 64 := wb_lt2 (by omega)
  by_cases q : b / 64 = i
  · rw [if_pos q.symm, if_pos q, q, hB i hi, show (1 : Int64) = lN 1 from rfl, lshN 1 (by omega), Nat.one_mul, wb_or (wd_lt L i) hp]
  · rw [if_neg (fun z => q z.symm), if_neg q]
    exact hB i hi
theorem clear_lp : ∀ (f k : Nat) (X : St), k ≤ 16 → 16 < k + f → ∃ X2, jBi_clear_2 f X (nI k) = some X2 ∧ EqB X X2 ∧ ∀ i, i < 16 → sB X2 13 i = if k ≤ i then 0 else sB X 13 i
  | 0, k, _, _, h2 => absurd h2 (by omega)
  | f + 1, k, X, hk, h2 => by
    rw [jBi_clear_2]
    by_cases q : k = 16
    · rw [if_pos (by rw [q]; decide)]
      exact ⟨X, rfl, EqB.rf, fun i hi => by rw [if_neg (by omega)]⟩
    · rw [if_neg (show ¬ (16 : Int32) ≤ nI k from nI_ge (b := 16) (by omega) (by omega)), if_pos (ibN (by omega) (by omega)), clN (by omega), nI_1 k]
      obtain ⟨X2, e, s, hb⟩ := clear_lp f (k + 1) (pB X 13 k 0) (by omega) (by omega)
      refine ⟨X2, e, EqB.tr ⟨fun _ => rfl, fun _ => rfl, fun _ _ => rfl, fun _ => rfl⟩ s, ?_⟩
      intro i hi
      rw [hb i hi, sB_pB, if_pos rfl]
      show (if k + 1 ≤ i then (0 : Int64) else if i = k then 0 else sB X 13 i) = _
      by_cases q1 : k ≤ i
      · rw [if_pos q1]
        by_cases q2 : k + 1 ≤ i
        · rw [if_pos q2]
        · rw [if_neg q2, if_pos (by omega)]
      · rw [if_neg q1, if_neg (by omega), if_neg (by omega)]
theorem clear_eq (X : St) : ∃ X2, jBi_clear X = some X2 ∧ EqB X X2 ∧ BX X2 [] := by
  obtain ⟨X2, e, s, hb⟩ := clear_lp 20 0 X (by omega) (by omega)
  exact ⟨X2, e, s, fun i hi => by rw [hb i hi, if_pos (Nat.zero_le _)]; rfl⟩
def cnt (L : List Nat) : Nat → Nat
  | 0 => 0
  | k + 1 => if k ∈ L then cnt L k + 1 else cnt L k
def grt (L : List Nat) : Nat → Int32
  | 0 => -1
  | k + 1 => if k ∈ L then nI k else grt L k
theorem cnt_le (L : List Nat) : ∀ k, cnt L k ≤ k
  | 0 => Nat.le_refl _
  | k + 1 => by
    have := cnt_le L k
    rw [cnt]
    split <;> omega
theorem cnt_wd (L : List Nat) (i : Nat) : ∀ j, j ≤ 64 → cnt L (64 * i + j) = cnt L (64 * i) + pcn (wd L i) j
  | 0, _ => rfl
  | j + 1, h => by
    have ih := cnt_wd L i j (by omega)
    have e := wd_bit L i (j := j) (by omega)
    rw [Nat.testBit_eq_decide_div_mod_eq] at e
    have e2 := decide_eq_decide.mp e
    have e3 : pcn (wd L i) (j + 1) = pcn (wd L i) j + wd L i / 2 ^ j % 2 := rfl
    have hb := b2 (wd L i) j
    rw [show 64 * i + (j + 1) = 64 * i + j + 1 by omega, cnt, e3, ih]
    by_cases q : 64 * i + j ∈ L
    · rw [if_pos q, e2.mpr q]
      omega
    · have : ¬ wd L i / 2 ^ j % 2 = 1 := fun z => q (e2.mp z)
      rw [if_neg q]
      omega
theorem cnt_top (L : List Nat) (h : ∀ b ∈ L, b ≤ 999) : ∀ k, cnt L (1000 + k) = cnt L 1000
  | 0 => rfl
  | k + 1 => by
    rw [show 1000 + (k + 1) = 1000 + k + 1 by omega, cnt, if_neg (fun z => by have := h _ z; omega), cnt_top L h k]
theorem grt_top (L : List Nat) (h : ∀ b ∈ L, b ≤ 999) : ∀ k, grt L (1000 + k) = grt L 1000
  | 0 => rfl
  | k + 1 => by
    rw [show 1000 + (k + 1) = 1000 + k + 1 by omega, grt, if_neg (fun z => by have := h _ z; omega), grt_top L h k]
theorem howMany_lp {X : St} {L : List Nat} (hB : BX X L) : ∀ (f i : Nat), i ≤ 16 → 16 < i + f → jBi_howMany_4 X f (nI (cnt L (64 * i))) (nI i) = some (nI (cnt L 1024))
  | 0, i, _, h2 => absurd h2 (by omega)
  | f + 1, i, hi, h2 => by
    rw [jBi_howMany_4]
    by_cases q : i = 16
    · rw [if_pos (by rw [q]; decide), q]
    · rw [if_neg (show ¬ (16 : Int32) ≤ nI i from nI_ge (b := 16) (by omega) (by omega)), if_pos (ibN (by omega) (by omega)), clN (by omega), hB i (by omega), bitCount_eq (wd_lt L i), bS, nI_add, nI_1 i, ← cnt_wd L i 64 (by omega)]
      exact howMany_lp hB f (i + 1) (by omega) (by omega)
theorem howMany_eq {X : St} {L : List Nat} (hB : BX X L) (h : ∀ b ∈ L, b ≤ 999) : jBi_howMany X = some (nI (cnt L 1000)) := by
  have := howMany_lp hB 20 0 (by omega) (by omega)
  rw [show cnt L 1024 = cnt L 1000 from cnt_top L h 24] at this
  exact this
theorem grt_flat (L : List Nat) (a : Nat) : ∀ k, (∀ j, j < k → ¬ a + j ∈ L) → grt L (a + k) = grt L a
  | 0, _ => rfl
  | k + 1, h => by
    rw [show a + (k + 1) = a + k + 1 by omega, grt, if_neg (h k (by omega)), grt_flat L a k (fun j hj => h j (by omega))]
theorem greatest_m1 (X : St) (f : Nat) : jBi_greatest_8 X (f + 1) (-1) = some (-1) := by
  rw [jBi_greatest_8, if_pos (by decide)]
theorem greatest_lp {X : St} {L : List Nat} (hB : BX X L) : ∀ (i f : Nat), i < 16 → i + 1 < f → jBi_greatest_8 X f (nI i) = some (grt L (64 * (i + 1)))
  | i, 0, _, h2 => absurd h2 (by omega)
  | i, f + 1, hi, h2 => by
    have hl := wd_lt L i
    rw [jBi_greatest_8, if_neg (nI_pos (by omega)), if_pos (ibN (by omega) (by omega)), clN (by omega), hB i hi]
    by_cases q : wd L i = 0
    · rw [if_pos (by rw [q]; exact (cmp0 _ _).mpr rfl), Nat.mul_add, Nat.mul_one, grt_flat L (64 * i) 64]
      · cases i with
        | zero =>
          rw [show nI 0 + -1 = (-1 : Int32) from rfl]
          obtain ⟨g, rfl⟩ : ∃ g, f = g + 1 := ⟨f - 1, by omega⟩
          rw [greatest_m1]
          rfl
        | succ i =>
          rw [pk_m1]
          exact greatest_lp hB i f (by omega) (by omega)
      · intro j hj hm
        have := wd_bit L i hj
        rw [q, Nat.zero_testBit, decide_eq_true hm] at this
        cases this
    · obtain ⟨j, h1, h3, h4, h5⟩ := nz_64 (n := wd L i) (by omega) hl
      have hne : ¬ lg_cmp (lN (wd L i)) 0 = 0 := by
        intro z
        have z1 := (cmp0 _ _).mp z
        have z2 : (lN (wd L i)).toBitVec.toNat = (0 : Int64).toBitVec.toNat := by rw [z1]
        rw [wb_tn hl] at z2
        exact q z2
      have ew : (nI i + 1) * 64 - 1 - nI (63 - j) = nI (64 * i + j) := by
        rw [nI_1, show (64 : Int32) = nI 64 from rfl, show nI (i + 1) * nI 64 = nI ((i + 1) * 64) from pk_mul _ _, show (1 : Int32) = nI 1 from rfl, pk_sub (by omega), pk_sub (by omega)]
        congr 1
        omega
      rw [if_neg hne, if_pos (ibN (by omega) (by omega)), h5, bS, ew]
      have hin : 64 * i + j ∈ L := by
        have e := wd_bit L i h1
        have e2 : (wd L i).testBit j = true := by
          rw [Nat.testBit_eq_decide_div_mod_eq]
          apply decide_eq_true
          have h6 : wd L i / 2 ^ j = 1 := by
            apply Nat.div_eq_of_lt_le
            · rw [Nat.one_mul]; exact h3
            · rw [Nat.pow_succ] at h4; omega
          rw [h6]
        rw [e2] at e
        exact of_decide_eq_true e.symm
      have e2 : grt L (64 * (i + 1)) = grt L (64 * i + j + 1) := by
        have := grt_flat L (64 * i + j + 1) (63 - j) ?_
        · rw [← this]
          congr 1
          omega
        · intro k hk hm
          have e := wd_bit L i (j := j + 1 + k) (by omega)
          rw [show 64 * i + (j + 1 + k) = 64 * i + j + 1 + k by omega, decide_eq_true hm] at e
          have e3 := Nat.ge_two_pow_of_testBit e
          have e4 : 2 ^ (j + 1) ≤ 2 ^ (j + 1 + k) := Nat.pow_le_pow_right (by decide) (by omega)
          omega
      rw [e2, grt, if_pos hin]
theorem greatest_eq {X : St} {L : List Nat} (hB : BX X L) (h : ∀ b ∈ L, b ≤ 999) : jBi_greatest X = some (grt L 1000) := by
  have := greatest_lp hB 15 20 (by omega) (by omega)
  rw [show grt L (64 * (15 + 1)) = grt L 1000 from grt_top L h 24] at this
  exact this
def BY (Y : St) (L : List Nat) : Prop := ∀ b, b < 1000 → sA Y 9 b = if b ∈ L then 1 else 0
theorem laws_lp {N : Nat} {Y : St} {L : List Nat} (hB : BY Y L) (a2 : Int32) : ∀ (f k : Nat), k ≤ 1000 → 1000 < k + f → jM_laws_56 N f Y a2 (nI (cnt L k)) (grt L k) (nI k) = some (if a2 = 0 then nI (cnt L 1000) else grt L 1000, Y)
  | 0, k, _, h2 => absurd h2 (by omega)
  | f + 1, k, hk, h2 => by
    rw [jM_laws_56]
    by_cases q : k = 1000
    · rw [if_pos (by rw [q]; decide), q]
      split <;> rfl
    · rw [if_neg (show ¬ (1000 : Int32) ≤ nI k from nI_ge (b := 1000) (by omega) (by omega)), if_pos (ibN (by omega) (by omega)), clN (by omega), hB k (by omega)]
      have ih := laws_lp hB (N := N) a2 f (k + 1) (by omega) (by omega)
      rw [cnt, grt] at ih
      unfold jM_laws_80 jM_laws_99
      rw [if_pos (ibN (by omega) (by omega)), if_pos (ibN (by omega) (by omega)), clN (by omega), hB k (by omega), nI_1 k]
      by_cases z : k ∈ L
      · rw [if_pos z, if_pos z] at ih
        rw [if_pos z, if_neg (by decide), if_neg (by decide), nI_1]
        exact ih
      · rw [if_neg z, if_neg z] at ih
        rw [if_neg z, if_pos rfl, if_pos rfl, Int32.add_zero]
        exact ih
