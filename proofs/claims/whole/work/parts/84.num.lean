/-! numbers: what the pure part stands on -/
theorem fa_and (a b : Nat) : nI a &&& nI b = nI (a &&& b) := by
  apply Int32.toBitVec_inj.1
  show BitVec.ofNat 32 a &&& BitVec.ofNat 32 b = BitVec.ofNat 32 (a &&& b)
  apply BitVec.eq_of_getLsbD_eq
  intro i hi
  simp [hi]
theorem fa_or (a b : Nat) : nI a ||| nI b = nI (a ||| b) := by
  apply Int32.toBitVec_inj.1
  show BitVec.ofNat 32 a ||| BitVec.ofNat 32 b = BitVec.ofNat 32 (a ||| b)
  apply BitVec.eq_of_getLsbD_eq
  intro i hi
  simp [hi]
theorem fa_mask (n k : Nat) : nI n &&& nI (2 ^ k - 1) = nI (n % 2 ^ k) := by rw [fa_and, Nat.and_two_pow_sub_one_eq_mod]
theorem ibN {i n : Nat} (h : i < n) (hn : n < 2147483648) : ib (nI i) n = true := by
  unfold ib
  rw [nI_clamp (by omega), decide_eq_false (nI_pos (by omega)), decide_eq_true h]
  rfl
theorem ib_of {x : Int32} {n : Nat} (h : ib x n = true) (hn : n < 2147483648) : ∃ j, j < n ∧ x = nI j := vp_in_of (ib_in h) hn
theorem clN {i : Nat} (h : i < 2147483648) : (nI i).toNatClampNeg = i := nI_clamp h
/-- any int that lies between is a number -/
theorem nI_between {x : Int32} {k : Nat} (hk : k < 2147483648) (h0 : ¬ x < 0) (h1 : ¬ nI k < x) : ∃ j, j ≤ k ∧ x = nI j := by
  obtain ⟨j, hj, rfl⟩ := nI_of h0
  exact ⟨j, Nat.not_lt.mp (fun q => h1 (nI_lt q hj)), rfl⟩
theorem nI_inj {a b : Nat} (ha : a < 2147483648) (hb : b < 2147483648) (h : nI a = nI b) : a = b := (nI_eq ha hb).mp h
/-- a row of members, the topmost first, as a number -/
def enr : List Nat → Nat
  | [] => 0
  | m :: r => enr r * 8 + (m + 1)
def all7 (r : List Nat) : Prop := ∀ m ∈ r, m < 7
theorem all7_c {m : Nat} {r : List Nat} : all7 (m :: r) ↔ m < 7 ∧ all7 r := by simp [all7]
theorem all7_app {a b : List Nat} : all7 (a ++ b) ↔ all7 a ∧ all7 b := by
  unfold all7
  constructor
  · intro h
    exact ⟨fun m hm => h m (List.mem_append_left _ hm), fun m hm => h m (List.mem_append_right _ hm)⟩
  · rintro ⟨h1, h2⟩ m hm
    rcases List.mem_append.mp hm with h | h
    · exact h1 m h
    · exact h2 m h
theorem all7_rev {a : List Nat} : all7 a.reverse ↔ all7 a := by simp [all7]
theorem enr_lt : ∀ {r : List Nat}, all7 r → enr r < 8 ^ r.length
  | [], _ => by simp [enr]
  | m :: r, h => by
    obtain ⟨h1, h2⟩ := all7_c.mp h
    have := enr_lt h2
    rw [enr, List.length_cons, Nat.pow_succ]
    omega
theorem enr_small {r : List Nat} (h : all7 r) (hl : r.length ≤ 7) : enr r < 2097152 := by
  have h1 := enr_lt h
  have h2 : 8 ^ r.length ≤ 8 ^ 7 := Nat.pow_le_pow_right (by decide) hl
  have h3 : 8 ^ 7 = 2097152 := by decide
  omega
theorem enr_zero {r : List Nat} : enr r = 0 ↔ r = [] := by
  cases r with
  | nil => simp [enr]
  | cons m r => simp [enr]
theorem enr_drop : ∀ (i : Nat) {r : List Nat}, all7 r → enr r / 8 ^ i = enr (r.drop i)
  | 0, r, _ => by simp
  | i + 1, [], _ => by simp [enr]
  | i + 1, m :: r, h => by
    obtain ⟨h1, h2⟩ := all7_c.mp h
    rw [Nat.pow_succ', ← Nat.div_div_eq_div_mul, enr, show (enr r * 8 + (m + 1)) / 8 = enr r by omega, List.drop_succ_cons]
    exact enr_drop i h2
theorem enr_inj : ∀ {r q : List Nat}, all7 r → all7 q → enr r = enr q → r = q
  | [], [], _, _, _ => rfl
  | [], m :: q, _, _, h => by simp [enr] at h
  | m :: r, [], _, _, h => by simp [enr] at h
  | m :: r, k :: q, h1, h2, h => by
    obtain ⟨a1, a2⟩ := all7_c.mp h1
    obtain ⟨b1, b2⟩ := all7_c.mp h2
    rw [enr, enr] at h
    have e1 : m = k := by omega
    have e2 : enr r = enr q := by omega
    rw [e1, enr_inj a2 b2 e2]
theorem ush3 {a : Nat} (h : a < 2147483648) : ush (nI a) 3 = nI (a / 8) := by
  unfold ush
  rw [pk_ushrN (n := a) (by omega) 3 3 (by decide)]
theorem L_top {m : Nat} {r : List Nat} (hm : m < 7) : jRo_top (nI (enr (m :: r))) = some (nI m) := by
  unfold jRo_top
  rw [show (7 : Int32) = nI (2 ^ 3 - 1) from rfl, fa_mask, enr, show (enr r * 8 + (m + 1)) % 2 ^ 3 = m + 1 by omega, nI_pred]
theorem L_below {m : Nat} {r : List Nat} (h : all7 (m :: r)) (hl : r.length ≤ 6) : jRo_belowTop (nI (enr (m :: r))) = some (nI (enr r)) := by
  unfold jRo_belowTop
  have h1 := enr_small h (by simp; omega)
  rw [ush3 (by omega), enr, show (enr r * 8 + (m + 1)) / 8 = enr r by have := (all7_c.mp h).1; omega]
theorem L_with {m : Nat} {r : List Nat} (h : all7 (m :: r)) (hl : r.length ≤ 6) : jRo_with (nI (enr r)) (nI m) = some (nI (enr (m :: r))) := by
  unfold jRo_with
  have h0 := (all7_c.mp h).1
  have h1 := enr_small (all7_c.mp h).2 (by omega)
  rw [pk_shlN (n := enr r) (3 &&& 31) 3 (by decide) (by omega), nI_1, show (7 : Int32) = nI (2 ^ 3 - 1) from rfl, fa_mask, fa_or, Nat.mul_comm, ← Nat.two_pow_add_eq_or_of_lt (by omega), enr, show (m + 1) % 2 ^ 3 = m + 1 by omega]
  congr 2
  omega
theorem bS {α β : Type} (a : α) (f : α → Option β) : (some a).bind f = f a := rfl
