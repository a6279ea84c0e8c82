/-! all orders of a row, one after the other; the best pairing of two rows -/
def fd (g : Nat → Nat) : Nat → Option Nat
  | 0 => none
  | k + 1 => if g k ≤ g (k + 1) then some k else fd g k
def fj (g : Nat → Nat) (i : Nat) : Nat → Nat
  | 0 => 0
  | k + 1 => if g i ≤ g k then k else fj g i k
def sw (g : Nat → Nat) (i j : Nat) : Nat → Nat := fun x => if x = j then g i else if x = i then g j else g x
def rv : Nat → (Nat → Nat) → Nat → Nat → Nat → Nat
  | 0, g, _, _ => g
  | f + 1, g, a, b => if b ≤ a then g else rv f (sw g a b) (a + 1) (b - 1)
def nx (n : Nat) (g : Nat → Nat) : Option (Nat → Nat) :=
  match fd g (n - 1) with
  | none => none
  | some i => some (rv 10 (sw g i (fj g i n)) (i + 1) (n - 1))
def ft : Nat → Nat
  | 0 => 1
  | n + 1 => (n + 1) * ft n
def pm : Nat → List Nat → Nat → List Nat
  | 0, _, _ => []
  | n + 1, s, k => s.getD (k / ft n) 0 :: pm n (s.erase (s.getD (k / ft n) 0)) (k % ft n)
def nxOk (n k : Nat) : Bool :=
  match nx n (fun i => (pm n (List.range n) k).getD i 0) with
  | none => Nat.beq (ft n) (k + 1)
  | some g => Nat.ble (k + 2) (ft n) && (List.range n).all (fun i => Nat.beq (g i) ((pm n (List.range n) (k + 1)).getD i 0))
theorem nxOk_s : ∀ n, n < 6 → ∀ a, a < 12 → ∀ b, b < 10 → 10 * a + b < ft (n + 1) → n + 1 ≤ 5 → nxOk (n + 1) (10 * a + b) = true := by decide +kernel
theorem nxOk_6 : ∀ a, a < 36 → ∀ b, b < 20 → nxOk 6 (20 * a + b) = true := by decide +kernel
theorem nxOk_7_0 : ∀ a, a < 21 → ∀ b, b < 20 → nxOk 7 (20 * a + b + 0) = true := by decide +kernel
theorem nxOk_7_1 : ∀ a, a < 21 → ∀ b, b < 20 → nxOk 7 (20 * a + b + 420) = true := by decide +kernel
theorem nxOk_7_2 : ∀ a, a < 21 → ∀ b, b < 20 → nxOk 7 (20 * a + b + 840) = true := by decide +kernel
theorem nxOk_7_3 : ∀ a, a < 21 → ∀ b, b < 20 → nxOk 7 (20 * a + b + 1260) = true := by decide +kernel
theorem nxOk_7_4 : ∀ a, a < 21 → ∀ b, b < 20 → nxOk 7 (20 * a + b + 1680) = true := by decide +kernel
theorem nxOk_7_5 : ∀ a, a < 21 → ∀ b, b < 20 → nxOk 7 (20 * a + b + 2100) = true := by decide +kernel
theorem nxOk_7_6 : ∀ a, a < 21 → ∀ b, b < 20 → nxOk 7 (20 * a + b + 2520) = true := by decide +kernel
theorem nxOk_7_7 : ∀ a, a < 21 → ∀ b, b < 20 → nxOk 7 (20 * a + b + 2940) = true := by decide +kernel
theorem nxOk_7_8 : ∀ a, a < 21 → ∀ b, b < 20 → nxOk 7 (20 * a + b + 3360) = true := by decide +kernel
theorem nxOk_7_9 : ∀ a, a < 21 → ∀ b, b < 20 → nxOk 7 (20 * a + b + 3780) = true := by decide +kernel
theorem nxOk_7_10 : ∀ a, a < 21 → ∀ b, b < 20 → nxOk 7 (20 * a + b + 4200) = true := by decide +kernel
theorem nxOk_7_11 : ∀ a, a < 21 → ∀ b, b < 20 → nxOk 7 (20 * a + b + 4620) = true := by decide +kernel
