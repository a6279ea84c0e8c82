/-! how many bits a word has set, and its highest -/
theorem and_split {a c k : Nat} (ha : a < 2 ^ k) (hc : c < 2 ^ k) (b d : Nat) : (2 ^ k * b + a) &&& (2 ^ k * d + c) = 2 ^ k * (b &&& d) + (a &&& c) := by
  apply Nat.eq_of_testBit_eq
  intro j
  rw [Nat.testBit_and, Nat.testBit_two_pow_mul_add _ ha, Nat.testBit_two_pow_mul_add _ hc, Nat.testBit_two_pow_mul_add _ (Nat.and_lt_two_pow _ hc)]
  by_cases q : j < k
  · rw [if_pos q, if_pos q, if_pos q, Nat.testBit_and]
  · rw [if_neg q, if_neg q, if_neg q, Nat.testBit_and]
def dg (w : Nat) : Nat → (Nat → Nat) → Nat
  | 0, _ => 0
  | K + 1, f => 2 ^ w * dg w K (fun k => f (k + 1)) + f 0
theorem dg_2 (w K : Nat) (f : Nat → Nat) : dg w (2 * (K + 1)) f = 2 ^ (2 * w) * dg w (2 * K) (fun k => f (k + 2)) + (2 ^ w * f 1 + f 0) := by
  rw [show 2 * (K + 1) = 2 * K + 1 + 1 by omega, dg, dg, Nat.two_mul w, Nat.pow_add, Nat.mul_add, Nat.mul_assoc, Nat.add_assoc]
theorem two_dg {w a b : Nat} (ha : a < 2 ^ w) (hb : b < 2 ^ w) : 2 ^ w * a + b < 2 ^ (2 * w) := by
  rw [Nat.two_mul, Nat.pow_add]
  have h1 : 2 ^ w * (a + 1) ≤ 2 ^ w * 2 ^ w := Nat.mul_le_mul_left _ ha
  rw [Nat.mul_add] at h1
  omega
theorem pw_le (w : Nat) : 2 ^ w ≤ 2 ^ (2 * w) := Nat.pow_le_pow_right (by decide) (by omega)
theorem dg_even {w : Nat} : ∀ (K : Nat) {f : Nat → Nat}, (∀ k, f k < 2 ^ w) → dg w (2 * K) f &&& dg (2 * w) K (fun _ => 2 ^ w - 1) = dg (2 * w) K (fun k => f (2 * k))
  | 0, f, _ => by simp [dg]
  | K + 1, f, hf => by
    have hp := Nat.two_pow_pos w
    have h2 := pw_le w
    rw [dg_2, dg, and_split (two_dg (hf 1) (hf 0)) (by omega), dg_even K (fun k => hf (k + 2)), dg, Nat.and_two_pow_sub_one_eq_mod, Nat.mul_add_mod, Nat.mod_eq_of_lt (hf 0)]
    rfl
theorem dg_odd {w : Nat} : ∀ (K : Nat) {f : Nat → Nat}, (∀ k, f k < 2 ^ w) → dg w (2 * K) f / 2 ^ w &&& dg (2 * w) K (fun _ => 2 ^ w - 1) = dg (2 * w) K (fun k => f (2 * k + 1))
  | 0, f, _ => by simp [dg]
  | K + 1, f, hf => by
    have hp := Nat.two_pow_pos w
    have h2 := pw_le w
    have e : (2 ^ (2 * w) * dg w (2 * K) (fun k => f (k + 2)) + (2 ^ w * f 1 + f 0)) / 2 ^ w = 2 ^ (2 * w) * (dg w (2 * K) (fun k => f (k + 2)) / 2 ^ w) + (2 ^ w * (dg w (2 * K) (fun k => f (k + 2)) % 2 ^ w) + f 1) := by
      generalize dg w (2 * K) (fun k => f (k + 2)) = D
      rw [Nat.two_mul, Nat.pow_add, Nat.mul_assoc, ← Nat.add_assoc, ← Nat.mul_add, Nat.mul_add_div hp, Nat.div_eq_of_lt (hf 0), Nat.add_zero, Nat.mul_assoc, ← Nat.add_assoc, ← Nat.mul_add, Nat.div_add_mod]
    rw [dg_2, e, dg, and_split (two_dg (Nat.mod_lt _ hp) (hf 1)) (by omega), dg_odd K (fun k => hf (k + 2)), dg, Nat.and_two_pow_sub_one_eq_mod, Nat.mul_add_mod, Nat.mod_eq_of_lt (hf 1)]
    rfl
theorem dg_add {w : Nat} : ∀ (K : Nat) (f g : Nat → Nat), dg w K f + dg w K g = dg w K (fun k => f k + g k)
  | 0, f, g => rfl
  | K + 1, f, g => by
    rw [dg, dg, dg, ← dg_add K, Nat.mul_add]
    omega
theorem dg_pair {w : Nat} : ∀ (K : Nat) (f : Nat → Nat), dg w (2 * K) f = dg (2 * w) K (fun k => f (2 * k) + 2 ^ w * f (2 * k + 1))
  | 0, f => rfl
  | K + 1, f => by
    rw [dg_2, dg, dg_pair K]
    simp only [Nat.mul_zero, Nat.zero_add]
    rw [Nat.add_comm (f 0)]
    rfl
theorem dg_lt {w : Nat} : ∀ (K : Nat) {f : Nat → Nat}, (∀ k, f k < 2 ^ w) → dg w K f < 2 ^ (w * K)
  | 0, f, _ => by rw [dg, Nat.mul_zero]; decide
  | K + 1, f, hf => by
    have ih := dg_lt K (f := fun k => f (k + 1)) (fun k => hf (k + 1))
    have h0 := hf 0
    rw [dg, Nat.mul_succ, Nat.pow_add, Nat.mul_comm (2 ^ (w * K))]
    have h1 : 2 ^ w * (dg w K (fun k => f (k + 1)) + 1) ≤ 2 ^ w * 2 ^ (w * K) := Nat.mul_le_mul_left _ ih
    rw [Nat.mul_add] at h1
    omega
theorem dg_bits : ∀ (K x : Nat), x < 2 ^ K → dg 1 K (fun k => x / 2 ^ k % 2) = x
  | 0, x, h => by rw [dg]; simp at h; exact h.symm
  | K + 1, x, h => by
    rw [Nat.pow_succ] at h
    have ih := dg_bits K (x / 2) (by omega)
    have e : (fun k => x / 2 ^ (k + 1) % 2) = fun k => x / 2 / 2 ^ k % 2 := by
      funext k
      rw [Nat.div_div_eq_div_mul, Nat.pow_succ']
    rw [dg, e, ih]
    simp
    omega
theorem dg_ext {w : Nat} : ∀ (K : Nat) (f : Nat → Nat), f K = 0 → dg w (K + 1) f = dg w K f
  | 0, f, h => by rw [dg, dg, h]; simp [dg]
  | K + 1, f, h => by
    rw [dg, dg_ext K (fun k => f (k + 1)) h]
    rfl
theorem dg_div {w : Nat} (K : Nat) {f : Nat → Nat} (h : f 0 < 2 ^ w) : dg w (K + 1) f / 2 ^ w = dg w K (fun k => f (k + 1)) := by
  rw [dg, Nat.mul_add_div (Nat.two_pow_pos w), Nat.div_eq_of_lt h, Nat.add_zero]
def sm : Nat → (Nat → Nat) → Nat
  | 0, _ => 0
  | K + 1, f => sm K f + f K
theorem sm_2 : ∀ (K : Nat) (f : Nat → Nat), sm (2 * K) f = sm K (fun k => f (2 * k) + f (2 * k + 1))
  | 0, f => rfl
  | K + 1, f => by
    rw [show 2 * (K + 1) = 2 * K + 1 + 1 by omega, sm, sm, sm, sm_2 K]
    omega
def pcn (n K : Nat) : Nat := sm K (fun k => n / 2 ^ k % 2)
theorem b2 (n k : Nat) : n / 2 ^ k % 2 < 2 := Nat.mod_lt _ (by decide)
theorem pcn_om (a b c d e f g h v v1 v2 v3 w1 w2 w3 : Nat) (ha : a ≤ 8) (hb : b ≤ 8) (hc : c ≤ 8) (hd : d ≤ 8) (he : e ≤ 8) (hf : f ≤ 8) (hg : g ≤ 8) (hh : h ≤ 8) (ev : v = 256 * (256 * (256 * (256 * (256 * (256 * (256 * h + g) + f) + e) + d) + c) + b) + a) (e1 : w1 = v / 256) (ev1 : v1 = v + w1) (e2 : w2 = v1 / 65536) (ev2 : v2 = v1 + w2) (e3 : w3 = v2 / 4294967296) (ev3 : v3 = v2 + w3) : v < 1152921504606846976 ∧ v3 % 128 = a + b + c + d + e + f + g + h := by
  have f1 : w1 = 256 * (256 * (256 * (256 * (256 * (256 * h + g) + f) + e) + d) + c) + b := by clear ev1 ev2 ev3 e2 e3; omega
  have f2 : w2 = 256 * (256 * (256 * (256 * (256 * h + (g + h)) + (f + g)) + (e + f)) + (d + e)) + (c + d) := by clear ev2 ev3 e3 e1; omega
  have f3 : w3 = 256 * (256 * (256 * h + (g + h)) + (f + g + h)) + (e + f + g + h) := by clear ev3 e1 e2; omega
  clear e1 e2 e3
  constructor
  · clear ev1 ev2 ev3 f1 f2 f3; omega
  · subst ev f1 ev1 f2 ev2 f3 ev3; omega
theorem pop_nat {n y z u : Nat} (hn : n < 2 ^ 64) (ey : y = n - (n / 2 ^ 1 &&& 6148914691236517205)) (ez : z = (y &&& 3689348814741910323) + (y / 2 ^ 2 &&& 3689348814741910323)) (eu : u = (z + z / 2 ^ 4) &&& 1085102592571150095) : (n / 2 ^ 1 &&& 6148914691236517205) ≤ n ∧ y < 2 ^ 64 ∧ z + z / 2 ^ 4 < 2 ^ 64 ∧ z < 2 ^ 64 ∧ ∃ p : Nat → Nat, (∀ k, p k ≤ 8) ∧ u = dg 8 8 p ∧ sm 8 p = pcn n 64 := by
  have hb : ∀ k, (fun k => n / 2 ^ k % 2) k < 2 ^ 1 := fun k => b2 n k
  have hz : ∀ k, 64 ≤ k → (fun k => n / 2 ^ k % 2) k = 0 := by
    intro k hk
    dsimp only
    rw [Nat.div_eq_of_lt (Nat.lt_of_lt_of_le hn (Nat.pow_le_pow_right (by decide) hk))]
  have e0 : dg 1 64 (fun k => n / 2 ^ k % 2) = n := dg_bits 64 n hn
  have es : sm 64 (fun k => n / 2 ^ k % 2) = pcn n 64 := rfl
  generalize (fun k => n / 2 ^ k % 2) = f at e0 es hb hz
  have a1 : n / 2 ^ 1 &&& 6148914691236517205 = dg 2 32 (fun k => f (2 * k + 1)) := by
    rw [← e0]
    exact dg_odd 32 hb
  have a2 : n = dg 2 32 (fun k => f (2 * k) + 2 * f (2 * k + 1)) := by
    rw [← e0]
    exact dg_pair (w := 1) 32 f
  have a3 : dg 2 32 (fun k => f (2 * k) + f (2 * k + 1)) + dg 2 32 (fun k => f (2 * k + 1)) = n := by
    rw [dg_add]
    refine Eq.trans ?_ a2.symm
    congr 1
    funext k
    omega
  have ey2 : y = dg 2 32 (fun k => f (2 * k) + f (2 * k + 1)) := by rw [ey, a1]; omega
  have hg : ∀ k, (fun k => f (2 * k) + f (2 * k + 1)) k < 2 ^ 2 := by
    intro k
    have h1 := hb (2 * k)
    have h2 := hb (2 * k + 1)
    show f (2 * k) + f (2 * k + 1) < 4
    omega
  have hg2 : ∀ k, (fun k => f (2 * k) + f (2 * k + 1)) k ≤ 2 := by
    intro k
    have h1 := hb (2 * k)
    have h2 := hb (2 * k + 1)
    show f (2 * k) + f (2 * k + 1) ≤ 2
    omega
  have hgz : ∀ k, 32 ≤ k → (fun k => f (2 * k) + f (2 * k + 1)) k = 0 := by
    intro k hk
    show f (2 * k) + f (2 * k + 1) = 0
    rw [hz _ (by omega), hz _ (by omega)]
  have sg : sm 32 (fun k => f (2 * k) + f (2 * k + 1)) = pcn n 64 := by rw [← es]; exact (sm_2 32 f).symm
  have hB : (n / 2 ^ 1 &&& 6148914691236517205) ≤ n := by rw [a1]; omega
  generalize (fun k => f (2 * k) + f (2 * k + 1)) = g at ey2 hg hg2 hgz sg
  have b1 : y &&& 3689348814741910323 = dg 4 16 (fun k => g (2 * k)) := by
    rw [ey2]
    exact dg_even 16 hg
  have b2 : y / 2 ^ 2 &&& 3689348814741910323 = dg 4 16 (fun k => g (2 * k + 1)) := by
    rw [ey2]
    exact dg_odd 16 hg
  have ez2 : z = dg 4 16 (fun k => g (2 * k) + g (2 * k + 1)) := by rw [ez, b1, b2, dg_add]
  have hr : ∀ k, (fun k => g (2 * k) + g (2 * k + 1)) k ≤ 4 := by
    intro k
    have h1 := hg2 (2 * k)
    have h2 := hg2 (2 * k + 1)
    show g (2 * k) + g (2 * k + 1) ≤ 4
    omega
  have hrz : (fun k => g (2 * k) + g (2 * k + 1)) 16 = 0 := by
    show g (2 * 16) + g (2 * 16 + 1) = 0
    rw [hgz _ (by omega), hgz _ (by omega)]
  have sr : sm 16 (fun k => g (2 * k) + g (2 * k + 1)) = pcn n 64 := by rw [← sg]; exact (sm_2 16 g).symm
  generalize (fun k => g (2 * k) + g (2 * k + 1)) = r at ez2 hr hrz sr
  have c1 : z / 2 ^ 4 = dg 4 16 (fun k => r (k + 1)) := by
    rw [ez2, dg_ext 15 (fun k => r (k + 1)) hrz]
    exact dg_div 15 (by have := hr 0; omega)
  have c2 : z + z / 2 ^ 4 = dg 4 16 (fun k => r k + r (k + 1)) := by rw [c1, ez2, dg_add]
  have hs : ∀ k, (fun k => r k + r (k + 1)) k < 2 ^ 4 := by
    intro k
    have h1 := hr k
    have h2 := hr (k + 1)
    show r k + r (k + 1) < 16
    omega
  have l1 : y < 2 ^ 64 := by rw [ey2]; exact dg_lt 32 hg
  have l2 : z + z / 2 ^ 4 < 2 ^ 64 := by rw [c2]; exact dg_lt 16 hs
  refine ⟨hB, l1, l2, Nat.lt_of_le_of_lt (Nat.le_add_right _ _) l2, fun k => r (2 * k) + r (2 * k + 1), ?_, ?_, ?_⟩
  · intro k
    have h1 := hr (2 * k)
    have h2 := hr (2 * k + 1)
    show r (2 * k) + r (2 * k + 1) ≤ 8
    omega
  · rw [eu, c2]
    exact dg_even 8 hs
  · rw [← sr]
    exact (sm_2 8 r).symm
theorem bitCount_eq {n : Nat} (hn : n < 2 ^ 64) : jLo_bitCount (lN n) = some (nI (pcn n 64)) := by
  obtain ⟨h1, h2, h3, h4, p, h5, h6, h7⟩ := pop_nat hn rfl rfl rfl
  generalize ey : n - (n / 2 ^ 1 &&& 6148914691236517205) = y at h2 h3 h4 h6
  generalize ez : (y &&& 3689348814741910323) + (y / 2 ^ 2 &&& 3689348814741910323) = z at h3 h4 h6
  generalize eu : (z + z / 2 ^ 4) &&& 1085102592571150095 = u at h6
  have hu : u < 2 ^ 64 := by rw [← eu]; exact Nat.and_lt_two_pow _ (by decide)
  obtain ⟨k1, k2⟩ := pcn_om (p 0) (p 1) (p 2) (p 3) (p 4) (p 5) (p 6) (p 7) u _ _ _ _ _ _ (h5 0) (h5 1) (h5 2) (h5 3) (h5 4) (h5 5) (h5 6) (h5 7) (by rw [h6]; simp [dg]) rfl rfl rfl rfl rfl rfl
  have e1 : lN n - (lush (lN n) 1 &&& 6148914691236517205) = lN y := by
    rw [show lush (lN n) 1 = lN (n / 2 ^ 1) from lushN (k := 1) hn (by omega), show (6148914691236517205 : Int64) = lN 6148914691236517205 from rfl, wb_and (div_lt64 hn) (by decide), lN_sub h1, ey]
  have e2 : (lN y &&& 3689348814741910323) + (lush (lN y) 2 &&& 3689348814741910323) = lN z := by
    rw [show lush (lN y) 2 = lN (y / 2 ^ 2) from lushN (k := 2) h2 (by omega), show (3689348814741910323 : Int64) = lN 3689348814741910323 from rfl, wb_and h2 (by decide), wb_and (div_lt64 h2) (by decide), lN_add, ez]
  have e3 : (lN z + lush (lN z) 4) &&& 1085102592571150095 = lN u := by
    rw [show lush (lN z) 4 = lN (z / 2 ^ 4) from lushN (k := 4) h4 (by omega), show (1085102592571150095 : Int64) = lN 1085102592571150095 from rfl, lN_add, wb_and h3 (by decide), eu]
  have e4 : lN u + lush (lN u) 8 = lN (u + u / 256) := by
    rw [show lush (lN u) 8 = lN (u / 2 ^ 8) from lushN (k := 8) hu (by omega), lN_add]
  have e5 : lN (u + u / 256) + lush (lN (u + u / 256)) 16 = lN (u + u / 256 + (u + u / 256) / 65536) := by
    rw [show lush (lN (u + u / 256)) 16 = lN ((u + u / 256) / 2 ^ 16) from lushN (k := 16) (by omega) (by omega), lN_add]
  have e6 : lN (u + u / 256 + (u + u / 256) / 65536) + lush (lN (u + u / 256 + (u + u / 256) / 65536)) 32 = lN (u + u / 256 + (u + u / 256) / 65536 + (u + u / 256 + (u + u / 256) / 65536) / 4294967296) := by
    rw [show lush (lN (u + u / 256 + (u + u / 256) / 65536)) 32 = lN ((u + u / 256 + (u + u / 256) / 65536) / 2 ^ 32) from lushN (k := 32) (by omega) (by omega), lN_add]
  have es : sm 8 p = p 0 + p 1 + p 2 + p 3 + p 4 + p 5 + p 6 + p 7 := by simp [sm]
  unfold jLo_bitCount
  rw [e1, e2, e3, e4, e5, e6, lN_i, show (127 : Int32) = nI (2 ^ 7 - 1) from rfl, fa_mask, ← h7, es, ← k2]
theorem nz_sub {c k : Nat} {kk : Int32} (e : kk = -nI k) (h : k ≤ c) : nI c + kk = nI (c - k) := by
  rw [e, ← Int32.sub_eq_add_neg]
  exact pk_sub h
theorem nz_2 {m c : Nat} (h1 : 1 ≤ m) (h2 : m < 2 ^ 2) (hc : 1 ≤ c) : ∃ j, j < 2 ∧ 2 ^ j ≤ m ∧ m < 2 ^ (j + 1) ∧ jInt_numberOfLeadingZeros_73 (nI m) (nI c) = some (nI (c - j)) := by
  unfold jInt_numberOfLeadingZeros_73
  rw [show (1 : Int32) = nI 1 from rfl, ushN (by omega) (by omega), pk_sub (by omega)]
  by_cases q : m = 1
  · subst q
    exact ⟨0, by omega, by decide, by decide, rfl⟩
  · exact ⟨1, by omega, by omega, by omega, by rw [show m / 2 ^ 1 = 1 by omega]⟩
theorem nz_up {m j k : Nat} (h1 : 2 ^ j ≤ m / 2 ^ k) (h2 : m / 2 ^ k < 2 ^ (j + 1)) : 2 ^ (j + k) ≤ m ∧ m < 2 ^ (j + k + 1) := by
  have hk := Nat.two_pow_pos k
  constructor
  · rw [Nat.pow_add]
    exact (Nat.le_div_iff_mul_le hk).mp h1
  · rw [show j + k + 1 = (j + 1) + k by omega, Nat.pow_add]
    exact (Nat.div_lt_iff_lt_mul hk).mp h2
theorem nz_4 {m c : Nat} (h1 : 1 ≤ m) (h2 : m < 2 ^ 4) (hc : 3 ≤ c) : ∃ j, j < 4 ∧ 2 ^ j ≤ m ∧ m < 2 ^ (j + 1) ∧ jInt_numberOfLeadingZeros_61 (nI m) (nI c) = some (nI (c - j)) := by
  unfold jInt_numberOfLeadingZeros_61
  by_cases q : m < 4
  · rw [if_pos (show nI m < 4 from nI_lt (b := 4) q (by omega))]
    obtain ⟨j, a, b, d, e⟩ := nz_2 h1 (by omega) (c := c) (by omega)
    exact ⟨j, by omega, b, d, e⟩
  · rw [if_neg (show ¬ nI m < 4 from nI_nlt (b := 4) (by omega) (by omega)), show (2 : Int32) = nI 2 from rfl, ushN (by omega) (by omega), nz_sub (k := 2) rfl (by omega)]
    obtain ⟨j, a, b, d, e⟩ := nz_2 (m := m / 2 ^ 2) (by omega) (by omega) (c := c - 2) (by omega)
    obtain ⟨u1, u2⟩ := nz_up b d
    exact ⟨j + 2, by omega, u1, u2, by rw [e]; congr 2; omega⟩
theorem nz_8 {m c : Nat} (h1 : 1 ≤ m) (h2 : m < 2 ^ 8) (hc : 7 ≤ c) : ∃ j, j < 8 ∧ 2 ^ j ≤ m ∧ m < 2 ^ (j + 1) ∧ jInt_numberOfLeadingZeros_48 (nI m) (nI c) = some (nI (c - j)) := by
  unfold jInt_numberOfLeadingZeros_48
  by_cases q : m < 16
  · rw [if_pos (show nI m < 16 from nI_lt (b := 16) q (by omega))]
    obtain ⟨j, a, b, d, e⟩ := nz_4 h1 (by omega) (c := c) (by omega)
    exact ⟨j, by omega, b, d, e⟩
  · rw [if_neg (show ¬ nI m < 16 from nI_nlt (b := 16) (by omega) (by omega)), show (4 : Int32) = nI 4 from rfl, ushN (by omega) (by omega), nz_sub (k := 4) rfl (by omega)]
    obtain ⟨j, a, b, d, e⟩ := nz_4 (m := m / 2 ^ 4) (by omega) (by omega) (c := c - 4) (by omega)
    obtain ⟨u1, u2⟩ := nz_up b d
    exact ⟨j + 4, by omega, u1, u2, by rw [e]; congr 2; omega⟩
theorem nz_16 {m c : Nat} (h1 : 1 ≤ m) (h2 : m < 2 ^ 16) (hc : 15 ≤ c) : ∃ j, j < 16 ∧ 2 ^ j ≤ m ∧ m < 2 ^ (j + 1) ∧ jInt_numberOfLeadingZeros_33 (nI m) (nI c) = some (nI (c - j)) := by
  unfold jInt_numberOfLeadingZeros_33
  by_cases q : m < 256
  · rw [if_pos (show nI m < 256 from nI_lt (b := 256) q (by omega))]
    obtain ⟨j, a, b, d, e⟩ := nz_8 h1 (by omega) (c := c) (by omega)
    exact ⟨j, by omega, b, d, e⟩
  · rw [if_neg (show ¬ nI m < 256 from nI_nlt (b := 256) (by omega) (by omega)), show (8 : Int32) = nI 8 from rfl, ushN (by omega) (by omega), nz_sub (k := 8) rfl (by omega)]
    obtain ⟨j, a, b, d, e⟩ := nz_8 (m := m / 2 ^ 8) (by omega) (by omega) (c := c - 8) (by omega)
    obtain ⟨u1, u2⟩ := nz_up b d
    exact ⟨j + 8, by omega, u1, u2, by rw [e]; congr 2; omega⟩
theorem nI_big {m : Nat} (h1 : 2147483648 ≤ m) (h2 : m < 4294967296) : nI m < 0 := by
  rw [Int32.lt_iff_toInt_lt]
  have e : (nI m).toInt = (m : Int) - 4294967296 := by
    show (BitVec.ofNat 32 m).toInt = _
    rw [BitVec.toInt_eq_toNat_cond, BitVec.toNat_ofNat, Nat.mod_eq_of_lt (by omega), if_neg (by omega)]
    rfl
  rw [e]
  have : (0 : Int32).toInt = 0 := rfl
  omega
theorem nz_32 {m : Nat} (h1 : 1 ≤ m) (h2 : m < 2 ^ 32) : ∃ j, j < 32 ∧ 2 ^ j ≤ m ∧ m < 2 ^ (j + 1) ∧ jInt_numberOfLeadingZeros (nI m) = some (nI (31 - j)) := by
  unfold jInt_numberOfLeadingZeros
  by_cases q0 : m < 2147483648
  · rw [if_pos (show 0 < nI m from nI_lt (a := 0) h1 q0)]
    by_cases q : m < 65536
    · rw [if_pos (show nI m < 65536 from nI_lt (b := 65536) q (by omega))]
      obtain ⟨j, a, b, d, e⟩ := nz_16 h1 (by omega) (c := 31) (by omega)
      exact ⟨j, by omega, b, d, e⟩
    · rw [if_neg (show ¬ nI m < 65536 from nI_nlt (b := 65536) (by omega) (by omega)), show (16 : Int32) = nI 16 from rfl, ushN (by omega) (by omega), show (31 : Int32) = nI 31 from rfl, nz_sub (k := 16) rfl (by omega)]
      obtain ⟨j, a, b, d, e⟩ := nz_16 (m := m / 2 ^ 16) (by omega) (by omega) (c := 31 - 16) (by omega)
      obtain ⟨u1, u2⟩ := nz_up b d
      exact ⟨j + 16, by omega, u1, u2, by rw [e]; congr 2; omega⟩
  · have hneg := nI_big (by omega) (m := m) (by omega)
    rw [if_neg (fun z => Int32.lt_irrefl (Int32.lt_trans z hneg)), if_neg (fun z => by rw [z] at hneg; exact absurd hneg (by decide))]
    exact ⟨31, by omega, by omega, by omega, rfl⟩
theorem nz_64 {n : Nat} (h1 : 1 ≤ n) (hn : n < 2 ^ 64) : ∃ j, j < 64 ∧ 2 ^ j ≤ n ∧ n < 2 ^ (j + 1) ∧ jLo_numberOfLeadingZeros (lN n) = some (nI (63 - j)) := by
  unfold jLo_numberOfLeadingZeros
  have e : (lush (lN n) 32).toInt32 = nI (n / 2 ^ 32) := by
    rw [show lush (lN n) 32 = lN (n / 2 ^ 32) from lushN (k := 32) hn (by omega), lN_i]
  rw [e, lN_i]
  by_cases q : n / 2 ^ 32 = 0
  · rw [if_pos (by rw [q]; rfl)]
    obtain ⟨j, a, b, d, e⟩ := nz_32 (m := n) h1 (by omega)
    refine ⟨j, by omega, b, d, ?_⟩
    rw [e, bS, show (32 : Int32) = nI 32 from rfl, nI_add]
    congr 2
    omega
  · have hne : ¬ nI (n / 2 ^ 32) = 0 := by
      intro z
      have z1 : (nI (n / 2 ^ 32)).toBitVec.toNat = (0 : Int32).toBitVec.toNat := by rw [z]
      have z2 : (BitVec.ofNat 32 (n / 2 ^ 32)).toNat = 0 := z1
      rw [BitVec.toNat_ofNat] at z2
      omega
    rw [if_neg hne]
    obtain ⟨j, a, b, d, e⟩ := nz_32 (m := n / 2 ^ 32) (by omega) (by omega)
    obtain ⟨u1, u2⟩ := nz_up b d
    refine ⟨j + 32, by omega, u1, u2, ?_⟩
    rw [e, bS]
    congr 2
    omega
