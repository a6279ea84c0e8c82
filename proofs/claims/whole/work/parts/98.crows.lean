/-! the towers that a set can make, in their order -/
def takeS (h : House) (u R : List Nat) (m : Nat) : Bool := decide (m ∈ R) && (mayS h u m && stands h (u ++ [m]))
def rowsS (h : House) : Nat → List Nat → List Nat → List (List Nat)
  | 0, u, R => if R = [] then [u] else []
  | e + 1, u, R => if R = [] then [u] else (List.range' 0 7).flatMap (fun m => if takeS h u R m = true then rowsS h e (u ++ [m]) (offS R m) else [])
def fromS (h : House) (e : Nat) (u R : List Nat) (m : Nat) : List (List Nat) := (List.range' m (7 - m)).flatMap (fun m => if takeS h u R m = true then rowsS h e (u ++ [m]) (offS R m) else [])
theorem rowsS_s (h : House) (e : Nat) (u R : List Nat) : rowsS h (e + 1) u R = if R = [] then [u] else fromS h e u R 0 := rfl
theorem fromS_7 (h : House) (e : Nat) (u R : List Nat) : fromS h e u R 7 = [] := rfl
theorem fromS_s (h : House) (e : Nat) (u R : List Nat) {m : Nat} (hm : m < 7) : fromS h e u R m = (if takeS h u R m = true then rowsS h e (u ++ [m]) (offS R m) else []) ++ fromS h e u R (m + 1) := by
  unfold fromS
  rw [show 7 - m = (7 - (m + 1)) + 1 by omega, List.range'_succ, List.flatMap_cons]
theorem takeS_1 {h : House} {u R : List Nat} {m : Nat} : takeS h u R m = true ↔ m ∈ R ∧ mayS h u m = true ∧ stands h (u ++ [m]) = true := by
  unfold takeS
  simp only [Bool.and_eq_true, decide_eq_true_eq]
theorem takeS_Tw {h : House} {u R : List Nat} {m : Nat} (T : Tw (hn h) u) (q : takeS h u R m = true) : Tw (hn h) (u ++ [m]) := by
  obtain ⟨-, h2, -⟩ := takeS_1.mp q
  exact T.push (mayS_iff h2).1 (mayS_iff h2).2
theorem rows_mem {h : House} : ∀ (e : Nat) (u R : List Nat), Tw (hn h) u → R.Nodup → ∀ x ∈ rowsS h e u R, Tw (hn h) x ∧ ∃ w, x = u ++ w ∧ w.length = R.length
  | 0, u, R, T, hR, x, hx => by
    rw [rowsS] at hx
    by_cases q : R = []
    · rw [if_pos q] at hx
      rw [List.mem_singleton.mp hx, q]
      exact ⟨T, [], by simp, rfl⟩
    · rw [if_neg q] at hx
      cases hx
  | e + 1, u, R, T, hR, x, hx => by
    rw [rowsS] at hx
    by_cases q : R = []
    · rw [if_pos q] at hx
      rw [List.mem_singleton.mp hx, q]
      exact ⟨T, [], by simp, rfl⟩
    · rw [if_neg q] at hx
      obtain ⟨m, -, h2⟩ := List.mem_flatMap.mp hx
      by_cases z : takeS h u R m = true
      · rw [if_pos z] at h2
        obtain ⟨a, w, b, c⟩ := rows_mem e (u ++ [m]) (offS R m) (takeS_Tw T z) (hR.filter _) x h2
        refine ⟨a, m :: w, by rw [b]; simp, ?_⟩
        have e2 : offS R m = R.erase m := by
          rw [hR.erase_eq_filter]
          apply List.filter_congr
          intro y _
          by_cases z : y = m <;> simp [z]
        have hm := (takeS_1.mp z).1
        have := List.length_pos_of_mem hm
        rw [List.length_cons, c, e2, List.length_erase_of_mem hm]
        omega
      · rw [if_neg z] at h2
        cases h2
theorem from_mem {h : House} {e : Nat} {u R : List Nat} (T : Tw (hn h) u) (hR : R.Nodup) {m : Nat} {x : List Nat} (hx : x ∈ fromS h e u R m) : Tw (hn h) x := by
  obtain ⟨k, -, h2⟩ := List.mem_flatMap.mp hx
  by_cases z : takeS h u R k = true
  · rw [if_pos z] at h2
    exact (rows_mem e _ _ (takeS_Tw T z) (hR.filter _) x h2).1
  · rw [if_neg z] at h2
    cases h2
theorem sN_zero {R : List Nat} : sN R = 0 ↔ R = [] := by
  constructor
  · intro z
    cases R with
    | nil => rfl
    | cons m R =>
      have e := sN_bit (m :: R) m
      rw [z, Nat.zero_testBit, decide_eq_true List.mem_cons_self] at e
      cases e
  · intro z; rw [z]; rfl
theorem fa_andn {a b c : Nat} (hc : ∀ i, c.testBit i = (a.testBit i && !b.testBit i)) : nI a &&& (nI b ^^^ (-1)) = nI c := by
  apply Int32.toBitVec_inj.1
  show BitVec.ofNat 32 a &&& (BitVec.ofNat 32 b ^^^ (-1 : Int32).toBitVec) = BitVec.ofNat 32 c
  rw [show (-1 : Int32).toBitVec = BitVec.allOnes 32 from by decide]
  apply BitVec.eq_of_getLsbD_eq
  intro i hi
  rw [BitVec.getLsbD_and, BitVec.getLsbD_xor, BitVec.getLsbD_allOnes, BitVec.getLsbD_ofNat, BitVec.getLsbD_ofNat, BitVec.getLsbD_ofNat, hc]
  simp [hi]
theorem set_off {R : List Nat} {m : Nat} (hm : m < 31) : nI (sN R) &&& ((1 <<< (nI m &&& 31)) ^^^ (-1)) = nI (sN (offS R m)) := by
  rw [one_shl hm]
  apply fa_andn
  intro i
  rw [sN_bit, sN_bit, Nat.testBit_two_pow]
  unfold offS
  by_cases h1 : i ∈ R <;> by_cases h2 : m = i <;> simp [List.mem_filter, h1, h2]
  · intro z; exact h2 z.symm
def hdE : List (List Nat) → Int32
  | [] => -1
  | x :: _ => enc x
theorem enc_nm1 {x : List Nat} (h7 : all7 x) (hl : x.length ≤ 7) : ¬ enc x = -1 := by
  have h1 := enr_small (all7_rev.mpr h7) (by simpa using hl)
  intro z
  have z1 : (enc x).toInt = (-1 : Int32).toInt := by rw [z]
  unfold enc at z1
  rw [nI_toInt (by omega)] at z1
  have : (-1 : Int32).toInt = -1 := rfl
  omega
theorem hdE_m1 {n : Nat} (h7 : n ≤ 7) {l : List (List Nat)} (hl : ∀ x ∈ l, Tw n x) : hdE l = -1 ↔ l = [] := by
  constructor
  · intro z
    cases l with
    | nil => rfl
    | cons x l =>
      have T := hl x List.mem_cons_self
      exact absurd z (enc_nm1 (memn_7 h7 T.2) (by have := T.len; omega))
  · intro z; rw [z]; rfl
theorem hdE_app {a b : List (List Nat)} (h : a ≠ []) : hdE (a ++ b) = hdE a := by
  cases a with
  | nil => exact absurd rfl h
  | cons x a => rfl
theorem L_first {h : House} {X : St} (H : HX h X) : ∀ (e : Nat) (u R : List Nat) (D d : Nat), Tw (hn h) u → R.Nodup → all7 R → e + u.length = 8 → d ≤ u.length → e < D → jT_firstTower D X (enc u) (nI (sN R)) (nI d) = some (hdE (rowsS h e u R))
  | 0, u, R, D, d, T, _, _, hl, _, _ => by have := T.len; have := H.1; omega
  | e + 1, u, R, 0, d, _, _, _, _, _, hD => absurd hD (by omega)
  | e + 1, u, R, D + 1, d, T, hR, h7R, hl, hd, hD => by
    have h7 := H.1
    have hul := T.len
    have hs := sN_lt h7R
    rw [jT_firstTower, jT_firstTower_0, rowsS_s]
    by_cases q : R = []
    · rw [if_pos (by rw [q]; rfl), if_pos q]
      unfold jT_firstTower_10
      rw [if_pos (by rw [q]; rfl)]
      rfl
    · have hp : 0 < sN R := Nat.pos_of_ne_zero (fun z => q (sN_zero.mp z))
      rw [if_neg (nI_ne0 hp (by omega)), if_neg q, if_pos (show nI d ≤ 7 from nI_le (b := 7) (by omega) (by omega))]
      have lp : ∀ (f m : Nat), m ≤ 7 → 7 < m + f → jT_firstTower_23 X (jT_firstTower D) f (enc u) (nI (sN R)) (nI d) (nI m) = some (hdE (fromS h e u R m)) := by
        intro f
        induction f with
        | zero => intro m h1 h2; omega
        | succ f ih =>
          intro m h1 h2
          rw [jT_firstTower_23]
          by_cases q7 : m = 7
          · rw [if_pos (by rw [q7]; decide), q7, fromS_7]
            rfl
          · have ih2 := ih (m + 1) (by omega) (by omega)
            have nxt : jT_firstTower_92 X (jT_firstTower D) (jT_firstTower_23 X (jT_firstTower D) f) (enc u) (nI (sN R)) (nI d) (nI m) = some (hdE (fromS h e u R (m + 1))) := by
              unfold jT_firstTower_92
              rw [nI_1 m]
              exact ih2
            rw [if_neg (show ¬ (7 : Int32) ≤ nI m from nI_ge (b := 7) (by omega) (by omega)), bit_ush (by omega) (by omega), sN_bit, fromS_s h e u R (by omega)]
            by_cases q1 : m ∈ R
            · rw [decide_eq_true q1, if_pos rfl, if_pos rfl, L_canRise2 H T (by omega), bS]
              by_cases q2 : mayS h u m = true
              · have T2 := T.push (mayS_iff q2).1 (mayS_iff q2).2
                rw [if_neg (bI_ne q2), L_risen2 H T2, bS]
                by_cases q3 : stands h (u ++ [m]) = true
                · have hl2 : (u ++ [m]).length = u.length + 1 := by simp
                  have hz := takeS_1.mpr ⟨q1, q2, q3⟩
                  rw [if_pos q3, if_neg (enc_ne (memn_7 h7 T2.2) (by have := T2.len; omega) (by simp)), set_off (by omega), nI_1 d, if_pos hz, L_first H e (u ++ [m]) (offS R m) D (d + 1) T2 (hR.filter _) (fun x hx => h7R x (List.mem_filter.mp hx).1) (by omega) (by omega) (by omega), bS]
                  have hm1 := hdE_m1 h7 (l := rowsS h e (u ++ [m]) (offS R m)) (fun x hx => (rows_mem e _ _ T2 (hR.filter _) x hx).1)
                  by_cases q4 : rowsS h e (u ++ [m]) (offS R m) = []
                  · rw [if_pos (hm1.mpr q4), q4, List.nil_append]
                    exact nxt
                  · rw [if_neg (fun z => q4 (hm1.mp z)), hdE_app q4]
                · rw [if_neg q3, if_pos rfl, if_neg (fun z => q3 (takeS_1.mp z).2.2), List.nil_append]
                  exact nxt
              · rw [if_pos (bI_eq (Bool.eq_false_iff.mpr q2)), if_neg (fun z => q2 (takeS_1.mp z).2.1), List.nil_append]
                exact nxt
            · rw [decide_eq_false q1, if_neg (show ¬ false = true by decide), if_neg (by decide), if_neg (fun z => q1 (takeS_1.mp z).1), List.nil_append]
              exact nxt
      exact lp 10 0 (by omega) (by omega)
theorem billS_push (h : House) (u : List Nat) (m : Nat) : billS h (u ++ [m]) = spk h (billS h u) m := by
  unfold billS
  rw [List.foldl_append]
  rfl
theorem L_hear {h : House} : ∀ (e : Nat) (u R : List Nat) (D d : Nat) (X : St) (L : List Nat), HX h X → BX X L → Tw (hn h) u → R.Nodup → all7 R → e + u.length = 8 → d ≤ u.length → e < D → ∃ X2, jT_hearBills D X (enc u) (nI (sN R)) (billS h u) (nI d) = some X2 ∧ EqB X X2 ∧ BX X2 (L ++ (rowsS h e u R).map (bN h))
  | 0, u, R, D, d, X, L, H, _, T, _, _, hl, _, _ => by have := T.len; have := H.1; omega
  | e + 1, u, R, 0, d, _, _, _, _, _, _, _, _, _, hD => absurd hD (by omega)
  | e + 1, u, R, D + 1, d, X, L, H, hB, T, hR, h7R, hl, hd, hD => by
    have h7 := H.1
    have hul := T.len
    have hs := sN_lt h7R
    rw [jT_hearBills, jT_hearBills_0, rowsS_s]
    by_cases q : R = []
    · obtain ⟨b1, b2⟩ := bN_eq h u
      obtain ⟨X2, e1, s1, hb⟩ := add_eq hB b2
      rw [if_pos (by rw [q]; rfl), if_pos q, b1, e1, bS]
      exact ⟨X2, rfl, s1, hb⟩
    · have hp : 0 < sN R := Nat.pos_of_ne_zero (fun z => q (sN_zero.mp z))
      rw [if_neg (nI_ne0 hp (by omega)), if_neg q]
      have lp : ∀ (f m : Nat) (X : St) (L : List Nat), HX h X → BX X L → m ≤ 7 → 7 < m + f → ∃ X2, jT_hearBills_14 (jT_hearBills D) f X (enc u) (nI (sN R)) (billS h u) (nI d) (nI m) = some X2 ∧ EqB X X2 ∧ BX X2 (L ++ (fromS h e u R m).map (bN h)) := by
        intro f
        induction f with
        | zero => intro m X L _ _ h1 h2; omega
        | succ f ih =>
          intro m X L H hB h1 h2
          rw [jT_hearBills_14]
          by_cases q7 : m = 7
          · rw [if_pos (by rw [q7]; decide), q7, fromS_7]
            exact ⟨X, rfl, EqB.rf, by rw [List.map_nil, List.append_nil]; exact hB⟩
          · have nxt : ∀ (X : St) (L : List Nat), HX h X → BX X L → ∃ X2, jT_hearBills_96 (jT_hearBills D) (jT_hearBills_14 (jT_hearBills D) f) X (enc u) (nI (sN R)) (billS h u) (nI d) (nI m) = some X2 ∧ EqB X X2 ∧ BX X2 (L ++ (fromS h e u R (m + 1)).map (bN h)) := by
              intro X L H hB
              unfold jT_hearBills_96
              rw [nI_1 m]
              exact ih (m + 1) X L H hB (by omega) (by omega)
            rw [if_neg (show ¬ (7 : Int32) ≤ nI m from nI_ge (b := 7) (by omega) (by omega)), if_neg (show ¬ (7 : Int32) < nI d from nI_nlt (a := 7) (by omega) (by omega)), bit_ush (by omega) (by omega), sN_bit, fromS_s h e u R (by omega)]
            by_cases q1 : m ∈ R
            · rw [decide_eq_true q1, if_pos rfl, if_pos rfl, L_canRise2 H T (by omega), bS]
              by_cases q2 : mayS h u m = true
              · have hmn := (mayS_iff q2).1
                have T2 := T.push hmn (mayS_iff q2).2
                rw [if_neg (bI_ne q2), L_risen2 H T2, bS]
                by_cases q3 : stands h (u ++ [m]) = true
                · have hl2 : (u ++ [m]).length = u.length + 1 := by simp
                  have hz := takeS_1.mpr ⟨q1, q2, q3⟩
                  obtain ⟨X2, e2, s2, hb2⟩ := L_hear e (u ++ [m]) (offS R m) D (d + 1) X L H hB T2 (hR.filter _) (fun x hx => h7R x (List.mem_filter.mp hx).1) (by omega) (by omega) (by omega)
                  rw [if_pos q3, if_neg (enc_ne (memn_7 h7 T2.2) (by have := T2.len; omega) (by simp)), L_who (by omega), bS, if_pos (by omega), L_speak H hmn, bS, set_off (by omega), nI_1 d, if_pos hz, ← billS_push, e2, bS]
                  obtain ⟨X3, e3, s3, hb3⟩ := nxt X2 _ (H.scr s2.eq) hb2
                  refine ⟨X3, e3, s2.tr s3, ?_⟩
                  rw [List.map_append, ← List.append_assoc]
                  exact hb3
                · rw [if_neg q3, if_pos rfl, if_neg (fun z => q3 (takeS_1.mp z).2.2), List.nil_append]
                  exact nxt X L H hB
              · rw [if_pos (bI_eq (Bool.eq_false_iff.mpr q2)), if_neg (fun z => q2 (takeS_1.mp z).2.1), List.nil_append]
                exact nxt X L H hB
            · rw [decide_eq_false q1, if_neg (show ¬ false = true by decide), if_neg (by decide), if_neg (fun z => q1 (takeS_1.mp z).1), List.nil_append]
              exact nxt X L H hB
      exact lp 10 0 X L H hB (by omega) (by omega)
