/-! the night's best end, as a value; the class' search -/
def Vn (v : Int32) : Prop := v = -1 ∨ v = 0 ∨ v = 1
def mx (a b : Int32) : Int32 := if a < b then b else a
def sgS (s : Nat) (v : Int32) : Int32 := if s = 0 then v else -v
theorem Vn_sg (s : Nat) {v : Int32} (h : Vn v) : Vn (sgS s v) := by
  unfold sgS
  split
  · exact h
  · rcases h with rfl | rfl | rfl
    · exact Or.inr (Or.inr rfl)
    · exact Or.inr (Or.inl rfl)
    · exact Or.inl rfl
theorem Vn_mx {a b : Int32} (ha : Vn a) (hb : Vn b) : Vn (mx a b) := by
  unfold mx
  split
  · exact hb
  · exact ha
theorem mx_1 {v : Int32} (h : Vn v) : mx 1 v = 1 := by
  rcases h with rfl | rfl | rfl <;> decide
theorem mx_m2 {v : Int32} (h : Vn v) : mx (-2) v = v := by
  rcases h with rfl | rfl | rfl <;> decide
def riseS (h : House) (u : List Nat) (m : Nat) : List Nat := if stands h (u ++ [m]) = true then u ++ [m] else []
def canS (h : House) (s : Nat) (u : List Nat) (m : Nat) : Bool := decide (hg h m 3 = nI s) && mayS h u m
theorem canS_1 {h : House} {s : Nat} {u : List Nat} {m : Nat} : canS h s u m = true ↔ hg h m 3 = nI s ∧ mayS h u m = true := by
  unfold canS
  simp only [Bool.and_eq_true, decide_eq_true_eq]
theorem riseS_Tw {h : House} {u : List Nat} {m : Nat} (T : Tw (hn h) (u ++ [m])) : Tw (hn h) (riseS h u m) := by
  unfold riseS
  split
  · exact T
  · exact Tw_nil
def fld (f : Nat → Int32) (p : Nat → Bool) : List Nat → Int32 → Int32
  | [], b => b
  | m :: l, b => fld f p l (if p m = true then mx b (f m) else b)
def endS (h : House) : Nat → List Nat → Nat → Int32
  | 0, u, _ => sideS h u.reverse
  | k + 1, u, s => sgS s (fld (fun m => sgS s (endS h k (riseS h u m) (1 - s))) (canS h s u) (List.range' 0 (hn h)) (sgS s (endS h k u (1 - s))))
theorem Vn_side (h : House) (r : List Nat) : Vn (sideS h r) := by
  cases r with
  | nil => exact Or.inr (Or.inl rfl)
  | cons m r =>
    rw [sideS]
    split
    · exact Or.inr (Or.inr rfl)
    · split
      · exact Or.inl rfl
      · exact Or.inr (Or.inl rfl)
theorem Vn_fld {f : Nat → Int32} {p : Nat → Bool} (hf : ∀ m, Vn (f m)) : ∀ (l : List Nat) (b : Int32), Vn b → Vn (fld f p l b)
  | [], b, hb => hb
  | m :: l, b, hb => by
    refine Vn_fld hf l _ ?_
    split
    · exact Vn_mx hb (hf m)
    · exact hb
theorem fld_1 {f : Nat → Int32} {p : Nat → Bool} (hf : ∀ m, Vn (f m)) : ∀ (l : List Nat), fld f p l 1 = 1
  | [] => rfl
  | m :: l => by
    rw [fld]
    split
    · rw [mx_1 (hf m)]; exact fld_1 hf l
    · exact fld_1 hf l
theorem Vn_end (h : House) : ∀ (k : Nat) (u : List Nat) (s : Nat), Vn (endS h k u s)
  | 0, u, s => Vn_side h _
  | k + 1, u, s => Vn_sg s (Vn_fld (fun m => Vn_sg s (Vn_end h k _ _)) _ _ (Vn_sg s (Vn_end h k _ _)))
theorem sg_mul {s : Nat} (hs : s ≤ 1) {v : Int32} (h : Vn v) : (if nI s = 0 then (1 : Int32) else -1) * v = sgS s v := by
  unfold sgS
  rcases (show s = 0 ∨ s = 1 by omega) with rfl | rfl <;> rcases h with rfl | rfl | rfl <;> decide
theorem L_side2 {h : House} {X : St} (H : HX h X) {t : List Nat} (T : Tw (hn h) t) : jCh_sideOnTop X (enc t) = some (sideS h t.reverse) := by
  have h7 := H.1
  have := T.len
  exact L_side H (tw_r T) (by simp; omega)
theorem L_end {h : House} {X : St} (H : HX h X) : ∀ (k D : Nat) (u : List Nat) (s : Nat), k ≤ 5 → k < D → s ≤ 1 → Tw (hn h) u → jT_bestEnd D X (enc u) (nI k) (nI s) = some (endS h k u s)
  | k, 0, u, s, _, hD, _, _ => absurd hD (by omega)
  | 0, D + 1, u, s, _, _, hs, T => by
    rw [jT_bestEnd, jT_bestEnd_0, if_pos (by decide), jT_bestEnd_9, L_side2 H T]
    rfl
  | k + 1, D + 1, u, s, hk, hD, hs, T => by
    have h7 := H.1
    have e1 : (1 : Int32) - nI s = nI (1 - s) := pk_sub (a := 1) (by omega)
    rw [jT_bestEnd, jT_bestEnd_0, if_neg (show ¬ nI (k + 1) ≤ 0 from nI_nle (by omega) (by omega)), if_pos (show nI (k + 1) ≤ 5 from nI_le (b := 5) hk (by omega))]
    have lp : ∀ (f m : Nat) (b : Int32), m ≤ hn h → hn h < m + f → Vn b → jT_bestEnd_45 X (jT_bestEnd D) f (enc u) (nI (k + 1)) (nI s) (if nI s = 0 then (1 : Int32) else -1) b (nI m) = some (sgS s (fld (fun m => sgS s (endS h k (riseS h u m) (1 - s))) (canS h s u) (List.range' m (hn h - m)) b)) := by
      intro f
      induction f with
      | zero => intro m b h1 h2 _; omega
      | succ f ih =>
        intro m b h1 h2 hb
        have hV : ∀ m, Vn ((fun m => sgS s (endS h k (riseS h u m) (1 - s))) m) := fun m => Vn_sg s (Vn_end h k _ _)
        rw [jT_bestEnd_45, jCh_size, bS, H.2.1]
        unfold jT_bestEnd_120
        by_cases q : m = hn h
        · rw [if_pos (nI_le (by omega) (by omega)), sg_mul hs hb, q, Nat.sub_self]
          rfl
        · have hm : m < hn h := by omega
          rw [if_neg (nI_ge (by omega) (by omega))]
          by_cases q1 : b = 1
          · rw [if_pos (show (1 : Int32) ≤ b by rw [q1]; decide), q1, sg_mul hs (Or.inr (Or.inr rfl)), fld_1 hV]
          · rw [if_neg (show ¬ (1 : Int32) ≤ b by
              rcases hb with rfl | rfl | rfl
              · decide
              · decide
              · exact absurd rfl q1), L_who (by omega), bS, if_pos (by omega), H.2.2.2.1 m hm 3 (by omega), show hn h - m = (hn h - (m + 1)) + 1 by omega, List.range'_succ, fld]
            have nxt : ∀ b, Vn b → jT_bestEnd_114 X (jT_bestEnd D) (jT_bestEnd_45 X (jT_bestEnd D) f) (enc u) (nI (k + 1)) (nI s) (if nI s = 0 then (1 : Int32) else -1) b (nI m) = some (sgS s (fld (fun m => sgS s (endS h k (riseS h u m) (1 - s))) (canS h s u) (List.range' (m + 1) (hn h - (m + 1))) b)) := by
              intro b hb
              unfold jT_bestEnd_114
              rw [nI_1 m]
              exact ih (m + 1) b (by omega) (by omega) hb
            by_cases q2 : hg h m 3 = nI s
            · rw [if_pos q2, L_canRise2 H T (by omega), bS]
              by_cases q3 : mayS h u m = true
              · have T2 := T.push hm (mayS_iff q3).2
                have er : (if stands h (u ++ [m]) = true then enc (u ++ [m]) else 0) = enc (riseS h u m) := by
                  unfold riseS
                  split <;> rfl
                rw [if_neg (bI_ne q3), L_risen2 H T2, bS, er, nI_pred, e1, L_end H k D (riseS h u m) (1 - s) (by omega) (by omega) (by omega) (riseS_Tw T2), bS, sg_mul hs (Vn_end h k _ _), if_pos (canS_1.mpr ⟨q2, q3⟩)]
                exact nxt _ (Vn_mx hb (hV m))
              · rw [if_pos (bI_eq (Bool.eq_false_iff.mpr q3)), if_neg (fun z => q3 (canS_1.mp z).2)]
                exact nxt b hb
            · rw [if_neg q2, if_neg (fun z => q2 (canS_1.mp z).1)]
              exact nxt b hb
    have key : jT_bestEnd_24 X (jT_bestEnd D) (enc u) (nI (k + 1)) (nI s) (if nI s = 0 then (1 : Int32) else -1) = some (endS h (k + 1) u s) := by
      unfold jT_bestEnd_24
      rw [nI_pred, e1, L_end H k D u (1 - s) (by omega) (by omega) (by omega) T, bS, sg_mul hs (Vn_end h k _ _)]
      exact lp 10 0 _ (by omega) (by omega) (Vn_sg s (Vn_end h k _ _))
    rw [← key]
    split <;> rfl
