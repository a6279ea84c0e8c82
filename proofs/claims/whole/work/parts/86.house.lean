/-! the house as a value: how many members, the limit, and a table (as the class' members; column 12: to whom one would reply) -/
abbrev House : Type := Nat × Int32 × (Nat → Nat → Int32)
def hn (h : House) : Nat := h.1
def hlim (h : House) : Int32 := h.2.1
def hg (h : House) (i k : Nat) : Int32 := h.2.2 i k
def bI (b : Bool) : Int32 := if b = true then 1 else 0
theorem bI_t : bI true = 1 := rfl
theorem bI_f : bI false = 0 := rfl
theorem bI_0 {b : Bool} : bI b = 0 ↔ b = false := by cases b <;> simp [bI]
theorem bI_1 {b : Bool} : bI b = 1 ↔ b = true := by cases b <;> simp [bI]
theorem bI_and (b : Bool) : bI b &&& 1 = bI b := by cases b <;> decide
def hb (h : House) (m : Nat) : Int32 := hg h m 4 + hg h m 10
def lu (h : House) (m : Nat) (a : Int32) : Int32 := if hg h m 8 = 0 then a else (a + 1) / 2
def abv (h : House) : List Nat → Int32
  | [] => 0
  | m :: u => abv h u + (hg h m 9 + 1)
def ln (h : House) : List Nat → Int32
  | [] => 0
  | m :: u => ln h u + hg h m 11
def okD (h : House) : List Nat → Bool
  | [] => true
  | m :: u => decide (lu h m (abv h u) ≤ hb h m) && okD h u
def absI (v : Int32) : Int32 := if 0 ≤ v then v else 0 - v
def lnOk (h : House) (t : List Nat) : Bool := !decide (hlim h < absI (ln h t))
def stands (h : House) (t : List Nat) : Bool := okD h t && lnOk h t
theorem okD_app (h : House) : ∀ (a b : List Nat), okD h b = false → okD h (a ++ b) = false
  | [], b, hb => hb
  | m :: a, b, hb => by
    rw [List.cons_append, okD, okD_app h a b hb, Bool.and_false]
def memn (n : Nat) (r : List Nat) : Prop := ∀ m ∈ r, m < n
theorem memn_c {n m : Nat} {r : List Nat} : memn n (m :: r) ↔ m < n ∧ memn n r := by simp [memn]
theorem memn_app {n : Nat} {a b : List Nat} : memn n (a ++ b) ↔ memn n a ∧ memn n b := by
  unfold memn
  constructor
  · intro h
    exact ⟨fun m hm => h m (List.mem_append_left _ hm), fun m hm => h m (List.mem_append_right _ hm)⟩
  · rintro ⟨h1, h2⟩ m hm
    rcases List.mem_append.mp hm with h | h
    · exact h1 m h
    · exact h2 m h
theorem memn_rev {n : Nat} {a : List Nat} : memn n a.reverse ↔ memn n a := by simp [memn]
theorem memn_7 {n : Nat} {r : List Nat} (hn : n ≤ 7) (h : memn n r) : all7 r := fun m hm => Nat.lt_of_lt_of_le (h m hm) hn
def HX (h : House) (X : St) : Prop := hn h ≤ 7 ∧ sF X 84 = nI (hn h) ∧ sF X 87 = hlim h ∧ (∀ i, i < hn h → ∀ k, k < 12 → sM X i k = hg h i k) ∧ (∀ i, i < 7 → (lush (sG X 85) (7 * nI i)).toInt32 &&& 127 = hg h i 12)
section CH
variable {h : House} {X : St}
theorem L_who {i : Nat} (hi : i < 7) : jCh_who X (nI i) = some i := by
  unfold jCh_who
  rw [if_neg (nI_pos (by omega)), if_neg (show ¬ (7 : Int32) ≤ nI i from nI_ge (b := 7) (by omega) (by omega)), if_pos (ibN hi (by omega)), if_pos (ibN hi (by omega)), clN (by omega)]
theorem L_loadUnder (H : HX h X) {i : Nat} (hi : i < hn h) (a : Int32) : jMe_loadUnder X i a = some (lu h i a) := by
  unfold jMe_loadUnder lu
  rw [H.2.2.2.1 i hi 8 (by omega)]
  split <;> rfl
theorem L_canBear (H : HX h X) {i : Nat} (hi : i < hn h) : jMe_canBear X i = some (hb h i) := by
  unfold jMe_canBear hb
  rw [H.2.2.2.1 i hi 4 (by omega), H.2.2.2.1 i hi 10 (by omega)]
theorem L_holds_80 (H : HX h X) (t : List Nat) : jCh_holds_80 X (ln h t) = some (bI (lnOk h t)) := by
  unfold jCh_holds_80 lnOk absI
  rw [H.2.2.1]
  by_cases q : hlim h < (if (0 : Int32) ≤ ln h t then ln h t else 0 - ln h t)
  · rw [if_pos q, decide_eq_true q]; rfl
  · rw [if_neg q, decide_eq_false q]; rfl
theorem L_holds_lp (H : HX h X) : ∀ (n : Nat) (r u : List Nat), memn (hn h) r → r.length + u.length ≤ 7 → r.length < n → okD h u = true → jCh_holds_10 X n (ln h u) (abv h u) (nI (enr r)) (nI u.length) = some (bI (stands h (r.reverse ++ u)))
  | 0, r, u, _, _, h2, _ => absurd h2 (by omega)
  | n + 1, [], u, hr, hl, h2, hu => by
    have e : jCh_holds_80 X (ln h u) = some (bI (stands h ([].reverse ++ u))) := by
      rw [L_holds_80 H, List.reverse_nil, List.nil_append, stands, hu, Bool.true_and]
    rw [jCh_holds_10, show nI (enr []) = 0 from rfl]
    by_cases h7 : 7 ≤ u.length
    · rw [if_pos (show (7 : Int32) ≤ nI u.length from nI_le h7 (by simp at hl; omega)), e]
    · rw [if_neg (show ¬ (7 : Int32) ≤ nI u.length from nI_ge (b := 7) (by omega) (by omega)), if_pos rfl, e]
  | n + 1, m :: r, u, hr, hl, h2, hu => by
    have hl2 : r.length + 1 + u.length ≤ 7 := by simpa using hl
    have hm := (memn_c.mp hr).1
    have h7 := memn_7 H.1 hr
    have hm7 := (all7_c.mp h7).1
    rw [jCh_holds_10, if_neg (show ¬ (7 : Int32) ≤ nI u.length from nI_ge (b := 7) (by omega) (by omega)), if_neg (enr_ne h7 (by simp; omega) (by simp)), L_top hm7, bS, L_who hm7, bS, if_pos (by omega), L_loadUnder H hm, bS, L_canBear H hm, bS]
    by_cases q : lu h m (abv h u) ≤ hb h m
    · rw [if_pos q, L_below h7 (by omega), bS, H.2.2.2.1 m hm 11 (by omega), H.2.2.2.1 m hm 9 (by omega), nI_1]
      have := L_holds_lp H n r (m :: u) (memn_c.mp hr).2 (by simp; omega) (by simp at h2; omega) (by rw [okD, decide_eq_true q, hu]; rfl)
      rw [List.length_cons] at this
      rw [show ln h u + hg h m 11 = ln h (m :: u) from rfl, show abv h u + (hg h m 9 + 1) = abv h (m :: u) from rfl, this, List.reverse_cons, List.append_assoc]
      rfl
    · rw [if_neg q]
      have e : okD h ((m :: r).reverse ++ u) = false := by
        rw [List.reverse_cons, List.append_assoc]
        exact okD_app h _ _ (by rw [List.cons_append, okD, List.nil_append, decide_eq_false q]; rfl)
      rw [stands, e]
      rfl
theorem L_holds (H : HX h X) {r : List Nat} (hr : memn (hn h) r) (hl : r.length ≤ 7) : jCh_holds X (nI (enr r)) = some (bI (stands h r.reverse)) := by
  have := L_holds_lp H 10 r [] hr (by simpa using hl) (by omega) rfl
  rw [List.append_nil] at this
  exact this
theorem L_leans_lp (H : HX h X) : ∀ (n : Nat) (r u : List Nat), memn (hn h) r → r.length + u.length ≤ 7 → r.length < n → jCh_leansTooMuch_7 X n (ln h u) (nI (enr r)) (nI u.length) = some (bI (!lnOk h (r.reverse ++ u)))
  | 0, r, u, _, _, h2 => absurd h2 (by omega)
  | n + 1, [], u, hr, hl, h2 => by
    have e : jCh_leansTooMuch_43 X (ln h u) = some (bI (!lnOk h ([].reverse ++ u))) := by
      unfold jCh_leansTooMuch_43 lnOk
      rw [H.2.2.1, List.reverse_nil, List.nil_append, Bool.not_not]
      show (if absI (ln h u) ≤ hlim h then _ else _) = _
      by_cases q : hlim h < absI (ln h u)
      · rw [if_neg (fun z => Int32.lt_irrefl (Int32.lt_of_lt_of_le q z)), decide_eq_true q]; rfl
      · rw [if_pos (Int32.not_lt.mp q), decide_eq_false q]; rfl
    rw [jCh_leansTooMuch_7, show nI (enr []) = 0 from rfl]
    by_cases h7 : 7 ≤ u.length
    · rw [if_pos (show (7 : Int32) ≤ nI u.length from nI_le h7 (by simp at hl; omega)), e]
    · rw [if_neg (show ¬ (7 : Int32) ≤ nI u.length from nI_ge (b := 7) (by omega) (by omega)), if_pos rfl, e]
  | n + 1, m :: r, u, hr, hl, h2 => by
    have hl2 : r.length + 1 + u.length ≤ 7 := by simpa using hl
    have hm := (memn_c.mp hr).1
    have h7 := memn_7 H.1 hr
    have hm7 := (all7_c.mp h7).1
    rw [jCh_leansTooMuch_7, if_neg (show ¬ (7 : Int32) ≤ nI u.length from nI_ge (b := 7) (by omega) (by omega)), if_neg (enr_ne h7 (by simp; omega) (by simp)), L_top hm7, bS, L_who hm7, bS, if_pos (by omega), L_below h7 (by omega), bS, H.2.2.2.1 m hm 11 (by omega), nI_1]
    have := L_leans_lp H n r (m :: u) (memn_c.mp hr).2 (by simp; omega) (by simp at h2; omega)
    rw [List.length_cons] at this
    rw [show ln h u + hg h m 11 = ln h (m :: u) from rfl, this, List.reverse_cons, List.append_assoc]
    rfl
theorem L_leans (H : HX h X) {r : List Nat} (hr : memn (hn h) r) (hl : r.length ≤ 7) : jCh_leansTooMuch X (nI (enr r)) = some (bI (!lnOk h r.reverse)) := by
  have := L_leans_lp H 10 r [] hr (by simpa using hl) (by omega)
  rw [List.append_nil] at this
  exact this
def nl1 (h : House) (m : Nat) (a : Int32) : Int32 := if lu h m a - hb h m ≤ 0 then 0 else (lu h m a - hb h m + 9 - 1) / 9
def nlS (h : House) : List Nat → Int32
  | [] => 0
  | m :: u => nlS h u + nl1 h m (abv h u)
theorem L_nails_lp (H : HX h X) : ∀ (n : Nat) (r u : List Nat), memn (hn h) r → r.length + u.length ≤ 7 → r.length < n → jCh_nailsFor_10 X n (nlS h u) (abv h u) (nI (enr r)) (nI u.length) = some (nlS h (r.reverse ++ u))
  | 0, r, u, _, _, h2 => absurd h2 (by omega)
  | n + 1, [], u, hr, hl, h2 => by
    rw [jCh_nailsFor_10, show nI (enr []) = 0 from rfl]
    by_cases h7 : 7 ≤ u.length
    · rw [if_pos (show (7 : Int32) ≤ nI u.length from nI_le h7 (by simp at hl; omega))]; rfl
    · rw [if_neg (show ¬ (7 : Int32) ≤ nI u.length from nI_ge (b := 7) (by omega) (by omega)), if_pos rfl]; rfl
  | n + 1, m :: r, u, hr, hl, h2 => by
    have hl2 : r.length + 1 + u.length ≤ 7 := by simpa using hl
    have hm := (memn_c.mp hr).1
    have h7 := memn_7 H.1 hr
    have hm7 := (all7_c.mp h7).1
    have key : ∀ s1 : Int32, s1 = nl1 h m (abv h u) → jCh_nailsFor_67 X (jCh_nailsFor_10 X n) (abv h u) (nI (enr (m :: r))) (nI u.length) m (nlS h u) s1 = some (nlS h ((m :: r).reverse ++ u)) := by
      intro s1 e
      unfold jCh_nailsFor_67
      rw [if_pos (by omega), L_below h7 (by omega), bS, H.2.2.2.1 m hm 9 (by omega), nI_1, e]
      have := L_nails_lp H n r (m :: u) (memn_c.mp hr).2 (by simp; omega) (by simp at h2; omega)
      rw [List.length_cons] at this
      rw [show nlS h u + nl1 h m (abv h u) = nlS h (m :: u) from rfl, show abv h u + (hg h m 9 + 1) = abv h (m :: u) from rfl, this, List.reverse_cons, List.append_assoc]
      rfl
    rw [jCh_nailsFor_10, if_neg (show ¬ (7 : Int32) ≤ nI u.length from nI_ge (b := 7) (by omega) (by omega)), if_neg (enr_ne h7 (by simp; omega) (by simp)), L_top hm7, bS, L_who hm7, bS, if_pos (by omega), L_loadUnder H hm, bS, L_canBear H hm, bS]
    by_cases q : lu h m (abv h u) - hb h m ≤ 0
    · rw [if_pos q]; exact key 0 (by rw [nl1, if_pos q])
    · rw [if_neg q]; exact key _ (by rw [nl1, if_neg q])
theorem L_nails (H : HX h X) {r : List Nat} (hr : memn (hn h) r) (hl : r.length ≤ 7) : jCh_nailsFor X (nI (enr r)) = some (nlS h r.reverse) := by
  have := L_nails_lp H 10 r [] hr (by simpa using hl) (by omega)
  rw [List.append_nil] at this
  exact this
/-- what a chair bears: found from the top -/
def ldR (h : House) (x : Nat) : List Nat → List Nat → Int32
  | [], _ => 0
  | m :: r, u => if m = x then lu h m (abv h u) else ldR h x r (m :: u)
theorem L_loadOn_lp (H : HX h X) {x : Nat} (hx : x < 7) : ∀ (n : Nat) (r u : List Nat), memn (hn h) r → r.length + u.length ≤ 7 → r.length < n → jCh_loadOn_8 X n (nI x) (abv h u) (nI (enr r)) (nI u.length) = some (ldR h x r u)
  | 0, r, u, _, _, h2 => absurd h2 (by omega)
  | n + 1, [], u, hr, hl, h2 => by
    rw [jCh_loadOn_8, show nI (enr []) = 0 from rfl]
    by_cases h7 : 7 ≤ u.length
    · rw [if_pos (show (7 : Int32) ≤ nI u.length from nI_le h7 (by simp at hl; omega))]; rfl
    · rw [if_neg (show ¬ (7 : Int32) ≤ nI u.length from nI_ge (b := 7) (by omega) (by omega)), if_pos rfl]; rfl
  | n + 1, m :: r, u, hr, hl, h2 => by
    have hl2 : r.length + 1 + u.length ≤ 7 := by simpa using hl
    have hm := (memn_c.mp hr).1
    have h7 := memn_7 H.1 hr
    have hm7 := (all7_c.mp h7).1
    rw [jCh_loadOn_8, if_neg (show ¬ (7 : Int32) ≤ nI u.length from nI_ge (b := 7) (by omega) (by omega)), if_neg (enr_ne h7 (by simp; omega) (by simp)), L_top hm7, bS, L_who hm7, bS, if_pos (by omega), bS, ldR]
    by_cases q : m = x
    · rw [if_pos (by rw [q]), if_pos q, L_loadUnder H hm, bS]
    · rw [if_neg (fun z => q (nI_inj (by omega) (by omega) z)), if_neg q, L_below h7 (by omega), bS, H.2.2.2.1 m hm 9 (by omega), nI_1]
      have := L_loadOn_lp H hx n r (m :: u) (memn_c.mp hr).2 (by simp; omega) (by simp at h2; omega)
      rw [List.length_cons] at this
      exact this
theorem L_loadOn (H : HX h X) {x : Nat} (hx : x < 7) {r : List Nat} (hr : memn (hn h) r) (hl : r.length ≤ 7) : jCh_loadOn X (nI (enr r)) (nI x) = some (ldR h x r []) := L_loadOn_lp H hx 10 r [] hr (by simpa using hl) (by omega)
theorem ldR_out (h : House) (x : Nat) : ∀ (r u : List Nat), ¬ x ∈ r → ldR h x r u = 0
  | [], _, _ => rfl
  | m :: r, u, hx => by
    rw [ldR, if_neg (fun q => hx (by rw [q]; exact List.mem_cons_self)), ldR_out h x r _ (fun q => hx (List.mem_cons_of_mem _ q))]
theorem ldR_in (h : House) (x : Nat) : ∀ (c b u : List Nat), ¬ x ∈ c → ldR h x (c ++ x :: b) u = lu h x (abv h (c.reverse ++ u))
  | [], b, u, _ => by rw [List.nil_append, ldR, if_pos rfl]; rfl
  | m :: c, b, u, hx => by
    rw [List.cons_append, ldR, if_neg (fun q => hx (by rw [q]; exact List.mem_cons_self)), ldR_in h x c b (m :: u) (fun q => hx (List.mem_cons_of_mem _ q)), List.reverse_cons, List.append_assoc]
    rfl
/-- a speech -/
def clI (x : Int32) : Int32 := if 0 ≤ x then (if x ≤ 999 then x else 999) else 0
def spk (h : House) (b : Int32) (m : Nat) : Int32 := clI (if hg h m 5 = 1 then b + hg h m 6 else if hg h m 5 = 2 then b - hg h m 6 else if hg h m 5 = 3 then b * hg h m 6 else if hg h m 5 = 4 then hg h m 6 else b)
theorem L_speak_74 (i : Nat) (x : Int32) : jMe_speak_74 X i x = some (clI x) := by
  unfold jMe_speak_74 clI
  congr 1
  have a0 : (0 : Int32).toInt = 0 := rfl
  have a9 : (999 : Int32).toInt = 999 := rfl
  simp only [Int32.lt_iff_toInt_lt, Int32.le_iff_toInt_le, a0, a9]
  repeat' split
  all_goals first
    | rfl
    | (exfalso; simp only [a0, a9] at *; omega)
    | (apply Int32.toInt_inj.mp; simp only [a0, a9] at *; omega)
theorem L_speak (H : HX h X) {i : Nat} (hi : i < hn h) (b : Int32) : jMe_speak X i b = some (spk h b i) := by
  unfold jMe_speak spk
  rw [H.2.2.2.1 i hi 5 (by omega), H.2.2.2.1 i hi 6 (by omega)]
  simp only [L_speak_74]
  split
  · rfl
  · split
    · rfl
    · split
      · rfl
      · split <;> rfl
def billS (h : House) (t : List Nat) : Int32 := t.foldl (spk h) 0
theorem L_bill_lp (H : HX h X) : ∀ (n i : Nat) (r : List Nat) (b : Int32), memn (hn h) r → r.length + i ≤ 7 → r.length < n → jCh_billOf_10 X n b (nI (enr r)) (nI i) = some (r.foldl (spk h) b)
  | 0, i, r, b, _, _, h2 => absurd h2 (by omega)
  | n + 1, i, [], b, hr, hl, h2 => by
    rw [jCh_billOf_10, show nI (enr []) = 0 from rfl]
    by_cases h7 : 7 ≤ i
    · rw [if_pos (show (7 : Int32) ≤ nI i from nI_le h7 (by simp at hl; omega))]; rfl
    · rw [if_neg (show ¬ (7 : Int32) ≤ nI i from nI_ge (b := 7) (by omega) (by omega)), if_pos rfl]; rfl
  | n + 1, i, m :: r, b, hr, hl, h2 => by
    have hl2 : r.length + 1 + i ≤ 7 := by simpa using hl
    have hm := (memn_c.mp hr).1
    have h7 := memn_7 H.1 hr
    have hm7 := (all7_c.mp h7).1
    rw [jCh_billOf_10, if_neg (show ¬ (7 : Int32) ≤ nI i from nI_ge (b := 7) (by omega) (by omega)), if_neg (enr_ne h7 (by simp; omega) (by simp)), L_top hm7, bS, L_who hm7, bS, if_pos (by omega), L_speak H hm, bS, L_below h7 (by omega), bS, nI_1, L_bill_lp H n (i + 1) r _ (memn_c.mp hr).2 (by omega) (by simp at h2; omega)]
    rfl
theorem L_bill (H : HX h X) {r : List Nat} (hr : memn (hn h) r) (hl : r.length ≤ 7) : jCh_billOf X (nI (enr r)) = some (billS h r.reverse) := by
  unfold jCh_billOf
  rw [L_turned (memn_7 H.1 hr) hl, bS]
  exact L_bill_lp H 10 0 r.reverse 0 (memn_rev.mpr hr) (by simpa using hl) (by simp; omega)
/-- who may rise -/
def repOk (h : House) (t : List Nat) (m : Nat) : Bool := decide (hg h m 12 &&& (nI (sN t) ^^^ (-1)) = 0)
def mayS (h : House) (t : List Nat) (m : Nat) : Bool := decide (m < hn h) && (!decide (m ∈ t) && repOk h t m)
theorem bit_ush {S m : Nat} (hS : S < 2147483648) (hm : m < 7) : ush (nI S) (nI m) &&& 1 = if S.testBit m = true then 1 else 0 := by
  rw [ushN hS (by omega), show (1 : Int32) = nI (2 ^ 1 - 1) from rfl, fa_mask, Nat.testBit_eq_decide_div_mod_eq]
  have : S / 2 ^ m % 2 < 2 := Nat.mod_lt _ (by decide)
  by_cases q : S / 2 ^ m % 2 = 1
  · rw [decide_eq_true q, if_pos rfl, Nat.pow_one, q]
  · rw [decide_eq_false q, if_neg (by decide), Nat.pow_one, show S / 2 ^ m % 2 = 0 by omega]; rfl
theorem L_has (H : HX h X) {m : Nat} (hm : m < 7) : jCh_has X (nI m) = some (bI (decide (m < hn h))) := by
  unfold jCh_has
  rw [if_neg (nI_pos (by omega)), H.2.1]
  have := H.1
  by_cases q : hn h ≤ m
  · rw [if_pos (nI_le q (by omega)), decide_eq_false (by omega)]; rfl
  · rw [if_neg (nI_ge (by omega) (by omega)), decide_eq_true (by omega)]; rfl
theorem L_has_out (H : HX h X) {x : Int32} (hx : x < 0 ∨ nI (hn h) ≤ x) : jCh_has X x = some 0 := by
  unfold jCh_has
  rw [H.2.1]
  by_cases q : x < 0
  · rw [if_pos q]
  · rw [if_neg q, if_pos (hx.resolve_left q)]
theorem L_canRise (H : HX h X) {r : List Nat} (hr : memn (hn h) r) (hl : r.length ≤ 7) {m : Nat} (hm : m < 7) : jCh_canRise X (nI (enr r)) (nI m) = some (bI (mayS h r.reverse m)) := by
  unfold jCh_canRise mayS
  rw [L_has H hm, bS]
  by_cases q : m < hn h
  · rw [decide_eq_true q, if_neg (by decide), L_members (memn_7 H.1 hr) hl, bS, bit_ush (Nat.lt_trans (sN_lt (all7_rev.mpr (memn_7 H.1 hr))) (by decide)) hm, sN_bit, Bool.true_and]
    by_cases z : m ∈ r.reverse
    · rw [decide_eq_true z, if_pos rfl, if_pos rfl, jCh_canRise_29, if_neg (by decide)]; rfl
    · rw [decide_eq_false z, if_neg (by decide), jCh_canRise_29, if_pos rfl, jCh_repliesOf, bS, H.2.2.2.2 m hm, repOk]
      by_cases y : hg h m 12 &&& (nI (sN r.reverse) ^^^ (-1)) = 0
      · rw [if_pos y, decide_eq_true y]; rfl
      · rw [if_neg y, decide_eq_false y]; rfl
  · rw [decide_eq_false q, if_pos (by decide)]; rfl
theorem L_risen (H : HX h X) {r : List Nat} {m : Nat} (hr : memn (hn h) (m :: r)) (hl : r.length ≤ 6) : jCh_risen X (nI (enr r)) (nI m) = some (if stands h (m :: r).reverse = true then nI (enr (m :: r)) else 0) := by
  unfold jCh_risen
  rw [L_with (memn_7 H.1 hr) hl, bS, L_holds H hr (by simp; omega), bS]
  by_cases q : stands h (m :: r).reverse = true
  · rw [if_neg (by rw [bI_0, q]; decide), if_pos q]
  · rw [if_pos (by rw [bI_0]; exact Bool.eq_false_iff.mpr q), if_neg q]
def sideS (h : House) : List Nat → Int32
  | [] => 0
  | m :: _ => if hg h m 3 = 0 then 1 else if hg h m 3 = 1 then -1 else 0
theorem L_side (H : HX h X) {r : List Nat} (hr : memn (hn h) r) (hl : r.length ≤ 7) : jCh_sideOnTop X (nI (enr r)) = some (sideS h r) := by
  unfold jCh_sideOnTop
  cases r with
  | nil => rw [show nI (enr []) = 0 from rfl, if_pos rfl]; rfl
  | cons m r =>
    have hm := (memn_c.mp hr).1
    have h7 := memn_7 H.1 hr
    have hm7 := (all7_c.mp h7).1
    rw [if_neg (enr_ne h7 hl (by simp)), L_top hm7, bS, L_who hm7, bS, if_pos (by omega), H.2.2.2.1 m hm 3 (by omega), sideS]
    split
    · rfl
    · split <;> rfl
end CH
