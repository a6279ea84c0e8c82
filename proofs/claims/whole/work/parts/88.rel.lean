/-! the two states stand for one house, one tower, one page, one image -/
theorem nodup_len : ∀ (n : Nat) (t : List Nat), t.Nodup → memn n t → t.length ≤ n
  | 0, [], _, _ => Nat.le_refl _
  | 0, m :: t, _, h => absurd (h m List.mem_cons_self) (by omega)
  | n + 1, t, hd, h => by
    have h1 : (t.erase n).Nodup := hd.erase n
    have h2 : memn n (t.erase n) := by
      intro m hm
      have h3 := (hd.mem_erase_iff).mp hm
      have := h m h3.2
      have := h3.1
      omega
    have h4 := nodup_len n (t.erase n) h1 h2
    by_cases q : n ∈ t
    · rw [List.length_erase_of_mem q] at h4; omega
    · rw [List.erase_of_not_mem q] at h4; omega
def Tw (n : Nat) (t : List Nat) : Prop := t.Nodup ∧ memn n t
theorem Tw.len {n : Nat} {t : List Nat} (h : Tw n t) : t.length ≤ n := nodup_len n t h.1 h.2
def enc (t : List Nat) : Int32 := nI (enr t.reverse)
theorem Tw.push {n m : Nat} {t : List Nat} (h : Tw n t) (hm : m < n) (hno : ¬ m ∈ t) : Tw n (t ++ [m]) := by
  refine ⟨List.nodup_append.mpr ⟨h.1, by simp, ?_⟩, memn_app.mpr ⟨h.2, memn_c.mpr ⟨hm, fun _ q => by simp at q⟩⟩⟩
  intro a ha b hb
  rw [List.mem_singleton.mp hb]
  exact fun e => hno (by rw [← e]; exact ha)
def PgR (pg : List Nat) (X Y : St) : Prop := pg.length ≤ 32 ∧ sF X 17 = nI pg.length ∧ sF Y 1 = nI pg.length ∧ Arr (sA X 2) pg ∧ Arr (sA Y 1) pg ∧ ∀ c ∈ pg, 1 ≤ c ∧ c ≤ 126
def ImR (n : Nat) (X Y : St) : Prop := (sF X 147 = -1 ∧ sF Y 31 = -1) ∨ ∃ (nk : Nat) (tk : List Nat), nk ≤ n ∧ sF X 147 = nI nk ∧ sF Y 32 = nI nk ∧ Tw nk tk ∧ sF X 146 = enc tk ∧ sF Y 31 = nI tk.length ∧ Arr (sA Y 16) tk ∧ ∀ i, i < nk → sA X 10 i = sA Y 18 i ∧ sA X 11 i = sA Y 17 i ∧ ∃ k, k ≤ 99 ∧ sA X 10 i = nI k
def Fr (h : House) (X : St) : Prop := ∀ i, hn h ≤ i → i < 7 → sM X i 5 = 0 ∧ sM X i 6 = 0 ∧ sM X i 7 = 0
def RelH (h : House) (t pg : List Nat) (X Y : St) : Prop := (Ok h ∧ HX h X ∧ HY h Y ∧ Fr h X) ∧ (Tw (hn h) t ∧ sF X 6 = enc t ∧ sF Y 14 = nI t.length ∧ Arr (sA Y 6) t) ∧ PgR pg X Y ∧ (sF X 86 = sF Y 3 ∧ sF X 7 = sF Y 16) ∧ (∃ d, d ≤ 40 ∧ sF X 8 = nI d ∧ sF Y 19 = nI d) ∧ (∃ d, d ≤ 30 ∧ sF X 9 = nI d ∧ sF Y 25 = nI d) ∧ ImR (hn h) X Y
def Rel (X Y : St) : Prop := ∃ (h : House) (t pg : List Nat), RelH h t pg X Y
def EqX (X X2 : St) : Prop := (sF X2 6 = sF X 6 ∧ sF X2 7 = sF X 7 ∧ sF X2 8 = sF X 8 ∧ sF X2 9 = sF X 9 ∧ sF X2 17 = sF X 17) ∧ (sF X2 84 = sF X 84 ∧ sF X2 86 = sF X 86 ∧ sF X2 87 = sF X 87 ∧ sF X2 146 = sF X 146 ∧ sF X2 147 = sF X 147) ∧ sG X2 85 = sG X 85 ∧ (∀ i k, sM X2 i k = sM X i k) ∧ (sA X2 2 = sA X 2 ∧ sA X2 10 = sA X 10 ∧ sA X2 11 = sA X 11)
def EqY (Y Y2 : St) : Prop := (sF Y2 1 = sF Y 1 ∧ sF Y2 3 = sF Y 3 ∧ sF Y2 4 = sF Y 4 ∧ sF Y2 12 = sF Y 12 ∧ sF Y2 14 = sF Y 14) ∧ (sF Y2 16 = sF Y 16 ∧ sF Y2 19 = sF Y 19 ∧ sF Y2 25 = sF Y 25 ∧ sF Y2 31 = sF Y 31 ∧ sF Y2 32 = sF Y 32) ∧ (sA Y2 1 = sA Y 1 ∧ sA Y2 2 = sA Y 2 ∧ sA Y2 5 = sA Y 5 ∧ sA Y2 6 = sA Y 6) ∧ (sA Y2 16 = sA Y 16 ∧ sA Y2 17 = sA Y 17 ∧ sA Y2 18 = sA Y 18)
theorem EqX.rfl {X : St} : EqX X X := ⟨⟨Eq.refl _, Eq.refl _, Eq.refl _, Eq.refl _, Eq.refl _⟩, ⟨Eq.refl _, Eq.refl _, Eq.refl _, Eq.refl _, Eq.refl _⟩, Eq.refl _, fun _ _ => Eq.refl _, ⟨Eq.refl _, Eq.refl _, Eq.refl _⟩⟩
theorem EqY.rfl {Y : St} : EqY Y Y := ⟨⟨Eq.refl _, Eq.refl _, Eq.refl _, Eq.refl _, Eq.refl _⟩, ⟨Eq.refl _, Eq.refl _, Eq.refl _, Eq.refl _, Eq.refl _⟩, ⟨Eq.refl _, Eq.refl _, Eq.refl _, Eq.refl _⟩, ⟨Eq.refl _, Eq.refl _, Eq.refl _⟩⟩
theorem EqX.tr {X X2 X3 : St} (a : EqX X X2) (b : EqX X2 X3) : EqX X X3 := by
  obtain ⟨⟨a1, a2, a3, a4, a5⟩, ⟨a6, a7, a8, a9, a10⟩, a11, a12, ⟨a13, a14, a15⟩⟩ := a
  obtain ⟨⟨b1, b2, b3, b4, b5⟩, ⟨b6, b7, b8, b9, b10⟩, b11, b12, ⟨b13, b14, b15⟩⟩ := b
  exact ⟨⟨b1.trans a1, b2.trans a2, b3.trans a3, b4.trans a4, b5.trans a5⟩, ⟨b6.trans a6, b7.trans a7, b8.trans a8, b9.trans a9, b10.trans a10⟩, b11.trans a11, fun i k => (b12 i k).trans (a12 i k), ⟨b13.trans a13, b14.trans a14, b15.trans a15⟩⟩
theorem EqY.tr {X X2 X3 : St} (a : EqY X X2) (b : EqY X2 X3) : EqY X X3 := by
  obtain ⟨⟨a1, a2, a3, a4, a5⟩, ⟨a6, a7, a8, a9, a10⟩, ⟨a11, a12, a13, a14⟩, ⟨a15, a16, a17⟩⟩ := a
  obtain ⟨⟨b1, b2, b3, b4, b5⟩, ⟨b6, b7, b8, b9, b10⟩, ⟨b11, b12, b13, b14⟩, ⟨b15, b16, b17⟩⟩ := b
  exact ⟨⟨b1.trans a1, b2.trans a2, b3.trans a3, b4.trans a4, b5.trans a5⟩, ⟨b6.trans a6, b7.trans a7, b8.trans a8, b9.trans a9, b10.trans a10⟩, ⟨b11.trans a11, b12.trans a12, b13.trans a13, b14.trans a14⟩, ⟨b15.trans a15, b16.trans a16, b17.trans a17⟩⟩
theorem HX.scr {h : House} {X X2 : St} (H : HX h X) (e : EqX X X2) : HX h X2 := by
  obtain ⟨h1, h2, h3, h4, h5⟩ := H
  obtain ⟨-, ⟨a6, -, a8, -, -⟩, a11, a12, -⟩ := e
  exact ⟨h1, a6.trans h2, a8.trans h3, fun i hi k hk => (a12 i k).trans (h4 i hi k hk), fun i hi => by rw [a11]; exact h5 i hi⟩
theorem HY.scr {h : House} {Y Y2 : St} (K : HY h Y) (e : EqY Y Y2) : HY h Y2 := by
  obtain ⟨h1, h2, h3, h4, h5⟩ := K
  obtain ⟨⟨-, -, a3, a4, -⟩, -, ⟨-, b2, b5, -⟩, -⟩ := e
  exact ⟨h1, a4.trans h2, a3.trans h3, fun i hi k hk => by rw [b5]; exact h4 i hi k hk, fun i hi => by rw [b2]; exact h5 i hi⟩
theorem RelH.scr {h : House} {t pg : List Nat} {X Y X2 Y2 : St} (r : RelH h t pg X Y) (ex : EqX X X2) (ey : EqY Y Y2) : RelH h t pg X2 Y2 := by
  obtain ⟨⟨O, H, K, F⟩, ⟨T, tx, ty, ta⟩, ⟨g1, g2, g3, g4, g5, g6⟩, ⟨p1, p2⟩, ⟨d, d1, d2, d3⟩, ⟨c, c1, c2, c3⟩, I⟩ := r
  have H2 := H.scr ex
  have K2 := K.scr ey
  obtain ⟨⟨a1, a2, a3, a4, a5⟩, ⟨a6, a7, a8, a9, a10⟩, a11, a12, ⟨a13, a14, a15⟩⟩ := ex
  obtain ⟨⟨b1, b2, b3, b4, b5⟩, ⟨b6, b7, b8, b9, b10⟩, ⟨b11, b12, b13, b14⟩, ⟨b15, b16, b17⟩⟩ := ey
  refine ⟨⟨O, H2, K2, fun i h1 h2 => by rw [a12, a12, a12]; exact F i h1 h2⟩, ⟨T, a1.trans tx, b5.trans ty, by rw [b14]; exact ta⟩, ⟨g1, a5.trans g2, b1.trans g3, by rw [a13]; exact g4, by rw [b11]; exact g5, g6⟩, ⟨by rw [a7, b2]; exact p1, by rw [a2, b6]; exact p2⟩, ⟨d, d1, a3.trans d2, b7.trans d3⟩, ⟨c, c1, a4.trans c2, b8.trans c3⟩, ?_⟩
  unfold ImR
  rw [a10, b9, a9, b10, b15, a14, a15, b16, b17]
  exact I
theorem Rel0 : Rel xI yI := by
  refine ⟨(0, 3, fun _ _ => 0), [], [], ⟨fun i hi => absurd hi (by simp [hn]), ⟨by decide, rfl, rfl, fun i hi => absurd hi (by simp [hn]), ?_⟩, ⟨by decide, rfl, rfl, fun i hi => absurd hi (by simp [hn]), fun _ _ => rfl⟩, fun _ _ _ => ⟨rfl, rfl, rfl⟩⟩, ⟨⟨List.nodup_nil, fun _ h => by simp at h⟩, rfl, rfl, fun k hk => absurd hk (by simp)⟩, ⟨by simp, rfl, rfl, fun k hk => absurd hk (by simp), fun k hk => absurd hk (by simp), fun _ h => by simp at h⟩, ⟨rfl, rfl⟩, ⟨0, by omega, rfl, rfl⟩, ⟨0, by omega, rfl, rfl⟩, Or.inl ⟨rfl, rfl⟩⟩
  intro i hi
  show (lush 0 (7 * nI i)).toInt32 &&& 127 = 0
  match i, hi with
  | 0, _ => decide
  | 1, _ => decide
  | 2, _ => decide
  | 3, _ => decide
  | 4, _ => decide
  | 5, _ => decide
  | 6, _ => decide
/-! conditions of both sides in one form -/
theorem between_eq (a b c : Int32) : jT_isBetween a b c = some (bI (decide (b.toInt ≤ a.toInt ∧ a.toInt ≤ c.toInt))) := by
  unfold jT_isBetween
  by_cases h1 : a < b
  · rw [if_pos h1, decide_eq_false]; rfl
    rintro ⟨h2, -⟩
    rw [Int32.lt_iff_toInt_lt] at h1; omega
  · rw [if_neg h1]
    by_cases h2 : c < a
    · rw [if_pos h2, decide_eq_false]; rfl
      rintro ⟨-, h3⟩
      rw [Int32.lt_iff_toInt_lt] at h2; omega
    · rw [if_neg h2, decide_eq_true]; rfl
      rw [Int32.lt_iff_toInt_lt] at h1 h2
      omega
theorem has_eq {h : House} {X : St} (H : HX h X) (x : Int32) : jCh_has X x = some (bI (decide (0 ≤ x.toInt ∧ x.toInt < hn h))) := by
  unfold jCh_has
  have h7 := H.1
  have e0 : (0 : Int32).toInt = 0 := rfl
  have en : (nI (hn h)).toInt = (hn h : Int) := nI_toInt (by omega)
  rw [H.2.1]
  by_cases h1 : x < 0
  · rw [if_pos h1, decide_eq_false]; rfl
    rw [Int32.lt_iff_toInt_lt] at h1; omega
  · rw [if_neg h1]
    by_cases h2 : nI (hn h) ≤ x
    · rw [if_pos h2, decide_eq_false]; rfl
      rw [Int32.le_iff_toInt_le] at h2; omega
    · rw [if_neg h2, decide_eq_true]; rfl
      rw [Int32.le_iff_toInt_le] at h2; rw [Int32.lt_iff_toInt_lt] at h1; omega
theorem toInt_nI {x : Int32} (h0 : 0 ≤ x.toInt) : ∃ k : Nat, x = nI k ∧ (k : Int) = x.toInt ∧ k < 2147483648 := by
  have h1 : ¬ x < 0 := by
    rw [Int32.lt_iff_toInt_lt]
    have e0 : (0 : Int32).toInt = 0 := rfl
    omega
  obtain ⟨k, hk, rfl⟩ := nI_of h1
  exact ⟨k, rfl, (nI_toInt hk).symm, hk⟩
theorem mem_of {h : House} {x : Int32} (q : 0 ≤ x.toInt ∧ x.toInt < hn h) : ∃ i, i < hn h ∧ x = nI i := by
  obtain ⟨k, rfl, h1, h2⟩ := toInt_nI q.1
  exact ⟨k, by omega, rfl⟩
theorem rep_nat {h : House} {X : St} (H : HX h X) {i : Nat} (hi : i < 7) : ∃ S, S < 128 ∧ hg h i 12 = nI S := by
  rw [← H.2.2.2.2 i hi, pk_and _ 7 (by decide)]
  exact ⟨_, Nat.mod_lt _ (by decide), rfl⟩
theorem bI_ne {b : Bool} (h : b = true) : ¬ bI b = 0 := by rw [h]; decide
theorem bI_eq {b : Bool} (h : b = false) : bI b = 0 := by rw [h]; rfl
theorem bI_T {p : Prop} [Decidable p] (h : p) : ¬ bI (decide p) = 0 := bI_ne (decide_eq_true h)
theorem bI_F {p : Prop} [Decidable p] (h : ¬ p) : bI (decide p) = 0 := bI_eq (decide_eq_false h)
