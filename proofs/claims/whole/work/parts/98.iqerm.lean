/-! every order is met; sorted with sorted is the best pairing -/
theorem ft_5 : ∀ n, n < 6 → n + 1 ≤ 5 → ft (n + 1) ≤ 120 := by decide +kernel
theorem nx_ok {n k : Nat} (h1 : 1 ≤ n) (h7 : n ≤ 7) (hk : k < ft n) : nxOk n k = true := by
  by_cases q : n ≤ 5
  · obtain ⟨n, rfl⟩ : ∃ m, n = m + 1 := ⟨n - 1, by omega⟩
    have := ft_5 n (by omega) q
    have e : 10 * (k / 10) + k % 10 = k := by omega
    have h := nxOk_s n (by omega) (k / 10) (by omega) (k % 10) (by omega) (by rw [e]; exact hk) q
    rw [e] at h
    exact h
  · by_cases q6 : n = 6
    · subst q6
      have f6 : ft 6 = 720 := by decide
      have e : 20 * (k / 20) + k % 20 = k := by omega
      have h := nxOk_6 (k / 20) (by omega) (k % 20) (by omega)
      rw [e] at h
      exact h
    · obtain rfl : n = 7 := by omega
      have f7 : ft 7 = 5040 := by decide
      have key : ∀ c, 420 * c ≤ k → k < 420 * c + 420 → (∀ a, a < 21 → ∀ b, b < 20 → nxOk 7 (20 * a + b + 420 * c) = true) → nxOk 7 k = true := by
        intro c h2 h3 h
        have e : 20 * ((k - 420 * c) / 20) + (k - 420 * c) % 20 + 420 * c = k := by omega
        have h4 := h ((k - 420 * c) / 20) (by omega) ((k - 420 * c) % 20) (by omega)
        rw [e] at h4
        exact h4
      rcases (show k / 420 = 0 ∨ k / 420 = 1 ∨ k / 420 = 2 ∨ k / 420 = 3 ∨ k / 420 = 4 ∨ k / 420 = 5 ∨ k / 420 = 6 ∨ k / 420 = 7 ∨ k / 420 = 8 ∨ k / 420 = 9 ∨ k / 420 = 10 ∨ k / 420 = 11 by omega) with z | z | z | z | z | z | z | z | z | z | z | z
      · exact key 0 (by omega) (by omega) nxOk_7_0
      · exact key 1 (by omega) (by omega) nxOk_7_1
      · exact key 2 (by omega) (by omega) nxOk_7_2
      · exact key 3 (by omega) (by omega) nxOk_7_3
      · exact key 4 (by omega) (by omega) nxOk_7_4
      · exact key 5 (by omega) (by omega) nxOk_7_5
      · exact key 6 (by omega) (by omega) nxOk_7_6
      · exact key 7 (by omega) (by omega) nxOk_7_7
      · exact key 8 (by omega) (by omega) nxOk_7_8
      · exact key 9 (by omega) (by omega) nxOk_7_9
      · exact key 10 (by omega) (by omega) nxOk_7_10
      · exact key 11 (by omega) (by omega) nxOk_7_11
theorem ft_pos : ∀ n, 0 < ft n
  | 0 => by decide
  | n + 1 => Nat.mul_pos (by omega) (ft_pos n)
theorem pm_perm : ∀ (n : Nat) (s : List Nat) (k : Nat), s.length = n → k < ft n → (pm n s k).Perm s
  | 0, s, k, hs, _ => by
    rw [List.length_eq_zero_iff.mp hs]
    exact List.Perm.refl _
  | n + 1, s, k, hs, hk => by
    have hi : k / ft n < s.length := by
      rw [hs]
      exact Nat.div_lt_of_lt_mul (by rw [Nat.mul_comm]; exact hk)
    rw [pm, getD_get hi]
    have hm := List.getElem_mem hi
    refine List.Perm.trans (List.Perm.cons _ (pm_perm n _ _ ?_ (Nat.mod_lt _ (ft_pos n)))) (List.perm_cons_erase hm).symm
    rw [List.length_erase_of_mem hm, hs]
    rfl
theorem pm_surj : ∀ (n : Nat) (s g : List Nat), s.length = n → g.Perm s → ∃ k, k < ft n ∧ pm n s k = g
  | 0, s, g, hs, hp => by
    have := hp.length_eq
    exact ⟨0, by decide, (List.length_eq_zero_iff.mp (by omega)).symm⟩
  | n + 1, s, [], hs, hp => by
    have := hp.length_eq
    simp at this
    omega
  | n + 1, s, a :: g, hs, hp => by
    have hm : a ∈ s := hp.subset List.mem_cons_self
    have hi := List.idxOf_lt_length_of_mem hm
    have e1 : s.getD (s.idxOf a) 0 = a := by rw [getD_get hi]; exact List.getElem_idxOf hi
    obtain ⟨k, k1, k2⟩ := pm_surj n (s.erase a) g (by rw [List.length_erase_of_mem hm, hs]; rfl) ((List.perm_cons a).mp (hp.trans (List.perm_cons_erase hm)))
    have fp := ft_pos n
    refine ⟨k + s.idxOf a * ft n, ?_, ?_⟩
    · show _ < (n + 1) * ft n
      have : (s.idxOf a + 1) * ft n ≤ (n + 1) * ft n := Nat.mul_le_mul_right _ (by omega)
      rw [Nat.add_mul] at this
      omega
    · rw [pm, Nat.add_mul_div_right _ _ fp, Nat.add_mul_mod_self_right, Nat.div_eq_of_lt k1, Nat.mod_eq_of_lt k1, Nat.zero_add, e1, k2]
def Rl (c : Int) : List Int → List Int → Prop
  | [], [] => True
  | b :: B, a :: A => b + c ≤ a ∧ Rl c B A
  | _, _ => False
theorem Rl_of {c : Int} : ∀ {B A : List Int}, B.length = A.length → (∀ (i : Nat) (h1 : i < B.length) (h2 : i < A.length), B[i] + c ≤ A[i]) → Rl c B A
  | [], [], _, _ => trivial
  | [], _ :: _, h, _ => by simp at h
  | _ :: _, [], h, _ => by simp at h
  | b :: B, a :: A, h, q => ⟨q 0 (by simp) (by simp), Rl_of (by simpa using h) (fun i h1 h2 => q (i + 1) (by simpa using h1) (by simpa using h2))⟩
theorem Rl_at {c : Int} : ∀ {B A : List Int}, Rl c B A → ∀ (i : Nat) (h1 : i < B.length) (h2 : i < A.length), B[i] + c ≤ A[i]
  | [], _, _, i, h1, _ => absurd h1 (by simp)
  | _ :: _, [], h, _, _, _ => h.elim
  | b :: B, a :: A, h, 0, _, _ => h.1
  | b :: B, a :: A, h, i + 1, h1, h2 => Rl_at h.2 i (by simpa using h1) (by simpa using h2)
theorem Rl_perm {c : Int} {B B2 : List Int} (p : B.Perm B2) : ∀ A, Rl c B A → ∃ A2, A2.Perm A ∧ Rl c B2 A2 := by
  induction p with
  | nil => intro A h; exact ⟨A, List.Perm.refl _, h⟩
  | cons x p ih =>
    intro A h
    cases A with
    | nil => exact h.elim
    | cons a A =>
      obtain ⟨A2, h1, h2⟩ := ih A h.2
      exact ⟨a :: A2, h1.cons a, h.1, h2⟩
  | swap x y l =>
    intro A h
    match A, h with
    | a :: b :: A, h => exact ⟨b :: a :: A, List.Perm.swap _ _ _, h.2.1, h.1, h.2.2⟩
    | [_], h => exact h.2.elim
    | [], h => exact h.elim
  | trans p q ih1 ih2 =>
    intro A h
    obtain ⟨A2, h1, h2⟩ := ih1 A h
    obtain ⟨A3, h3, h4⟩ := ih2 A2 h2
    exact ⟨A3, h3.trans h1, h4⟩
theorem map_perm {f : Nat → Int} {A B : List Int} (p : A.Perm B) : ∀ l : List Nat, B = l.map f → ∃ g : List Nat, g.Perm l ∧ A = g.map f := by
  induction p with
  | nil => intro l h; exact ⟨l, List.Perm.refl _, h⟩
  | cons x p ih =>
    intro l h
    cases l with
    | nil => simp at h
    | cons a l =>
      rw [List.map_cons] at h
      injection h with h1 h2
      obtain ⟨g, g1, g2⟩ := ih l h2
      exact ⟨a :: g, g1.cons a, by rw [List.map_cons, ← g2, h1]⟩
  | swap x y l =>
    intro m h
    match m, h with
    | a :: b :: m, h =>
      rw [List.map_cons, List.map_cons] at h
      injection h with h1 h2
      injection h2 with h2 h3
      exact ⟨b :: a :: m, List.Perm.swap _ _ _, by rw [List.map_cons, List.map_cons, ← h1, ← h2, ← h3]⟩
    | [_], h => simp at h
    | [], h => simp at h
  | trans p q ih1 ih2 =>
    intro l h
    obtain ⟨g, g1, g2⟩ := ih2 l h
    obtain ⟨g3, g4, g5⟩ := ih1 g g2
    exact ⟨g3, g4.trans g1, g5⟩
theorem cntI_ge : ∀ (A : List Int), A.Pairwise (· ≤ ·) → ∀ (i : Nat) (h : i < A.length) (x : Int), A[i] < x → i + 1 ≤ A.countP (fun y => decide (y < x))
  | [], _, i, h, _, _ => absurd h (by simp)
  | a :: A, hp, 0, _, x, hx => by
    have : a < x := hx
    rw [List.countP_cons_of_pos (by simpa using this)]
    omega
  | a :: A, hp, i + 1, h, x, hx => by
    obtain ⟨p1, p2⟩ := List.pairwise_cons.mp hp
    have hi : i < A.length := by simpa using h
    have h1 : A[i] < x := hx
    have h2 := p1 _ (List.getElem_mem hi)
    have := cntI_ge A p2 i hi x h1
    rw [List.countP_cons_of_pos (by simp; omega)]
    omega
theorem cntI_le : ∀ (B : List Int), B.Pairwise (· ≤ ·) → ∀ (i : Nat) (h : i < B.length) (x : Int), x ≤ B[i] → B.countP (fun y => decide (y < x)) ≤ i
  | [], _, i, h, _, _ => absurd h (by simp)
  | b :: B, hp, 0, _, x, hx => by
    obtain ⟨p1, p2⟩ := List.pairwise_cons.mp hp
    have hb : x ≤ b := hx
    refine Nat.le_of_eq (List.countP_eq_zero.mpr ?_)
    intro y hy
    rw [decide_eq_true_eq]
    rcases List.mem_cons.mp hy with z | z
    · omega
    · have := p1 y z; omega
  | b :: B, hp, i + 1, h, x, hx => by
    obtain ⟨p1, p2⟩ := List.pairwise_cons.mp hp
    have := cntI_le B p2 i (by simpa using h) x hx
    rw [List.countP_cons]
    split <;> omega
theorem Rl_cnt {c x : Int} : ∀ {B A : List Int}, Rl c B A → A.countP (fun y => decide (y < x + c)) ≤ B.countP (fun y => decide (y < x))
  | [], [], _ => Nat.le_refl _
  | [], _ :: _, h => h.elim
  | _ :: _, [], h => h.elim
  | b :: B, a :: A, h => by
    have := Rl_cnt (x := x) h.2
    have h1 := h.1
    rw [List.countP_cons, List.countP_cons]
    by_cases q : a < x + c
    · rw [if_pos (decide_eq_true q), if_pos (decide_eq_true (show b < x by omega))]
      omega
    · rw [if_neg (by rw [decide_eq_false q]; decide)]
      omega
theorem Rl_sort {c : Int} {B A sB sA : List Int} (h : Rl c B A) (pB : B.Perm sB) (pA : A.Perm sA) (oB : sB.Pairwise (· ≤ ·)) (oA : sA.Pairwise (· ≤ ·)) (i : Nat) (h1 : i < sB.length) (h2 : i < sA.length) : sB[i] + c ≤ sA[i] := by
  apply Int.not_lt.mp
  intro q
  have e1 := cntI_ge sA oA i h2 (sB[i] + c) q
  have e2 := cntI_le sB oB i h1 sB[i] (Int.le_refl _)
  have e3 := Rl_cnt (x := sB[i]) h
  rw [pA.countP_eq] at e3
  rw [pB.countP_eq] at e3
  omega
def insR (v : Int32) : List Int32 → List Int32
  | [] => [v]
  | x :: r => if x ≤ v then v :: x :: r else x :: insR v r
theorem insR_perm (v : Int32) : ∀ r, (insR v r).Perm (v :: r)
  | [] => List.Perm.refl _
  | x :: r => by
    rw [insR]
    split
    · exact List.Perm.refl _
    · exact ((insR_perm v r).cons x).trans (List.Perm.swap _ _ _)
theorem insR_sort (v : Int32) : ∀ r : List Int32, r.Pairwise (fun a b => b.toInt ≤ a.toInt) → (insR v r).Pairwise (fun a b => b.toInt ≤ a.toInt)
  | [], _ => List.pairwise_singleton _ _
  | x :: r, h => by
    obtain ⟨h1, h2⟩ := List.pairwise_cons.mp h
    rw [insR]
    by_cases q : x ≤ v
    · rw [if_pos q]
      rw [Int32.le_iff_toInt_le] at q
      refine List.pairwise_cons.mpr ⟨fun y hy => ?_, h⟩
      rcases List.mem_cons.mp hy with z | z
      · rw [z]; exact q
      · exact Int.le_trans (h1 y z) q
    · rw [if_neg q]
      rw [Int32.le_iff_toInt_le] at q
      refine List.pairwise_cons.mpr ⟨fun y hy => ?_, insR_sort v r h2⟩
      rcases List.mem_cons.mp ((insR_perm v r).subset hy) with z | z
      · rw [z]; omega
      · exact h1 y z
def srt (l : List Int32) : List Int32 := l.foldl (fun r v => insR v r) []
theorem srt_go : ∀ (l r : List Int32), r.Pairwise (fun a b => b.toInt ≤ a.toInt) → (l.foldl (fun r v => insR v r) r).Pairwise (fun a b => b.toInt ≤ a.toInt) ∧ (l.foldl (fun r v => insR v r) r).Perm (l ++ r)
  | [], r, h => ⟨h, List.Perm.refl _⟩
  | v :: l, r, h => by
    obtain ⟨h1, h2⟩ := srt_go l (insR v r) (insR_sort v r h)
    refine ⟨h1, h2.trans ?_⟩
    exact (List.Perm.append_left l (insR_perm v r)).trans List.perm_middle
theorem srt_perm (l : List Int32) : (srt l).Perm l := by
  have := (srt_go l [] List.Pairwise.nil).2
  rw [List.append_nil] at this
  exact this
theorem srt_len (l : List Int32) : (srt l).length = l.length := (srt_perm l).length_eq
theorem srt_snoc (l : List Int32) (v : Int32) : srt (l ++ [v]) = insR v (srt l) := by
  unfold srt
  rw [List.foldl_append]
  rfl
theorem srt_up (l : List Int32) : ((srt l).reverse.map Int32.toInt).Pairwise (· ≤ ·) := by
  rw [List.pairwise_map]
  exact List.pairwise_reverse.mpr (srt_go l [] List.Pairwise.nil).1
theorem srt_upP (l : List Int32) : ((srt l).reverse.map Int32.toInt).Perm (l.map Int32.toInt) := ((List.reverse_perm _).trans (srt_perm l)).map _
