section SNlaw
variable {p : Program} {l : Launch} {e : Env} {R : Room} {s : State} {m : MethodId} {args : Array Value} {below : List Frame} {meth : Method} {c : Code} {D : va_G} {cy : Nat → ClassId} {cc : ByteArray} {nL : Nat} {own : String} {ret : Option FieldType} {A : Nat → Prop} {Q : State → Prop} {cs ss : Nat} {ws : va_W} {ll : List (Nat × Value)} {pc : Nat} {st : List Value}
theorem sn_iadd (C : Cn p s m args meth c D cy cc nL own ret A) {x y : Int32} (hdg : decode cc pc = .ok (.iadd, 1)) (kk : SN p l e R s m args below meth c D nL A Q cs ss ws ll (pc + 1) (.int (x + y) :: st)) : SN p l e R s m args below meth c D nL A Q cs ss ws ll pc (.int y :: .int x :: st) := fun H locs ls hP hD hS hl => lv_iadd C.1 C.2.1 hdg (kk H locs ls hP hD hS hl)
theorem sn_isub (C : Cn p s m args meth c D cy cc nL own ret A) {x y : Int32} (hdg : decode cc pc = .ok (.isub, 1)) (kk : SN p l e R s m args below meth c D nL A Q cs ss ws ll (pc + 1) (.int (x - y) :: st)) : SN p l e R s m args below meth c D nL A Q cs ss ws ll pc (.int y :: .int x :: st) := fun H locs ls hP hD hS hl => lv_isub C.1 C.2.1 hdg (kk H locs ls hP hD hS hl)
theorem sn_iand (C : Cn p s m args meth c D cy cc nL own ret A) {x y : Int32} (hdg : decode cc pc = .ok (.iand, 1)) (kk : SN p l e R s m args below meth c D nL A Q cs ss ws ll (pc + 1) (.int (x &&& y) :: st)) : SN p l e R s m args below meth c D nL A Q cs ss ws ll pc (.int y :: .int x :: st) := fun H locs ls hP hD hS hl => lv_iand C.1 C.2.1 hdg (kk H locs ls hP hD hS hl)
theorem sn_land (C : Cn p s m args meth c D cy cc nL own ret A) {x y : Int64} (hdg : decode cc pc = .ok (.land, 1)) (kk : SN p l e R s m args below meth c D nL A Q cs ss ws ll (pc + 1) (.long (x &&& y) :: st)) : SN p l e R s m args below meth c D nL A Q cs ss ws ll pc (.long y :: .long x :: st) := fun H locs ls hP hD hS hl => lv_land C.1 C.2.1 hdg (kk H locs ls hP hD hS hl)
theorem sn_lor (C : Cn p s m args meth c D cy cc nL own ret A) {x y : Int64} (hdg : decode cc pc = .ok (.lor, 1)) (kk : SN p l e R s m args below meth c D nL A Q cs ss ws ll (pc + 1) (.long (x ||| y) :: st)) : SN p l e R s m args below meth c D nL A Q cs ss ws ll pc (.long y :: .long x :: st) := fun H locs ls hP hD hS hl => lv_lor C.1 C.2.1 hdg (kk H locs ls hP hD hS hl)
theorem sn_i2l (C : Cn p s m args meth c D cy cc nL own ret A) {x : Int32} (hdg : decode cc pc = .ok (.i2l, 1)) (kk : SN p l e R s m args below meth c D nL A Q cs ss ws ll (pc + 1) (.long x.toInt64 :: st)) : SN p l e R s m args below meth c D nL A Q cs ss ws ll pc (.int x :: st) := fun H locs ls hP hD hS hl => lv_i2l C.1 C.2.1 hdg rfl (kk H locs ls hP hD hS hl)
theorem sn_lshl (C : Cn p s m args meth c D cy cc nL own ret A) {x : Int64} {y : Int32} (hdg : decode cc pc = .ok (.lshl, 1)) (kk : SN p l e R s m args below meth c D nL A Q cs ss ws ll (pc + 1) (.long (lsh x y) :: st)) : SN p l e R s m args below meth c D nL A Q cs ss ws ll pc (.int y :: .long x :: st) := fun H locs ls hP hD hS hl => lv_lshl C.1 C.2.1 hdg rfl (kk H locs ls hP hD hS hl)
theorem sn_lcmp (C : Cn p s m args meth c D cy cc nL own ret A) {x y : Int64} (hdg : decode cc pc = .ok (.lcmp, 1)) (kk : SN p l e R s m args below meth c D nL A Q cs ss ws ll (pc + 1) (.int (lg_cmp x y) :: st)) : SN p l e R s m args below meth c D nL A Q cs ss ws ll pc (.long y :: .long x :: st) := fun H locs ls hP hD hS hl => W.lcmp C.1 C.2.1 hdg (kk H locs ls hP hD hS hl)
theorem sn_ldc2 (C : Cn p s m args meth c D cy cc nL own ret A) {index : Nat} {v : Int64} (hw : Jvm.Cond.constantLong own index v ∈ wsL_law) (hdg : decode cc pc = .ok (.ldc2_w index, 3)) (kk : SN p l e R s m args below meth c D nL A Q cs ss ws ll (pc + 3) (.long v :: st)) : SN p l e R s m args below meth c D nL A Q cs ss ws ll pc st := fun H locs ls hP hD hS hl => lv_ldc2 C.1 C.2.1 C.2.2.2.1 (C.2.2.2.2.1 _ hw) hdg (kk H locs ls hP hD hS hl)
theorem sn_icmp_eqT (C : Cn p s m args meth c D cy cc nL own ret A) {x y : Int32} {off : Int} {tgt : Nat} (hdg : decode cc pc = .ok (.if_icmp .eq off, 3)) (ht : (pc : Int) + off = (tgt : Int)) (h : x = y) (kk : SN p l e R s m args below meth c D nL A Q cs ss ws ll tgt st) : SN p l e R s m args below meth c D nL A Q cs ss ws ll pc (.int y :: .int x :: st) := fun H locs ls hP hD hS hl => lv_icmp_eq C.1 C.2.1 hdg ht (fun _ => (kk H locs ls hP hD hS hl)) (fun q => absurd h q)
theorem sn_if_eqT (C : Cn p s m args meth c D cy cc nL own ret A) {x : Int32} {off : Int} {tgt : Nat} (hdg : decode cc pc = .ok (.ifCond .eq off, 3)) (ht : (pc : Int) + off = (tgt : Int)) (h : x = 0) (kk : SN p l e R s m args below meth c D nL A Q cs ss ws ll tgt st) : SN p l e R s m args below meth c D nL A Q cs ss ws ll pc (.int x :: st) := fun H locs ls hP hD hS hl => lv_if_eq C.1 C.2.1 hdg ht (fun _ => (kk H locs ls hP hD hS hl)) (fun q => absurd h q)
theorem sn_icmp_gt (C : Cn p s m args meth c D cy cc nL own ret A) {x y : Int32} {off : Int} {tgt : Nat} (hdg : decode cc pc = .ok (.if_icmp .gt off, 3)) (ht : (pc : Int) + off = (tgt : Int)) (kt : y < x → SN p l e R s m args below meth c D nL A Q cs ss ws ll tgt st) (kf : ¬ y < x → SN p l e R s m args below meth c D nL A Q cs ss ws ll (pc + 3) st) : SN p l e R s m args below meth c D nL A Q cs ss ws ll pc (.int y :: .int x :: st) := fun H locs ls hP hD hS hl => lv_icmp_gt C.1 C.2.1 hdg ht (fun q => kt q H locs ls hP hD hS hl) (fun q => kf q H locs ls hP hD hS hl)
theorem sn_tblIn (C : Cn p s m args meth c D cy cc nL own ret A) {dflt lo hi : Int} {offs : Array Int} {len : Nat} {x : Int32} (k : Int32) {off : Int} {tgt : Nat} (hdg : decode cc pc = .ok (.tableswitch dflt lo hi offs, len)) (hx : x = k) (h1 : ¬ k.toInt < lo) (h2 : ¬ hi < k.toInt) (ho : offs[(k.toInt - lo).toNat]? = some off) (ht : (pc : Int) + off = (tgt : Int)) (kk : SN p l e R s m args below meth c D nL A Q cs ss ws ll tgt st) : SN p l e R s m args below meth c D nL A Q cs ss ws ll pc (.int x :: st) := by
  subst hx
  exact fun H locs ls hP hD hS hl => lv_tableIn C.1 C.2.1 hdg h1 h2 ho ht (kk H locs ls hP hD hS hl)
theorem sn_tblOut (C : Cn p s m args meth c D cy cc nL own ret A) {dflt lo hi : Int} {offs : Array Int} {len : Nat} {x : Int32} {tgt : Nat} (hdg : decode cc pc = .ok (.tableswitch dflt lo hi offs, len)) (h : x.toInt < lo ∨ hi < x.toInt) (ht : (pc : Int) + dflt = (tgt : Int)) (kk : SN p l e R s m args below meth c D nL A Q cs ss ws ll tgt st) : SN p l e R s m args below meth c D nL A Q cs ss ws ll pc (.int x :: st) := fun H locs ls hP hD hS hl => lv_tableOut C.1 C.2.1 hdg h ht (kk H locs ls hP hD hS hl)
theorem sn_sld (C : Cn p s m args meth c D cy cc nL own ret A) {b L : Nat} {xs : Nat → Int32} (hX : va_X b L xs s s.heap) (hbl : b < s.heap.size) (hbA : ¬ A b) {i : Int32} (hin : vp_in i L) (hdg : decode cc pc = .ok (.iaload, 1)) (kk : SN p l e R s m args below meth c D nL A Q cs ss ws ll (pc + 1) (.int (xs i.toNatClampNeg) :: st)) : SN p l e R s m args below meth c D nL A Q cs ss ws ll pc (.int i :: .ref b :: st) := fun H locs ls hP hD hS hl => va_sld C.1 C.2.1 hX hbl hbA hS hin hdg (kk H locs ls hP hD hS hl)
theorem sn_slen (C : Cn p s m args meth c D cy cc nL own ret A) {b L : Nat} {xs : Nat → Int32} (hX : va_X b L xs s s.heap) (hbl : b < s.heap.size) (hbA : ¬ A b) (hdg : decode cc pc = .ok (.arraylength, 1)) (kk : SN p l e R s m args below meth c D nL A Q cs ss ws ll (pc + 1) (.int (nI L) :: st)) : SN p l e R s m args below meth c D nL A Q cs ss ws ll pc (.ref b :: st) := fun H locs ls hP hD hS hl => va_slen C.1 C.2.1 hX hbl hbA hS hdg (kk H locs ls hP hD hS hl)
/-- two worlds side by side: the addresses alone decide that they are apart -/
theorem D_fst {A : Nat → Prop} {ws ws2 : va_W} (h : ws.map Prod.fst = ws2.map Prod.fst) (hD : va_D A ws) : va_D A ws2 := by
  have key : ∀ (i : Nat) (q : Nat × va_E), ws2[i]? = some q → ∃ q0, ws[i]? = some q0 ∧ q0.1 = q.1 := by
    intro i q hq
    have h1 : (ws.map Prod.fst)[i]? = some q.1 := by rw [h, List.getElem?_map, hq]; rfl
    rw [List.getElem?_map] at h1
    cases hw : ws[i]? with
    | none => rw [hw] at h1; cases h1
    | some q0 => rw [hw] at h1; exact ⟨q0, rfl, Option.some.inj h1⟩
  refine ⟨fun i j p q hp hq hpq => ?_, fun k q hk => ?_⟩
  · obtain ⟨p0, hp0, ep⟩ := key i p hp
    obtain ⟨q0, hq0, eq⟩ := key j q hq
    exact hD.1 i j p0 q0 hp0 hq0 (by rw [ep, eq]; exact hpq)
  · obtain ⟨q0, hq0, eq⟩ := key k q hk
    rw [← eq]; exact hD.2 k q0 hq0
def inW (ws : va_W) : Nat → Prop := fun q => ∃ (k : Nat) (e : va_E), ws[k]? = some (q, e)
theorem D_in {A : Nat → Prop} {ws : va_W} (h : va_D A ws) : va_D (inW ws) ws := ⟨h.1, fun k q hk => ⟨k, q.2, hk⟩⟩
theorem inW_A {A : Nat → Prop} {ws : va_W} (h : va_D A ws) {q : Nat} (hq : inW ws q) : A q := by
  obtain ⟨k, e, hk⟩ := hq
  exact h.2 k _ hk
theorem D_left {A : Nat → Prop} {w1 w2 : va_W} (h : va_D A (w1 ++ w2)) : va_D A w1 := by
  refine ⟨fun i j p q hp hq hpq => ?_, fun k q hk => ?_⟩
  · exact h.1 i j p q (by rw [List.getElem?_append_left (List.getElem?_eq_some_iff.mp hp).1]; exact hp) (by rw [List.getElem?_append_left (List.getElem?_eq_some_iff.mp hq).1]; exact hq) hpq
  · exact h.2 k q (by rw [List.getElem?_append_left (List.getElem?_eq_some_iff.mp hk).1]; exact hk)
theorem app_r {w1 w2 : va_W} {k : Nat} {q : Nat × va_E} (h : w2[k]? = some q) : (w1 ++ w2)[w1.length + k]? = some q := by
  rw [List.getElem?_append_right (by omega)]; rw [show w1.length + k - w1.length = k by omega]; exact h
theorem app_l {w1 w2 : va_W} {k : Nat} {q : Nat × va_E} (h : w1[k]? = some q) : (w1 ++ w2)[k]? = some q := by
  rw [List.getElem?_append_left (List.getElem?_eq_some_iff.mp h).1]; exact h
theorem D_right {A : Nat → Prop} {w1 w2 : va_W} (h : va_D A (w1 ++ w2)) : va_D A w2 := by
  refine ⟨fun i j p q hp hq hpq => ?_, fun k q hk => ?_⟩
  · have := h.1 _ _ p q (app_r (w1 := w1) hp) (app_r (w1 := w1) hq) hpq
    omega
  · exact h.2 _ q (app_r (w1 := w1) hk)
theorem D_apart {A : Nat → Prop} {w1 w2 : va_W} (h : va_D A (w1 ++ w2)) {k : Nat} {q : Nat × va_E} (hk : w2[k]? = some q) : ¬ inW w1 q.1 := by
  rintro ⟨j, e, hj⟩
  have h1 := (List.getElem?_eq_some_iff.mp hj).1
  have := h.1 j (w1.length + k) (q.1, e) q (app_l hj) (app_r hk) rfl
  omega
theorem D_apart2 {A : Nat → Prop} {w1 w2 : va_W} (h : va_D A (w1 ++ w2)) {k : Nat} {q : Nat × va_E} (hk : w1[k]? = some q) : ¬ inW w2 q.1 := by
  rintro ⟨j, e, hj⟩
  have h1 := (List.getElem?_eq_some_iff.mp hk).1
  have := h.1 k (w1.length + j) q (q.1, e) (app_l hk) (app_r hj) rfl
  omega
theorem P_left {w1 w2 : va_W} {H : Heap} (h : va_P D vwCl (w1 ++ w2) H) : va_P D vwCl w1 H := fun k q hk => h k q (app_l hk)
theorem P_right {w1 w2 : va_W} {H : Heap} (h : va_P D vwCl (w1 ++ w2) H) : va_P D vwCl w2 H := fun k q hk => h _ q (app_r (w1 := w1) hk)
theorem join_left {A : Nat → Prop} {w1 w2 w3 : va_W} {H H1 : Heap} (hP : va_P D vwCl (w1 ++ w2) H) (hD : va_D A (w1 ++ w2)) (hk : ∀ q : Nat, q < H.size → ¬ inW w1 q → H1[q]? = H[q]?) (hP1 : va_P D vwCl w3 H1) : va_P D vwCl (w3 ++ w2) H1 := by
  refine va_P.app hP1 (fun k q hq => ?_)
  have h2 := P_right hP k q hq
  exact h2.kept (hk q.1 h2.lt (D_apart hD hq))
theorem join_right {A : Nat → Prop} {w1 w2 w3 : va_W} {H H1 : Heap} (hP : va_P D vwCl (w1 ++ w2) H) (hD : va_D A (w1 ++ w2)) (hk : ∀ q : Nat, q < H.size → ¬ inW w2 q → H1[q]? = H[q]?) (hP1 : va_P D vwCl w3 H1) : va_P D vwCl (w1 ++ w3) H1 := by
  refine va_P.app (fun k q hq => ?_) hP1
  have h2 := P_left hP k q hq
  exact h2.kept (hk q.1 h2.lt (D_apart2 hD hq))
theorem wC_fst (cy : Nat → ClassId) (ad : Nat → Nat) (X X2 : St) : (wC cy ad X).map Prod.fst = (wC cy ad X2).map Prod.fst := rfl
theorem wM_fst (cy : Nat → ClassId) (ad : Nat → Nat) (X X2 : St) : (wM cy ad X).map Prod.fst = (wM cy ad X2).map Prod.fst := rfl
theorem wP_fst (cy : Nat → ClassId) (ad ae : Nat → Nat) (X X2 Y Y2 : St) : (wC cy ad X ++ wM cy ae Y).map Prod.fst = (wC cy ad X2 ++ wM cy ae Y2).map Prod.fst := by
  rw [List.map_append, List.map_append]; rfl
theorem inW_fst {ws ws2 : va_W} (h : ws.map Prod.fst = ws2.map Prod.fst) {q : Nat} (hq : inW ws q) : inW ws2 q := by
  obtain ⟨k, e, hk⟩ := hq
  have h1 : (ws2.map Prod.fst)[k]? = some q := by rw [← h, List.getElem?_map, hk]; rfl
  rw [List.getElem?_map] at h1
  cases hw : ws2[k]? with
  | none => rw [hw] at h1; cases h1
  | some q0 => rw [hw] at h1; exact ⟨k, q0.2, by rw [hw]; exact congrArg some (Prod.ext (Option.some.inj h1) rfl)⟩
/-- the set of a world's addresses -/
def aC (cy : Nat → ClassId) (ad : Nat → Nat) (X : St) : Nat → Prop := inW (wC cy ad X)
def X00 : St := (fun _ => 0, fun _ => 0, fun _ _ => 0, fun _ _ => 0, fun _ _ => 0)
variable {ad ae : Nat → Nat} {X X2 Y Y2 : St}
theorem sn_callL_i (C : Cn p s m args meth c D cy cc nL own ret A) {rm : Room} {y : MethodName} {b : ByteArray} {maxL n idx : Nat} {rt : Option FieldType} {v : Int32} {As stk : List Value} (hM : Met l y (wsY y b maxL rt) rm (prX D cy (wC cy ad) X (.ref (ad 0) :: As)) (poI D (wC cy ad) (inW (wC cy ad X00)) v X2) 0 0 (inW (wC cy ad X00))) (pk : pkV RX9 y b maxL rt n) (hw : Cond.methodLink own idx y ∈ wsL_law) (hR : rm.frames + 1 ≤ R.frames ∧ 8 + (maxL + 11) + rm.locals ≤ R.locals) (hz : rm.cells = 0 ∧ rm.slots = 0) (hcs : cs ≤ R.cells ∧ ss ≤ R.slots) (hn : As.length = n) (hst : stk = As.reverse ++ .ref (ad 0) :: st) (hsum : (st.map fun v => v.category).sum ≤ 8) (hdg : decode cc pc = .ok (.invokevirtual idx, 3)) (kk : SN p l e R s m args below meth c D nL A Q cs ss (wC cy ad X2 ++ wM cy ae Y) ll (pc + 3) (.int v :: st)) : SN p l e R s m args below meth c D nL A Q cs ss (wC cy ad X ++ wM cy ae Y) ll pc stk := by
  intro H locs ls hP hD hS hl
  have hPc := P_left hP
  have hA : ∀ q, (inW (wC cy ad X00)) q → A q := fun q h => inW_A (D_left hD) (inW_fst (wC_fst cy ad _ _) h)
  refine va_calli (va_runV (As := As) (rest := st) ⟨C.1, C.2.1, C.2.2.1, C.2.2.2.1, C.2.2.2.2.1⟩ hM (cwV n C.2.2.2.2.1 (goodV (fun w h => h) pk hw) rfl hz.1 hz.2 pk.2 hR) ⟨fun a U g mk q => ⟨q.1, q.2.1, KK.call g mk a q.2.2⟩, va_recv C.2.2.2.2.2.1.1 hPc (ci := 7) (q0 := 0) rfl rfl, fun U hU hW => ⟨rfl, by rw [hU]; exact hPc, KK.warm hW C.2.2.2.2.2.1⟩⟩ rfl hn hl.1 hst (lv_room hsum) hdg hcs) hS (fun q _ h => hA q h) (fun q h => hA q h) (fun r u t H1 locs1 ht hvm hw hB hz1 hk1 hS1 => ?_)
  obtain ⟨rfl, rfl⟩ := hw
  rw [ht] at hB
  exact kk H1 locs1 ls (join_left hP hD (fun q h1 h2 => hk1 q h1 (fun h3 => h2 (inW_fst (wC_fst cy ad _ _) h3))) hB) (D_fst (wP_fst cy ad ae _ _ _ _) hD) hS1 hl
theorem sn_callL_l (C : Cn p s m args meth c D cy cc nL own ret A) {rm : Room} {y : MethodName} {b : ByteArray} {maxL n idx : Nat} {rt : Option FieldType} {v : Int64} {As stk : List Value} (hM : Met l y (wsY y b maxL rt) rm (prX D cy (wC cy ad) X (.ref (ad 0) :: As)) (poL D (wC cy ad) (inW (wC cy ad X00)) v X2) 0 0 (inW (wC cy ad X00))) (pk : pkV RX9 y b maxL rt n) (hw : Cond.methodLink own idx y ∈ wsL_law) (hR : rm.frames + 1 ≤ R.frames ∧ 8 + (maxL + 11) + rm.locals ≤ R.locals) (hz : rm.cells = 0 ∧ rm.slots = 0) (hcs : cs ≤ R.cells ∧ ss ≤ R.slots) (hn : As.length = n) (hst : stk = As.reverse ++ .ref (ad 0) :: st) (hsum : (st.map fun v => v.category).sum ≤ 8) (hdg : decode cc pc = .ok (.invokevirtual idx, 3)) (kk : SN p l e R s m args below meth c D nL A Q cs ss (wC cy ad X2 ++ wM cy ae Y) ll (pc + 3) (.long v :: st)) : SN p l e R s m args below meth c D nL A Q cs ss (wC cy ad X ++ wM cy ae Y) ll pc stk := by
  intro H locs ls hP hD hS hl
  have hPc := P_left hP
  have hA : ∀ q, (inW (wC cy ad X00)) q → A q := fun q h => inW_A (D_left hD) (inW_fst (wC_fst cy ad _ _) h)
  refine va_calll (va_runV (As := As) (rest := st) ⟨C.1, C.2.1, C.2.2.1, C.2.2.2.1, C.2.2.2.2.1⟩ hM (cwV n C.2.2.2.2.1 (goodV (fun w h => h) pk hw) rfl hz.1 hz.2 pk.2 hR) ⟨fun a U g mk q => ⟨q.1, q.2.1, KK.call g mk a q.2.2⟩, va_recv C.2.2.2.2.2.1.1 hPc (ci := 7) (q0 := 0) rfl rfl, fun U hU hW => ⟨rfl, by rw [hU]; exact hPc, KK.warm hW C.2.2.2.2.2.1⟩⟩ rfl hn hl.1 hst (lv_room hsum) hdg hcs) hS (fun q _ h => hA q h) (fun q h => hA q h) (fun r u t H1 locs1 ht hvm hw hB hz1 hk1 hS1 => ?_)
  obtain ⟨rfl, rfl⟩ := hw
  rw [ht] at hB
  exact kk H1 locs1 ls (join_left hP hD (fun q h1 h2 => hk1 q h1 (fun h3 => h2 (inW_fst (wC_fst cy ad _ _) h3))) hB) (D_fst (wP_fst cy ad ae _ _ _ _) hD) hS1 hl
theorem sn_callR_i (C : Cn p s m args meth c D cy cc nL own ret A) {rm : Room} {y : MethodName} {b : ByteArray} {maxL n idx : Nat} {rt : Option FieldType} {v : Int32} {As stk : List Value} (hM : Met l y (wsY y b maxL rt) rm (prX D cy (wM cy ae) Y (.ref (ae 0) :: As)) (poI D (wM cy ae) (inW (wM cy ae X00)) v Y2) 0 0 (inW (wM cy ae X00))) (pk : pkV RX10 y b maxL rt n) (hw : Cond.methodLink own idx y ∈ wsL_law) (hR : rm.frames + 1 ≤ R.frames ∧ 8 + (maxL + 11) + rm.locals ≤ R.locals) (hz : rm.cells = 0 ∧ rm.slots = 0) (hcs : cs ≤ R.cells ∧ ss ≤ R.slots) (hn : As.length = n) (hst : stk = As.reverse ++ .ref (ae 0) :: st) (hsum : (st.map fun v => v.category).sum ≤ 8) (hdg : decode cc pc = .ok (.invokevirtual idx, 3)) (kk : SN p l e R s m args below meth c D nL A Q cs ss (wC cy ad X ++ wM cy ae Y2) ll (pc + 3) (.int v :: st)) : SN p l e R s m args below meth c D nL A Q cs ss (wC cy ad X ++ wM cy ae Y) ll pc stk := by
  intro H locs ls hP hD hS hl
  have hPc := P_right hP
  have hA : ∀ q, (inW (wM cy ae X00)) q → A q := fun q h => inW_A (D_right hD) (inW_fst (wM_fst cy ae _ _) h)
  refine va_calli (va_runV (As := As) (rest := st) ⟨C.1, C.2.1, C.2.2.1, C.2.2.2.1, C.2.2.2.2.1⟩ hM (cwV n C.2.2.2.2.1 (goodV (fun w h => h) pk hw) rfl hz.1 hz.2 pk.2 hR) ⟨fun a U g mk q => ⟨q.1, q.2.1, KK.call g mk a q.2.2⟩, va_recv C.2.2.2.2.2.1.1 hPc (ci := 8) (q0 := 0) rfl rfl, fun U hU hW => ⟨rfl, by rw [hU]; exact hPc, KK.warm hW C.2.2.2.2.2.1⟩⟩ rfl hn hl.1 hst (lv_room hsum) hdg hcs) hS (fun q _ h => hA q h) (fun q h => hA q h) (fun r u t H1 locs1 ht hvm hw hB hz1 hk1 hS1 => ?_)
  obtain ⟨rfl, rfl⟩ := hw
  rw [ht] at hB
  exact kk H1 locs1 ls (join_right hP hD (fun q h1 h2 => hk1 q h1 (fun h3 => h2 (inW_fst (wM_fst cy ae _ _) h3))) hB) (D_fst (wP_fst cy ad ae _ _ _ _) hD) hS1 hl
theorem sn_callR_l (C : Cn p s m args meth c D cy cc nL own ret A) {rm : Room} {y : MethodName} {b : ByteArray} {maxL n idx : Nat} {rt : Option FieldType} {v : Int64} {As stk : List Value} (hM : Met l y (wsY y b maxL rt) rm (prX D cy (wM cy ae) Y (.ref (ae 0) :: As)) (poL D (wM cy ae) (inW (wM cy ae X00)) v Y2) 0 0 (inW (wM cy ae X00))) (pk : pkV RX10 y b maxL rt n) (hw : Cond.methodLink own idx y ∈ wsL_law) (hR : rm.frames + 1 ≤ R.frames ∧ 8 + (maxL + 11) + rm.locals ≤ R.locals) (hz : rm.cells = 0 ∧ rm.slots = 0) (hcs : cs ≤ R.cells ∧ ss ≤ R.slots) (hn : As.length = n) (hst : stk = As.reverse ++ .ref (ae 0) :: st) (hsum : (st.map fun v => v.category).sum ≤ 8) (hdg : decode cc pc = .ok (.invokevirtual idx, 3)) (kk : SN p l e R s m args below meth c D nL A Q cs ss (wC cy ad X ++ wM cy ae Y2) ll (pc + 3) (.long v :: st)) : SN p l e R s m args below meth c D nL A Q cs ss (wC cy ad X ++ wM cy ae Y) ll pc stk := by
  intro H locs ls hP hD hS hl
  have hPc := P_right hP
  have hA : ∀ q, (inW (wM cy ae X00)) q → A q := fun q h => inW_A (D_right hD) (inW_fst (wM_fst cy ae _ _) h)
  refine va_calll (va_runV (As := As) (rest := st) ⟨C.1, C.2.1, C.2.2.1, C.2.2.2.1, C.2.2.2.2.1⟩ hM (cwV n C.2.2.2.2.1 (goodV (fun w h => h) pk hw) rfl hz.1 hz.2 pk.2 hR) ⟨fun a U g mk q => ⟨q.1, q.2.1, KK.call g mk a q.2.2⟩, va_recv C.2.2.2.2.2.1.1 hPc (ci := 8) (q0 := 0) rfl rfl, fun U hU hW => ⟨rfl, by rw [hU]; exact hPc, KK.warm hW C.2.2.2.2.2.1⟩⟩ rfl hn hl.1 hst (lv_room hsum) hdg hcs) hS (fun q _ h => hA q h) (fun q h => hA q h) (fun r u t H1 locs1 ht hvm hw hB hz1 hk1 hS1 => ?_)
  obtain ⟨rfl, rfl⟩ := hw
  rw [ht] at hB
  exact kk H1 locs1 ls (join_right hP hD (fun q h1 h2 => hk1 q h1 (fun h3 => h2 (inW_fst (wM_fst cy ae _ _) h3))) hB) (D_fst (wP_fst cy ad ae _ _ _ _) hD) hS1 hl
end SNlaw
def Op_letters (Rel : St → St → Prop) : Prop := ∀ (X Y : St) (a1 : Int64), Rel X Y → ∃ (r : Int32) (X2 : St) (Y2 : St), jT_letters X a1 = some (r, X2) ∧ jM_letters Y a1 = some (r, Y2) ∧ Rel X2 Y2
set_option maxHeartbeats 4000000 in
set_option maxRecDepth 100000 in
theorem law_letters {p : Program} {l : Launch} {e : Env} {s : State} {m : MethodId} {below : List Frame} {meth : Method} {c : Code} {D : va_G} {cy : Nat → ClassId} {A : Nat → Prop} {ad ae : Nat → Nat} {b L : Nat} {xs : Nat → Int32} {Q : State → Prop} (C : Cn p s m #[Value.ref b] meth c D cy cL_law 4 RL ret A) (hX : va_X b L xs s s.heap) (hbl : b < s.heap.size) (hbA : ¬ A b) (hDL : ∀ X, va_D (inW (wC cy ad X00)) (wC cy ad X)) (hDR : ∀ X, va_D (inW (wM cy ae X00)) (wM cy ae X)) {Rel : St → St → Prop} (hop : Op_letters Rel) {X Y : St} (hr : Rel X Y) {x3 : Int32} (h1 : vp_in (x3 + (1 : Int32)) L) (h2 : vp_in (x3 + (2 : Int32)) L) (hk0 : ∀ X2 Y2, Rel X2 Y2 → SN p l e room_1 s m #[Value.ref b] below meth c D 4 A Q 41 1474 (wC cy ad X2 ++ wM cy ae Y2) [(0, .ref b), (1, .ref (ad 0)), (2, .ref (ae 0)), (3, .int x3)] 848 []) : SN p l e room_1 s m #[Value.ref b] below meth c D 4 A Q 41 1474 (wC cy ad X ++ wM cy ae Y) [(0, .ref b), (1, .ref (ad 0)), (2, .ref (ae 0)), (3, .int x3)] 156 [] := by
  obtain ⟨r, X2, Y2, hLJ, hRJ, hrel⟩ := hop X Y ((lsh (xs (x3 + (1 : Int32)).toNatClampNeg).toInt64 (32 : Int32)) ||| ((xs (x3 + (2 : Int32)).toNatClampNeg).toInt64 &&& (4294967295 : Int64))) hr
  have hk := hk0 X2 Y2 hrel
  refine sn_aload_n (pc := 156) C 1 dL_law_156 rfl rfl ?_
  refine sn_aload_n (pc := 157) C 0 dL_law_157 rfl rfl ?_
  refine sn_iload_n (pc := 158) C 3 dL_law_158 rfl rfl ?_
  refine sn_iconst (pc := 159) C (v := (1 : Int32)) dL_law_159 (by decide) ?_
  refine sn_iadd (pc := 160) C dL_law_160 ?_
  refine sn_sld (pc := 161) C hX hbl hbA h1 dL_law_161 ?_
  refine sn_i2l (pc := 162) C dL_law_162 ?_
  refine sn_bipush (pc := 163) C (v := (32 : Int32)) dL_law_163 (by decide) ?_
  refine sn_lshl (pc := 165) C dL_law_165 ?_
  refine sn_aload_n (pc := 166) C 0 dL_law_166 rfl rfl ?_
  refine sn_iload_n (pc := 167) C 3 dL_law_167 rfl rfl ?_
  refine sn_iconst (pc := 168) C (v := (2 : Int32)) dL_law_168 (by decide) ?_
  refine sn_iadd (pc := 169) C dL_law_169 ?_
  refine sn_sld (pc := 170) C hX hbl hbA h2 dL_law_170 ?_
  refine sn_i2l (pc := 171) C dL_law_171 ?_
  refine sn_ldc2 (pc := 172) C (v := (4294967295 : Int64)) wd_1_6 dL_law_172 ?_
  refine sn_land (pc := 175) C dL_law_175 ?_
  refine sn_lor (pc := 176) C dL_law_176 ?_
  refine sn_callL_i (pc := 177) C (st := []) (As := [.long ((lsh (xs (x3 + (1 : Int32)).toNatClampNeg).toInt64 (32 : Int32)) ||| ((xs (x3 + (2 : Int32)).toNatClampNeg).toInt64 &&& (4294967295 : Int64)))]) (k_T_letters hDL hLJ) pk_X9_letters wd_5_8 ⟨Nat.le_of_ble_eq_true rfl, Nat.le_of_ble_eq_true rfl⟩ ⟨rfl, rfl⟩ ⟨Nat.le_of_ble_eq_true rfl, Nat.le_of_ble_eq_true rfl⟩ rfl rfl (Nat.le_of_ble_eq_true rfl) dL_law_177 ?_
  refine sn_aload_n (pc := 180) C 2 dL_law_180 rfl rfl ?_
  refine sn_aload_n (pc := 181) C 0 dL_law_181 rfl rfl ?_
  refine sn_iload_n (pc := 182) C 3 dL_law_182 rfl rfl ?_
  refine sn_iconst (pc := 183) C (v := (1 : Int32)) dL_law_183 (by decide) ?_
  refine sn_iadd (pc := 184) C dL_law_184 ?_
  refine sn_sld (pc := 185) C hX hbl hbA h1 dL_law_185 ?_
  refine sn_i2l (pc := 186) C dL_law_186 ?_
  refine sn_bipush (pc := 187) C (v := (32 : Int32)) dL_law_187 (by decide) ?_
  refine sn_lshl (pc := 189) C dL_law_189 ?_
  refine sn_aload_n (pc := 190) C 0 dL_law_190 rfl rfl ?_
  refine sn_iload_n (pc := 191) C 3 dL_law_191 rfl rfl ?_
  refine sn_iconst (pc := 192) C (v := (2 : Int32)) dL_law_192 (by decide) ?_
  refine sn_iadd (pc := 193) C dL_law_193 ?_
  refine sn_sld (pc := 194) C hX hbl hbA h2 dL_law_194 ?_
  refine sn_i2l (pc := 195) C dL_law_195 ?_
  refine sn_ldc2 (pc := 196) C (v := (4294967295 : Int64)) wd_1_6 dL_law_196 ?_
  refine sn_land (pc := 199) C dL_law_199 ?_
  refine sn_lor (pc := 200) C dL_law_200 ?_
  refine sn_callR_i (pc := 201) C (st := [.int r]) (As := [.long ((lsh (xs (x3 + (1 : Int32)).toNatClampNeg).toInt64 (32 : Int32)) ||| ((xs (x3 + (2 : Int32)).toNatClampNeg).toInt64 &&& (4294967295 : Int64)))]) (k_M_letters hDR hRJ) pk_X10_letters wd_6_7 ⟨Nat.le_of_ble_eq_true rfl, Nat.le_of_ble_eq_true rfl⟩ ⟨rfl, rfl⟩ ⟨Nat.le_of_ble_eq_true rfl, Nat.le_of_ble_eq_true rfl⟩ rfl rfl (Nat.le_of_ble_eq_true rfl) dL_law_201 ?_
  exact sn_icmp_eqT (pc := 204) (tgt := 848) C dL_law_204 (by decide) rfl hk
def Op_blank (Rel : St → St → Prop) : Prop := ∀ (X Y : St), Rel X Y → ∃ (r : Int32) (X2 : St) (Y2 : St), jT_blank X = some (r, X2) ∧ jM_blank Y = some (r, Y2) ∧ Rel X2 Y2
set_option maxHeartbeats 4000000 in
set_option maxRecDepth 100000 in
theorem law_blank {p : Program} {l : Launch} {e : Env} {s : State} {m : MethodId} {below : List Frame} {meth : Method} {c : Code} {D : va_G} {cy : Nat → ClassId} {A : Nat → Prop} {ad ae : Nat → Nat} {b L : Nat} {xs : Nat → Int32} {Q : State → Prop} (C : Cn p s m #[Value.ref b] meth c D cy cL_law 4 RL ret A) (hX : va_X b L xs s s.heap) (hbl : b < s.heap.size) (hbA : ¬ A b) (hDL : ∀ X, va_D (inW (wC cy ad X00)) (wC cy ad X)) (hDR : ∀ X, va_D (inW (wM cy ae X00)) (wM cy ae X)) {Rel : St → St → Prop} (hop : Op_blank Rel) {X Y : St} (hr : Rel X Y) {x3 : Int32} (hk0 : ∀ X2 Y2, Rel X2 Y2 → SN p l e room_1 s m #[Value.ref b] below meth c D 4 A Q 41 1474 (wC cy ad X2 ++ wM cy ae Y2) [(0, .ref b), (1, .ref (ad 0)), (2, .ref (ae 0)), (3, .int x3)] 848 []) : SN p l e room_1 s m #[Value.ref b] below meth c D 4 A Q 41 1474 (wC cy ad X ++ wM cy ae Y) [(0, .ref b), (1, .ref (ad 0)), (2, .ref (ae 0)), (3, .int x3)] 209 [] := by
  obtain ⟨r, X2, Y2, hLJ, hRJ, hrel⟩ := hop X Y  hr
  have hk := hk0 X2 Y2 hrel
  refine sn_aload_n (pc := 209) C 1 dL_law_209 rfl rfl ?_
  refine sn_callL_i (pc := 210) C (st := []) (As := []) (k_T_blank hDL hLJ) pk_X9_blank wd_6_13 ⟨Nat.le_of_ble_eq_true rfl, Nat.le_of_ble_eq_true rfl⟩ ⟨rfl, rfl⟩ ⟨Nat.le_of_ble_eq_true rfl, Nat.le_of_ble_eq_true rfl⟩ rfl rfl (Nat.le_of_ble_eq_true rfl) dL_law_210 ?_
  refine sn_aload_n (pc := 213) C 2 dL_law_213 rfl rfl ?_
  refine sn_callR_i (pc := 214) C (st := [.int r]) (As := []) (k_M_blank hDR hRJ) pk_X10_blank wd_6_21 ⟨Nat.le_of_ble_eq_true rfl, Nat.le_of_ble_eq_true rfl⟩ ⟨rfl, rfl⟩ ⟨Nat.le_of_ble_eq_true rfl, Nat.le_of_ble_eq_true rfl⟩ rfl rfl (Nat.le_of_ble_eq_true rfl) dL_law_214 ?_
  exact sn_icmp_eqT (pc := 217) (tgt := 848) C dL_law_217 (by decide) rfl hk
def Op_fault (Rel : St → St → Prop) : Prop := ∀ (X Y : St) (a1 : Int32), Rel X Y → ∃ (r : Int32) (X2 : St) (Y2 : St), jT_fault X a1 = some (r, X2) ∧ jM_fault Y a1 = some (r, Y2) ∧ Rel X2 Y2
set_option maxHeartbeats 4000000 in
set_option maxRecDepth 100000 in
theorem law_fault {p : Program} {l : Launch} {e : Env} {s : State} {m : MethodId} {below : List Frame} {meth : Method} {c : Code} {D : va_G} {cy : Nat → ClassId} {A : Nat → Prop} {ad ae : Nat → Nat} {b L : Nat} {xs : Nat → Int32} {Q : State → Prop} (C : Cn p s m #[Value.ref b] meth c D cy cL_law 4 RL ret A) (hX : va_X b L xs s s.heap) (hbl : b < s.heap.size) (hbA : ¬ A b) (hDL : ∀ X, va_D (inW (wC cy ad X00)) (wC cy ad X)) (hDR : ∀ X, va_D (inW (wM cy ae X00)) (wM cy ae X)) {Rel : St → St → Prop} (hop : Op_fault Rel) {X Y : St} (hr : Rel X Y) {x3 : Int32} (h1 : vp_in (x3 + (1 : Int32)) L) (hk0 : ∀ X2 Y2, Rel X2 Y2 → SN p l e room_1 s m #[Value.ref b] below meth c D 4 A Q 41 1474 (wC cy ad X2 ++ wM cy ae Y2) [(0, .ref b), (1, .ref (ad 0)), (2, .ref (ae 0)), (3, .int x3)] 848 []) : SN p l e room_1 s m #[Value.ref b] below meth c D 4 A Q 41 1474 (wC cy ad X ++ wM cy ae Y) [(0, .ref b), (1, .ref (ad 0)), (2, .ref (ae 0)), (3, .int x3)] 222 [] := by
  obtain ⟨r, X2, Y2, hLJ, hRJ, hrel⟩ := hop X Y (xs (x3 + (1 : Int32)).toNatClampNeg) hr
  have hk := hk0 X2 Y2 hrel
  refine sn_aload_n (pc := 222) C 1 dL_law_222 rfl rfl ?_
  refine sn_aload_n (pc := 223) C 0 dL_law_223 rfl rfl ?_
  refine sn_iload_n (pc := 224) C 3 dL_law_224 rfl rfl ?_
  refine sn_iconst (pc := 225) C (v := (1 : Int32)) dL_law_225 (by decide) ?_
  refine sn_iadd (pc := 226) C dL_law_226 ?_
  refine sn_sld (pc := 227) C hX hbl hbA h1 dL_law_227 ?_
  refine sn_callL_i (pc := 228) C (st := []) (As := [.int (xs (x3 + (1 : Int32)).toNatClampNeg)]) (k_T_fault hDL hLJ) pk_X9_fault wd_7_1 ⟨Nat.le_of_ble_eq_true rfl, Nat.le_of_ble_eq_true rfl⟩ ⟨rfl, rfl⟩ ⟨Nat.le_of_ble_eq_true rfl, Nat.le_of_ble_eq_true rfl⟩ rfl rfl (Nat.le_of_ble_eq_true rfl) dL_law_228 ?_
  refine sn_aload_n (pc := 231) C 2 dL_law_231 rfl rfl ?_
  refine sn_aload_n (pc := 232) C 0 dL_law_232 rfl rfl ?_
  refine sn_iload_n (pc := 233) C 3 dL_law_233 rfl rfl ?_
  refine sn_iconst (pc := 234) C (v := (1 : Int32)) dL_law_234 (by decide) ?_
  refine sn_iadd (pc := 235) C dL_law_235 ?_
  refine sn_sld (pc := 236) C hX hbl hbA h1 dL_law_236 ?_
  refine sn_callR_i (pc := 237) C (st := [.int r]) (As := [.int (xs (x3 + (1 : Int32)).toNatClampNeg)]) (k_M_fault hDR hRJ) pk_X10_fault wd_9_10 ⟨Nat.le_of_ble_eq_true rfl, Nat.le_of_ble_eq_true rfl⟩ ⟨rfl, rfl⟩ ⟨Nat.le_of_ble_eq_true rfl, Nat.le_of_ble_eq_true rfl⟩ rfl rfl (Nat.le_of_ble_eq_true rfl) dL_law_237 ?_
  exact sn_icmp_eqT (pc := 240) (tgt := 848) C dL_law_240 (by decide) rfl hk
def Op_rule (Rel : St → St → Prop) : Prop := ∀ (X Y : St), Rel X Y → ∃ (r : Int32) (X2 : St) (Y2 : St), jT_rule X = some (r, X2) ∧ jM_rule Y = some (r, Y2) ∧ Rel X2 Y2
set_option maxHeartbeats 4000000 in
set_option maxRecDepth 100000 in
theorem law_rule {p : Program} {l : Launch} {e : Env} {s : State} {m : MethodId} {below : List Frame} {meth : Method} {c : Code} {D : va_G} {cy : Nat → ClassId} {A : Nat → Prop} {ad ae : Nat → Nat} {b L : Nat} {xs : Nat → Int32} {Q : State → Prop} (C : Cn p s m #[Value.ref b] meth c D cy cL_law 4 RL ret A) (hX : va_X b L xs s s.heap) (hbl : b < s.heap.size) (hbA : ¬ A b) (hDL : ∀ X, va_D (inW (wC cy ad X00)) (wC cy ad X)) (hDR : ∀ X, va_D (inW (wM cy ae X00)) (wM cy ae X)) {Rel : St → St → Prop} (hop : Op_rule Rel) {X Y : St} (hr : Rel X Y) {x3 : Int32} (hk0 : ∀ X2 Y2, Rel X2 Y2 → SN p l e room_1 s m #[Value.ref b] below meth c D 4 A Q 41 1474 (wC cy ad X2 ++ wM cy ae Y2) [(0, .ref b), (1, .ref (ad 0)), (2, .ref (ae 0)), (3, .int x3)] 848 []) : SN p l e room_1 s m #[Value.ref b] below meth c D 4 A Q 41 1474 (wC cy ad X ++ wM cy ae Y) [(0, .ref b), (1, .ref (ad 0)), (2, .ref (ae 0)), (3, .int x3)] 245 [] := by
  obtain ⟨r, X2, Y2, hLJ, hRJ, hrel⟩ := hop X Y  hr
  have hk := hk0 X2 Y2 hrel
  refine sn_aload_n (pc := 245) C 1 dL_law_245 rfl rfl ?_
  refine sn_callL_i (pc := 246) C (st := []) (As := []) (k_T_rule hDL hLJ) pk_X9_rule wd_10_12 ⟨Nat.le_of_ble_eq_true rfl, Nat.le_of_ble_eq_true rfl⟩ ⟨rfl, rfl⟩ ⟨Nat.le_of_ble_eq_true rfl, Nat.le_of_ble_eq_true rfl⟩ rfl rfl (Nat.le_of_ble_eq_true rfl) dL_law_246 ?_
  refine sn_aload_n (pc := 249) C 2 dL_law_249 rfl rfl ?_
  refine sn_callR_i (pc := 250) C (st := [.int r]) (As := []) (k_M_rule hDR hRJ) pk_X10_rule wd_12_3 ⟨Nat.le_of_ble_eq_true rfl, Nat.le_of_ble_eq_true rfl⟩ ⟨rfl, rfl⟩ ⟨Nat.le_of_ble_eq_true rfl, Nat.le_of_ble_eq_true rfl⟩ rfl rfl (Nat.le_of_ble_eq_true rfl) dL_law_250 ?_
  exact sn_icmp_eqT (pc := 253) (tgt := 848) C dL_law_253 (by decide) rfl hk
def Op_replies (Rel : St → St → Prop) : Prop := ∀ (X Y : St) (a1 : Int32) (a2 : Int32), Rel X Y → ∃ (r : Int32), jT_replies X a1 a2 = some r ∧ jM_replies Y a1 a2 = some r
set_option maxHeartbeats 4000000 in
set_option maxRecDepth 100000 in
theorem law_replies {p : Program} {l : Launch} {e : Env} {s : State} {m : MethodId} {below : List Frame} {meth : Method} {c : Code} {D : va_G} {cy : Nat → ClassId} {A : Nat → Prop} {ad ae : Nat → Nat} {b L : Nat} {xs : Nat → Int32} {Q : State → Prop} (C : Cn p s m #[Value.ref b] meth c D cy cL_law 4 RL ret A) (hX : va_X b L xs s s.heap) (hbl : b < s.heap.size) (hbA : ¬ A b) (hDL : ∀ X, va_D (inW (wC cy ad X00)) (wC cy ad X)) (hDR : ∀ X, va_D (inW (wM cy ae X00)) (wM cy ae X)) {Rel : St → St → Prop} (hop : Op_replies Rel) {X Y : St} (hr : Rel X Y) {x3 : Int32} (h1 : vp_in (x3 + (1 : Int32)) L) (h2 : vp_in (x3 + (2 : Int32)) L) (hk0 : ∀ X2 Y2, Rel X2 Y2 → SN p l e room_1 s m #[Value.ref b] below meth c D 4 A Q 41 1474 (wC cy ad X2 ++ wM cy ae Y2) [(0, .ref b), (1, .ref (ad 0)), (2, .ref (ae 0)), (3, .int x3)] 848 []) : SN p l e room_1 s m #[Value.ref b] below meth c D 4 A Q 41 1474 (wC cy ad X ++ wM cy ae Y) [(0, .ref b), (1, .ref (ad 0)), (2, .ref (ae 0)), (3, .int x3)] 258 [] := by
  obtain ⟨r, hLJ, hRJ⟩ := hop X Y (xs (x3 + (1 : Int32)).toNatClampNeg) (xs (x3 + (2 : Int32)).toNatClampNeg) hr
  have hk := hk0 X Y hr
  refine sn_aload_n (pc := 258) C 1 dL_law_258 rfl rfl ?_
  refine sn_aload_n (pc := 259) C 0 dL_law_259 rfl rfl ?_
  refine sn_iload_n (pc := 260) C 3 dL_law_260 rfl rfl ?_
  refine sn_iconst (pc := 261) C (v := (1 : Int32)) dL_law_261 (by decide) ?_
  refine sn_iadd (pc := 262) C dL_law_262 ?_
  refine sn_sld (pc := 263) C hX hbl hbA h1 dL_law_263 ?_
  refine sn_aload_n (pc := 264) C 0 dL_law_264 rfl rfl ?_
  refine sn_iload_n (pc := 265) C 3 dL_law_265 rfl rfl ?_
  refine sn_iconst (pc := 266) C (v := (2 : Int32)) dL_law_266 (by decide) ?_
  refine sn_iadd (pc := 267) C dL_law_267 ?_
  refine sn_sld (pc := 268) C hX hbl hbA h2 dL_law_268 ?_
  refine sn_callL_i (pc := 269) C (st := []) (As := [.int (xs (x3 + (1 : Int32)).toNatClampNeg), .int (xs (x3 + (2 : Int32)).toNatClampNeg)]) (k_T_replies hDL hLJ) pk_X9_replies wd_12_8 ⟨Nat.le_of_ble_eq_true rfl, Nat.le_of_ble_eq_true rfl⟩ ⟨rfl, rfl⟩ ⟨Nat.le_of_ble_eq_true rfl, Nat.le_of_ble_eq_true rfl⟩ rfl rfl (Nat.le_of_ble_eq_true rfl) dL_law_269 ?_
  refine sn_aload_n (pc := 272) C 2 dL_law_272 rfl rfl ?_
  refine sn_aload_n (pc := 273) C 0 dL_law_273 rfl rfl ?_
  refine sn_iload_n (pc := 274) C 3 dL_law_274 rfl rfl ?_
  refine sn_iconst (pc := 275) C (v := (1 : Int32)) dL_law_275 (by decide) ?_
  refine sn_iadd (pc := 276) C dL_law_276 ?_
  refine sn_sld (pc := 277) C hX hbl hbA h1 dL_law_277 ?_
  refine sn_aload_n (pc := 278) C 0 dL_law_278 rfl rfl ?_
  refine sn_iload_n (pc := 279) C 3 dL_law_279 rfl rfl ?_
  refine sn_iconst (pc := 280) C (v := (2 : Int32)) dL_law_280 (by decide) ?_
  refine sn_iadd (pc := 281) C dL_law_281 ?_
  refine sn_sld (pc := 282) C hX hbl hbA h2 dL_law_282 ?_
  refine sn_callR_i (pc := 283) C (st := [.int r]) (As := [.int (xs (x3 + (1 : Int32)).toNatClampNeg), .int (xs (x3 + (2 : Int32)).toNatClampNeg)]) (k_M_replies hDR hRJ) pk_X10_replies wd_12_17 ⟨Nat.le_of_ble_eq_true rfl, Nat.le_of_ble_eq_true rfl⟩ ⟨rfl, rfl⟩ ⟨Nat.le_of_ble_eq_true rfl, Nat.le_of_ble_eq_true rfl⟩ rfl rfl (Nat.le_of_ble_eq_true rfl) dL_law_283 ?_
  exact sn_icmp_eqT (pc := 286) (tgt := 848) C dL_law_286 (by decide) rfl hk
def Op_member (Rel : St → St → Prop) : Prop := ∀ (X Y : St) (a1 : Int32) (a2 : Int32) (a3 : Int32) (a4 : Int32) (a5 : Int32), Rel X Y → ∃ (r : Int32) (X2 : St) (Y2 : St), jT_member X a1 a2 a3 a4 a5 = some (r, X2) ∧ jM_member Y a1 a2 a3 a4 a5 = some (r, Y2) ∧ Rel X2 Y2
set_option maxHeartbeats 4000000 in
set_option maxRecDepth 100000 in
theorem law_member {p : Program} {l : Launch} {e : Env} {s : State} {m : MethodId} {below : List Frame} {meth : Method} {c : Code} {D : va_G} {cy : Nat → ClassId} {A : Nat → Prop} {ad ae : Nat → Nat} {b L : Nat} {xs : Nat → Int32} {Q : State → Prop} (C : Cn p s m #[Value.ref b] meth c D cy cL_law 4 RL ret A) (hX : va_X b L xs s s.heap) (hbl : b < s.heap.size) (hbA : ¬ A b) (hDL : ∀ X, va_D (inW (wC cy ad X00)) (wC cy ad X)) (hDR : ∀ X, va_D (inW (wM cy ae X00)) (wM cy ae X)) {Rel : St → St → Prop} (hop : Op_member Rel) {X Y : St} (hr : Rel X Y) {x3 : Int32} (h1 : vp_in (x3 + (1 : Int32)) L) (h2 : vp_in (x3 + (2 : Int32)) L) (h3 : vp_in (x3 + (3 : Int32)) L) (h4 : vp_in (x3 + (4 : Int32)) L) (h5 : vp_in (x3 + (5 : Int32)) L) (hk0 : ∀ X2 Y2, Rel X2 Y2 → SN p l e room_1 s m #[Value.ref b] below meth c D 4 A Q 41 1474 (wC cy ad X2 ++ wM cy ae Y2) [(0, .ref b), (1, .ref (ad 0)), (2, .ref (ae 0)), (3, .int x3)] 848 []) : SN p l e room_1 s m #[Value.ref b] below meth c D 4 A Q 41 1474 (wC cy ad X ++ wM cy ae Y) [(0, .ref b), (1, .ref (ad 0)), (2, .ref (ae 0)), (3, .int x3)] 291 [] := by
  obtain ⟨r, X2, Y2, hLJ, hRJ, hrel⟩ := hop X Y (xs (x3 + (1 : Int32)).toNatClampNeg) (xs (x3 + (2 : Int32)).toNatClampNeg) (xs (x3 + (3 : Int32)).toNatClampNeg) (xs (x3 + (4 : Int32)).toNatClampNeg) (xs (x3 + (5 : Int32)).toNatClampNeg) hr
  have hk := hk0 X2 Y2 hrel
  refine sn_aload_n (pc := 291) C 1 dL_law_291 rfl rfl ?_
  refine sn_aload_n (pc := 292) C 0 dL_law_292 rfl rfl ?_
  refine sn_iload_n (pc := 293) C 3 dL_law_293 rfl rfl ?_
  refine sn_iconst (pc := 294) C (v := (1 : Int32)) dL_law_294 (by decide) ?_
  refine sn_iadd (pc := 295) C dL_law_295 ?_
  refine sn_sld (pc := 296) C hX hbl hbA h1 dL_law_296 ?_
  refine sn_aload_n (pc := 297) C 0 dL_law_297 rfl rfl ?_
  refine sn_iload_n (pc := 298) C 3 dL_law_298 rfl rfl ?_
  refine sn_iconst (pc := 299) C (v := (2 : Int32)) dL_law_299 (by decide) ?_
  refine sn_iadd (pc := 300) C dL_law_300 ?_
  refine sn_sld (pc := 301) C hX hbl hbA h2 dL_law_301 ?_
  refine sn_aload_n (pc := 302) C 0 dL_law_302 rfl rfl ?_
  refine sn_iload_n (pc := 303) C 3 dL_law_303 rfl rfl ?_
  refine sn_iconst (pc := 304) C (v := (3 : Int32)) dL_law_304 (by decide) ?_
  refine sn_iadd (pc := 305) C dL_law_305 ?_
  refine sn_sld (pc := 306) C hX hbl hbA h3 dL_law_306 ?_
  refine sn_aload_n (pc := 307) C 0 dL_law_307 rfl rfl ?_
  refine sn_iload_n (pc := 308) C 3 dL_law_308 rfl rfl ?_
  refine sn_iconst (pc := 309) C (v := (4 : Int32)) dL_law_309 (by decide) ?_
  refine sn_iadd (pc := 310) C dL_law_310 ?_
  refine sn_sld (pc := 311) C hX hbl hbA h4 dL_law_311 ?_
  refine sn_aload_n (pc := 312) C 0 dL_law_312 rfl rfl ?_
  refine sn_iload_n (pc := 313) C 3 dL_law_313 rfl rfl ?_
  refine sn_iconst (pc := 314) C (v := (5 : Int32)) dL_law_314 (by decide) ?_
  refine sn_iadd (pc := 315) C dL_law_315 ?_
  refine sn_sld (pc := 316) C hX hbl hbA h5 dL_law_316 ?_
  refine sn_callL_i (pc := 317) C (st := []) (As := [.int (xs (x3 + (1 : Int32)).toNatClampNeg), .int (xs (x3 + (2 : Int32)).toNatClampNeg), .int (xs (x3 + (3 : Int32)).toNatClampNeg), .int (xs (x3 + (4 : Int32)).toNatClampNeg), .int (xs (x3 + (5 : Int32)).toNatClampNeg)]) (k_T_member hDL hLJ) pk_X9_member wd_12_21 ⟨Nat.le_of_ble_eq_true rfl, Nat.le_of_ble_eq_true rfl⟩ ⟨rfl, rfl⟩ ⟨Nat.le_of_ble_eq_true rfl, Nat.le_of_ble_eq_true rfl⟩ rfl rfl (Nat.le_of_ble_eq_true rfl) dL_law_317 ?_
  refine sn_aload_n (pc := 320) C 2 dL_law_320 rfl rfl ?_
  refine sn_aload_n (pc := 321) C 0 dL_law_321 rfl rfl ?_
  refine sn_iload_n (pc := 322) C 3 dL_law_322 rfl rfl ?_
  refine sn_iconst (pc := 323) C (v := (1 : Int32)) dL_law_323 (by decide) ?_
  refine sn_iadd (pc := 324) C dL_law_324 ?_
  refine sn_sld (pc := 325) C hX hbl hbA h1 dL_law_325 ?_
  refine sn_aload_n (pc := 326) C 0 dL_law_326 rfl rfl ?_
  refine sn_iload_n (pc := 327) C 3 dL_law_327 rfl rfl ?_
  refine sn_iconst (pc := 328) C (v := (2 : Int32)) dL_law_328 (by decide) ?_
  refine sn_iadd (pc := 329) C dL_law_329 ?_
  refine sn_sld (pc := 330) C hX hbl hbA h2 dL_law_330 ?_
  refine sn_aload_n (pc := 331) C 0 dL_law_331 rfl rfl ?_
  refine sn_iload_n (pc := 332) C 3 dL_law_332 rfl rfl ?_
  refine sn_iconst (pc := 333) C (v := (3 : Int32)) dL_law_333 (by decide) ?_
  refine sn_iadd (pc := 334) C dL_law_334 ?_
  refine sn_sld (pc := 335) C hX hbl hbA h3 dL_law_335 ?_
  refine sn_aload_n (pc := 336) C 0 dL_law_336 rfl rfl ?_
  refine sn_iload_n (pc := 337) C 3 dL_law_337 rfl rfl ?_
  refine sn_iconst (pc := 338) C (v := (4 : Int32)) dL_law_338 (by decide) ?_
  refine sn_iadd (pc := 339) C dL_law_339 ?_
  refine sn_sld (pc := 340) C hX hbl hbA h4 dL_law_340 ?_
  refine sn_aload_n (pc := 341) C 0 dL_law_341 rfl rfl ?_
  refine sn_iload_n (pc := 342) C 3 dL_law_342 rfl rfl ?_
  refine sn_iconst (pc := 343) C (v := (5 : Int32)) dL_law_343 (by decide) ?_
  refine sn_iadd (pc := 344) C dL_law_344 ?_
  refine sn_sld (pc := 345) C hX hbl hbA h5 dL_law_345 ?_
  refine sn_callR_i (pc := 346) C (st := [.int r]) (As := [.int (xs (x3 + (1 : Int32)).toNatClampNeg), .int (xs (x3 + (2 : Int32)).toNatClampNeg), .int (xs (x3 + (3 : Int32)).toNatClampNeg), .int (xs (x3 + (4 : Int32)).toNatClampNeg), .int (xs (x3 + (5 : Int32)).toNatClampNeg)]) (k_M_member hDR hRJ) pk_X10_member wd_14_9 ⟨Nat.le_of_ble_eq_true rfl, Nat.le_of_ble_eq_true rfl⟩ ⟨rfl, rfl⟩ ⟨Nat.le_of_ble_eq_true rfl, Nat.le_of_ble_eq_true rfl⟩ rfl rfl (Nat.le_of_ble_eq_true rfl) dL_law_346 ?_
  exact sn_icmp_eqT (pc := 349) (tgt := 848) C dL_law_349 (by decide) rfl hk
def Op_speech (Rel : St → St → Prop) : Prop := ∀ (X Y : St) (a1 : Int32) (a2 : Int32) (a3 : Int32), Rel X Y → ∃ (r : Int32) (X2 : St) (Y2 : St), jT_speech X a1 a2 a3 = some (r, X2) ∧ jM_speech Y a1 a2 a3 = some (r, Y2) ∧ Rel X2 Y2
set_option maxHeartbeats 4000000 in
set_option maxRecDepth 100000 in
theorem law_speech {p : Program} {l : Launch} {e : Env} {s : State} {m : MethodId} {below : List Frame} {meth : Method} {c : Code} {D : va_G} {cy : Nat → ClassId} {A : Nat → Prop} {ad ae : Nat → Nat} {b L : Nat} {xs : Nat → Int32} {Q : State → Prop} (C : Cn p s m #[Value.ref b] meth c D cy cL_law 4 RL ret A) (hX : va_X b L xs s s.heap) (hbl : b < s.heap.size) (hbA : ¬ A b) (hDL : ∀ X, va_D (inW (wC cy ad X00)) (wC cy ad X)) (hDR : ∀ X, va_D (inW (wM cy ae X00)) (wM cy ae X)) {Rel : St → St → Prop} (hop : Op_speech Rel) {X Y : St} (hr : Rel X Y) {x3 : Int32} (h1 : vp_in (x3 + (1 : Int32)) L) (h2 : vp_in (x3 + (2 : Int32)) L) (h3 : vp_in (x3 + (3 : Int32)) L) (hk0 : ∀ X2 Y2, Rel X2 Y2 → SN p l e room_1 s m #[Value.ref b] below meth c D 4 A Q 41 1474 (wC cy ad X2 ++ wM cy ae Y2) [(0, .ref b), (1, .ref (ad 0)), (2, .ref (ae 0)), (3, .int x3)] 848 []) : SN p l e room_1 s m #[Value.ref b] below meth c D 4 A Q 41 1474 (wC cy ad X ++ wM cy ae Y) [(0, .ref b), (1, .ref (ad 0)), (2, .ref (ae 0)), (3, .int x3)] 354 [] := by
  obtain ⟨r, X2, Y2, hLJ, hRJ, hrel⟩ := hop X Y (xs (x3 + (1 : Int32)).toNatClampNeg) (xs (x3 + (2 : Int32)).toNatClampNeg) (xs (x3 + (3 : Int32)).toNatClampNeg) hr
  have hk := hk0 X2 Y2 hrel
  refine sn_aload_n (pc := 354) C 1 dL_law_354 rfl rfl ?_
  refine sn_aload_n (pc := 355) C 0 dL_law_355 rfl rfl ?_
  refine sn_iload_n (pc := 356) C 3 dL_law_356 rfl rfl ?_
  refine sn_iconst (pc := 357) C (v := (1 : Int32)) dL_law_357 (by decide) ?_
  refine sn_iadd (pc := 358) C dL_law_358 ?_
  refine sn_sld (pc := 359) C hX hbl hbA h1 dL_law_359 ?_
  refine sn_aload_n (pc := 360) C 0 dL_law_360 rfl rfl ?_
  refine sn_iload_n (pc := 361) C 3 dL_law_361 rfl rfl ?_
  refine sn_iconst (pc := 362) C (v := (2 : Int32)) dL_law_362 (by decide) ?_
  refine sn_iadd (pc := 363) C dL_law_363 ?_
  refine sn_sld (pc := 364) C hX hbl hbA h2 dL_law_364 ?_
  refine sn_aload_n (pc := 365) C 0 dL_law_365 rfl rfl ?_
  refine sn_iload_n (pc := 366) C 3 dL_law_366 rfl rfl ?_
  refine sn_iconst (pc := 367) C (v := (3 : Int32)) dL_law_367 (by decide) ?_
  refine sn_iadd (pc := 368) C dL_law_368 ?_
  refine sn_sld (pc := 369) C hX hbl hbA h3 dL_law_369 ?_
  refine sn_callL_i (pc := 370) C (st := []) (As := [.int (xs (x3 + (1 : Int32)).toNatClampNeg), .int (xs (x3 + (2 : Int32)).toNatClampNeg), .int (xs (x3 + (3 : Int32)).toNatClampNeg)]) (k_T_speech hDL hLJ) pk_X9_speech wd_14_19 ⟨Nat.le_of_ble_eq_true rfl, Nat.le_of_ble_eq_true rfl⟩ ⟨rfl, rfl⟩ ⟨Nat.le_of_ble_eq_true rfl, Nat.le_of_ble_eq_true rfl⟩ rfl rfl (Nat.le_of_ble_eq_true rfl) dL_law_370 ?_
  refine sn_aload_n (pc := 373) C 2 dL_law_373 rfl rfl ?_
  refine sn_aload_n (pc := 374) C 0 dL_law_374 rfl rfl ?_
  refine sn_iload_n (pc := 375) C 3 dL_law_375 rfl rfl ?_
  refine sn_iconst (pc := 376) C (v := (1 : Int32)) dL_law_376 (by decide) ?_
  refine sn_iadd (pc := 377) C dL_law_377 ?_
  refine sn_sld (pc := 378) C hX hbl hbA h1 dL_law_378 ?_
  refine sn_aload_n (pc := 379) C 0 dL_law_379 rfl rfl ?_
  refine sn_iload_n (pc := 380) C 3 dL_law_380 rfl rfl ?_
  refine sn_iconst (pc := 381) C (v := (2 : Int32)) dL_law_381 (by decide) ?_
  refine sn_iadd (pc := 382) C dL_law_382 ?_
  refine sn_sld (pc := 383) C hX hbl hbA h2 dL_law_383 ?_
  refine sn_aload_n (pc := 384) C 0 dL_law_384 rfl rfl ?_
  refine sn_iload_n (pc := 385) C 3 dL_law_385 rfl rfl ?_
  refine sn_iconst (pc := 386) C (v := (3 : Int32)) dL_law_386 (by decide) ?_
  refine sn_iadd (pc := 387) C dL_law_387 ?_
  refine sn_sld (pc := 388) C hX hbl hbA h3 dL_law_388 ?_
  refine sn_callR_i (pc := 389) C (st := [.int r]) (As := [.int (xs (x3 + (1 : Int32)).toNatClampNeg), .int (xs (x3 + (2 : Int32)).toNatClampNeg), .int (xs (x3 + (3 : Int32)).toNatClampNeg)]) (k_M_speech hDR hRJ) pk_X10_speech wd_15_4 ⟨Nat.le_of_ble_eq_true rfl, Nat.le_of_ble_eq_true rfl⟩ ⟨rfl, rfl⟩ ⟨Nat.le_of_ble_eq_true rfl, Nat.le_of_ble_eq_true rfl⟩ rfl rfl (Nat.le_of_ble_eq_true rfl) dL_law_389 ?_
  exact sn_icmp_eqT (pc := 392) (tgt := 848) C dL_law_392 (by decide) rfl hk
def Op_about (Rel : St → St → Prop) : Prop := ∀ (X Y : St) (a1 : Int32) (a2 : Int32), Rel X Y → ∃ (r : Int32), jT_about X a1 a2 = some r ∧ jM_about Y a1 a2 = some r
set_option maxHeartbeats 4000000 in
set_option maxRecDepth 100000 in
theorem law_about {p : Program} {l : Launch} {e : Env} {s : State} {m : MethodId} {below : List Frame} {meth : Method} {c : Code} {D : va_G} {cy : Nat → ClassId} {A : Nat → Prop} {ad ae : Nat → Nat} {b L : Nat} {xs : Nat → Int32} {Q : State → Prop} (C : Cn p s m #[Value.ref b] meth c D cy cL_law 4 RL ret A) (hX : va_X b L xs s s.heap) (hbl : b < s.heap.size) (hbA : ¬ A b) (hDL : ∀ X, va_D (inW (wC cy ad X00)) (wC cy ad X)) (hDR : ∀ X, va_D (inW (wM cy ae X00)) (wM cy ae X)) {Rel : St → St → Prop} (hop : Op_about Rel) {X Y : St} (hr : Rel X Y) {x3 : Int32} (h1 : vp_in (x3 + (1 : Int32)) L) (h2 : vp_in (x3 + (2 : Int32)) L) (hk0 : ∀ X2 Y2, Rel X2 Y2 → SN p l e room_1 s m #[Value.ref b] below meth c D 4 A Q 41 1474 (wC cy ad X2 ++ wM cy ae Y2) [(0, .ref b), (1, .ref (ad 0)), (2, .ref (ae 0)), (3, .int x3)] 848 []) : SN p l e room_1 s m #[Value.ref b] below meth c D 4 A Q 41 1474 (wC cy ad X ++ wM cy ae Y) [(0, .ref b), (1, .ref (ad 0)), (2, .ref (ae 0)), (3, .int x3)] 397 [] := by
  obtain ⟨r, hLJ, hRJ⟩ := hop X Y (xs (x3 + (1 : Int32)).toNatClampNeg) (xs (x3 + (2 : Int32)).toNatClampNeg) hr
  have hk := hk0 X Y hr
  refine sn_aload_n (pc := 397) C 1 dL_law_397 rfl rfl ?_
  refine sn_aload_n (pc := 398) C 0 dL_law_398 rfl rfl ?_
  refine sn_iload_n (pc := 399) C 3 dL_law_399 rfl rfl ?_
  refine sn_iconst (pc := 400) C (v := (1 : Int32)) dL_law_400 (by decide) ?_
  refine sn_iadd (pc := 401) C dL_law_401 ?_
  refine sn_sld (pc := 402) C hX hbl hbA h1 dL_law_402 ?_
  refine sn_aload_n (pc := 403) C 0 dL_law_403 rfl rfl ?_
  refine sn_iload_n (pc := 404) C 3 dL_law_404 rfl rfl ?_
  refine sn_iconst (pc := 405) C (v := (2 : Int32)) dL_law_405 (by decide) ?_
  refine sn_iadd (pc := 406) C dL_law_406 ?_
  refine sn_sld (pc := 407) C hX hbl hbA h2 dL_law_407 ?_
  refine sn_callL_i (pc := 408) C (st := []) (As := [.int (xs (x3 + (1 : Int32)).toNatClampNeg), .int (xs (x3 + (2 : Int32)).toNatClampNeg)]) (k_T_about hDL hLJ) pk_X9_about wd_15_12 ⟨Nat.le_of_ble_eq_true rfl, Nat.le_of_ble_eq_true rfl⟩ ⟨rfl, rfl⟩ ⟨Nat.le_of_ble_eq_true rfl, Nat.le_of_ble_eq_true rfl⟩ rfl rfl (Nat.le_of_ble_eq_true rfl) dL_law_408 ?_
  refine sn_aload_n (pc := 411) C 2 dL_law_411 rfl rfl ?_
  refine sn_aload_n (pc := 412) C 0 dL_law_412 rfl rfl ?_
  refine sn_iload_n (pc := 413) C 3 dL_law_413 rfl rfl ?_
  refine sn_iconst (pc := 414) C (v := (1 : Int32)) dL_law_414 (by decide) ?_
  refine sn_iadd (pc := 415) C dL_law_415 ?_
  refine sn_sld (pc := 416) C hX hbl hbA h1 dL_law_416 ?_
  refine sn_aload_n (pc := 417) C 0 dL_law_417 rfl rfl ?_
  refine sn_iload_n (pc := 418) C 3 dL_law_418 rfl rfl ?_
  refine sn_iconst (pc := 419) C (v := (2 : Int32)) dL_law_419 (by decide) ?_
  refine sn_iadd (pc := 420) C dL_law_420 ?_
  refine sn_sld (pc := 421) C hX hbl hbA h2 dL_law_421 ?_
  refine sn_callR_i (pc := 422) C (st := [.int r]) (As := [.int (xs (x3 + (1 : Int32)).toNatClampNeg), .int (xs (x3 + (2 : Int32)).toNatClampNeg)]) (k_M_about hDR hRJ) pk_X10_about wd_16_20 ⟨Nat.le_of_ble_eq_true rfl, Nat.le_of_ble_eq_true rfl⟩ ⟨rfl, rfl⟩ ⟨Nat.le_of_ble_eq_true rfl, Nat.le_of_ble_eq_true rfl⟩ rfl rfl (Nat.le_of_ble_eq_true rfl) dL_law_422 ?_
  exact sn_icmp_eqT (pc := 425) (tgt := 848) C dL_law_425 (by decide) rfl hk
def Op_as (Rel : St → St → Prop) : Prop := ∀ (X Y : St) (a1 : Int32) (a2 : Int32), Rel X Y → ∃ (r : Int32), jT_as X a1 a2 = some r ∧ jM_as Y a1 a2 = some r
set_option maxHeartbeats 4000000 in
set_option maxRecDepth 100000 in
theorem law_as {p : Program} {l : Launch} {e : Env} {s : State} {m : MethodId} {below : List Frame} {meth : Method} {c : Code} {D : va_G} {cy : Nat → ClassId} {A : Nat → Prop} {ad ae : Nat → Nat} {b L : Nat} {xs : Nat → Int32} {Q : State → Prop} (C : Cn p s m #[Value.ref b] meth c D cy cL_law 4 RL ret A) (hX : va_X b L xs s s.heap) (hbl : b < s.heap.size) (hbA : ¬ A b) (hDL : ∀ X, va_D (inW (wC cy ad X00)) (wC cy ad X)) (hDR : ∀ X, va_D (inW (wM cy ae X00)) (wM cy ae X)) {Rel : St → St → Prop} (hop : Op_as Rel) {X Y : St} (hr : Rel X Y) {x3 : Int32} (h1 : vp_in (x3 + (1 : Int32)) L) (h2 : vp_in (x3 + (2 : Int32)) L) (hk0 : ∀ X2 Y2, Rel X2 Y2 → SN p l e room_1 s m #[Value.ref b] below meth c D 4 A Q 41 1474 (wC cy ad X2 ++ wM cy ae Y2) [(0, .ref b), (1, .ref (ad 0)), (2, .ref (ae 0)), (3, .int x3)] 848 []) : SN p l e room_1 s m #[Value.ref b] below meth c D 4 A Q 41 1474 (wC cy ad X ++ wM cy ae Y) [(0, .ref b), (1, .ref (ad 0)), (2, .ref (ae 0)), (3, .int x3)] 430 [] := by
  obtain ⟨r, hLJ, hRJ⟩ := hop X Y (xs (x3 + (1 : Int32)).toNatClampNeg) (xs (x3 + (2 : Int32)).toNatClampNeg) hr
  have hk := hk0 X Y hr
  refine sn_aload_n (pc := 430) C 1 dL_law_430 rfl rfl ?_
  refine sn_aload_n (pc := 431) C 0 dL_law_431 rfl rfl ?_
  refine sn_iload_n (pc := 432) C 3 dL_law_432 rfl rfl ?_
  refine sn_iconst (pc := 433) C (v := (1 : Int32)) dL_law_433 (by decide) ?_
  refine sn_iadd (pc := 434) C dL_law_434 ?_
  refine sn_sld (pc := 435) C hX hbl hbA h1 dL_law_435 ?_
  refine sn_aload_n (pc := 436) C 0 dL_law_436 rfl rfl ?_
  refine sn_iload_n (pc := 437) C 3 dL_law_437 rfl rfl ?_
  refine sn_iconst (pc := 438) C (v := (2 : Int32)) dL_law_438 (by decide) ?_
  refine sn_iadd (pc := 439) C dL_law_439 ?_
  refine sn_sld (pc := 440) C hX hbl hbA h2 dL_law_440 ?_
  refine sn_callL_i (pc := 441) C (st := []) (As := [.int (xs (x3 + (1 : Int32)).toNatClampNeg), .int (xs (x3 + (2 : Int32)).toNatClampNeg)]) (k_T_as hDL hLJ) pk_X9_as wd_17_21 ⟨Nat.le_of_ble_eq_true rfl, Nat.le_of_ble_eq_true rfl⟩ ⟨rfl, rfl⟩ ⟨Nat.le_of_ble_eq_true rfl, Nat.le_of_ble_eq_true rfl⟩ rfl rfl (Nat.le_of_ble_eq_true rfl) dL_law_441 ?_
  refine sn_aload_n (pc := 444) C 2 dL_law_444 rfl rfl ?_
  refine sn_aload_n (pc := 445) C 0 dL_law_445 rfl rfl ?_
  refine sn_iload_n (pc := 446) C 3 dL_law_446 rfl rfl ?_
  refine sn_iconst (pc := 447) C (v := (1 : Int32)) dL_law_447 (by decide) ?_
  refine sn_iadd (pc := 448) C dL_law_448 ?_
  refine sn_sld (pc := 449) C hX hbl hbA h1 dL_law_449 ?_
  refine sn_aload_n (pc := 450) C 0 dL_law_450 rfl rfl ?_
  refine sn_iload_n (pc := 451) C 3 dL_law_451 rfl rfl ?_
  refine sn_iconst (pc := 452) C (v := (2 : Int32)) dL_law_452 (by decide) ?_
  refine sn_iadd (pc := 453) C dL_law_453 ?_
  refine sn_sld (pc := 454) C hX hbl hbA h2 dL_law_454 ?_
  refine sn_callR_i (pc := 455) C (st := [.int r]) (As := [.int (xs (x3 + (1 : Int32)).toNatClampNeg), .int (xs (x3 + (2 : Int32)).toNatClampNeg)]) (k_M_as hDR hRJ) pk_X10_as wd_18_2 ⟨Nat.le_of_ble_eq_true rfl, Nat.le_of_ble_eq_true rfl⟩ ⟨rfl, rfl⟩ ⟨Nat.le_of_ble_eq_true rfl, Nat.le_of_ble_eq_true rfl⟩ rfl rfl (Nat.le_of_ble_eq_true rfl) dL_law_455 ?_
  exact sn_icmp_eqT (pc := 458) (tgt := 848) C dL_law_458 (by decide) rfl hk
def Op_chair (Rel : St → St → Prop) : Prop := ∀ (X Y : St) (a1 : Int32) (a2 : Int32), Rel X Y → ∃ (r : Int32) (X2 : St) (Y2 : St), jT_chair X a1 a2 = some (r, X2) ∧ jM_chair Y a1 a2 = some (r, Y2) ∧ Rel X2 Y2
set_option maxHeartbeats 4000000 in
set_option maxRecDepth 100000 in
theorem law_chair {p : Program} {l : Launch} {e : Env} {s : State} {m : MethodId} {below : List Frame} {meth : Method} {c : Code} {D : va_G} {cy : Nat → ClassId} {A : Nat → Prop} {ad ae : Nat → Nat} {b L : Nat} {xs : Nat → Int32} {Q : State → Prop} (C : Cn p s m #[Value.ref b] meth c D cy cL_law 4 RL ret A) (hX : va_X b L xs s s.heap) (hbl : b < s.heap.size) (hbA : ¬ A b) (hDL : ∀ X, va_D (inW (wC cy ad X00)) (wC cy ad X)) (hDR : ∀ X, va_D (inW (wM cy ae X00)) (wM cy ae X)) {Rel : St → St → Prop} (hop : Op_chair Rel) {X Y : St} (hr : Rel X Y) {x3 : Int32} (h1 : vp_in (x3 + (1 : Int32)) L) (h2 : vp_in (x3 + (2 : Int32)) L) (hk0 : ∀ X2 Y2, Rel X2 Y2 → SN p l e room_1 s m #[Value.ref b] below meth c D 4 A Q 41 1474 (wC cy ad X2 ++ wM cy ae Y2) [(0, .ref b), (1, .ref (ad 0)), (2, .ref (ae 0)), (3, .int x3)] 848 []) : SN p l e room_1 s m #[Value.ref b] below meth c D 4 A Q 41 1474 (wC cy ad X ++ wM cy ae Y) [(0, .ref b), (1, .ref (ad 0)), (2, .ref (ae 0)), (3, .int x3)] 463 [] := by
  obtain ⟨r, X2, Y2, hLJ, hRJ, hrel⟩ := hop X Y (xs (x3 + (1 : Int32)).toNatClampNeg) (xs (x3 + (2 : Int32)).toNatClampNeg) hr
  have hk := hk0 X2 Y2 hrel
  refine sn_aload_n (pc := 463) C 1 dL_law_463 rfl rfl ?_
  refine sn_aload_n (pc := 464) C 0 dL_law_464 rfl rfl ?_
  refine sn_iload_n (pc := 465) C 3 dL_law_465 rfl rfl ?_
  refine sn_iconst (pc := 466) C (v := (1 : Int32)) dL_law_466 (by decide) ?_
  refine sn_iadd (pc := 467) C dL_law_467 ?_
  refine sn_sld (pc := 468) C hX hbl hbA h1 dL_law_468 ?_
  refine sn_aload_n (pc := 469) C 0 dL_law_469 rfl rfl ?_
  refine sn_iload_n (pc := 470) C 3 dL_law_470 rfl rfl ?_
  refine sn_iconst (pc := 471) C (v := (2 : Int32)) dL_law_471 (by decide) ?_
  refine sn_iadd (pc := 472) C dL_law_472 ?_
  refine sn_sld (pc := 473) C hX hbl hbA h2 dL_law_473 ?_
  refine sn_callL_i (pc := 474) C (st := []) (As := [.int (xs (x3 + (1 : Int32)).toNatClampNeg), .int (xs (x3 + (2 : Int32)).toNatClampNeg)]) (k_T_chair hDL hLJ) pk_X9_chair wd_18_6 ⟨Nat.le_of_ble_eq_true rfl, Nat.le_of_ble_eq_true rfl⟩ ⟨rfl, rfl⟩ ⟨Nat.le_of_ble_eq_true rfl, Nat.le_of_ble_eq_true rfl⟩ rfl rfl (Nat.le_of_ble_eq_true rfl) dL_law_474 ?_
  refine sn_aload_n (pc := 477) C 2 dL_law_477 rfl rfl ?_
  refine sn_aload_n (pc := 478) C 0 dL_law_478 rfl rfl ?_
  refine sn_iload_n (pc := 479) C 3 dL_law_479 rfl rfl ?_
  refine sn_iconst (pc := 480) C (v := (1 : Int32)) dL_law_480 (by decide) ?_
  refine sn_iadd (pc := 481) C dL_law_481 ?_
  refine sn_sld (pc := 482) C hX hbl hbA h1 dL_law_482 ?_
  refine sn_aload_n (pc := 483) C 0 dL_law_483 rfl rfl ?_
  refine sn_iload_n (pc := 484) C 3 dL_law_484 rfl rfl ?_
  refine sn_iconst (pc := 485) C (v := (2 : Int32)) dL_law_485 (by decide) ?_
  refine sn_iadd (pc := 486) C dL_law_486 ?_
  refine sn_sld (pc := 487) C hX hbl hbA h2 dL_law_487 ?_
  refine sn_callR_i (pc := 488) C (st := [.int r]) (As := [.int (xs (x3 + (1 : Int32)).toNatClampNeg), .int (xs (x3 + (2 : Int32)).toNatClampNeg)]) (k_M_chair hDR hRJ) pk_X10_chair wd_18_10 ⟨Nat.le_of_ble_eq_true rfl, Nat.le_of_ble_eq_true rfl⟩ ⟨rfl, rfl⟩ ⟨Nat.le_of_ble_eq_true rfl, Nat.le_of_ble_eq_true rfl⟩ rfl rfl (Nat.le_of_ble_eq_true rfl) dL_law_488 ?_
  exact sn_icmp_eqT (pc := 491) (tgt := 848) C dL_law_491 (by decide) rfl hk
def Op_may (Rel : St → St → Prop) : Prop := ∀ (X Y : St) (a1 : Int32), Rel X Y → ∃ (r : Int32), jT_may X a1 = some r ∧ jM_may Y a1 = some r
set_option maxHeartbeats 4000000 in
set_option maxRecDepth 100000 in
theorem law_may {p : Program} {l : Launch} {e : Env} {s : State} {m : MethodId} {below : List Frame} {meth : Method} {c : Code} {D : va_G} {cy : Nat → ClassId} {A : Nat → Prop} {ad ae : Nat → Nat} {b L : Nat} {xs : Nat → Int32} {Q : State → Prop} (C : Cn p s m #[Value.ref b] meth c D cy cL_law 4 RL ret A) (hX : va_X b L xs s s.heap) (hbl : b < s.heap.size) (hbA : ¬ A b) (hDL : ∀ X, va_D (inW (wC cy ad X00)) (wC cy ad X)) (hDR : ∀ X, va_D (inW (wM cy ae X00)) (wM cy ae X)) {Rel : St → St → Prop} (hop : Op_may Rel) {X Y : St} (hr : Rel X Y) {x3 : Int32} (h1 : vp_in (x3 + (1 : Int32)) L) (hk0 : ∀ X2 Y2, Rel X2 Y2 → SN p l e room_1 s m #[Value.ref b] below meth c D 4 A Q 41 1474 (wC cy ad X2 ++ wM cy ae Y2) [(0, .ref b), (1, .ref (ad 0)), (2, .ref (ae 0)), (3, .int x3)] 848 []) : SN p l e room_1 s m #[Value.ref b] below meth c D 4 A Q 41 1474 (wC cy ad X ++ wM cy ae Y) [(0, .ref b), (1, .ref (ad 0)), (2, .ref (ae 0)), (3, .int x3)] 496 [] := by
  obtain ⟨r, hLJ, hRJ⟩ := hop X Y (xs (x3 + (1 : Int32)).toNatClampNeg) hr
  have hk := hk0 X Y hr
  refine sn_aload_n (pc := 496) C 1 dL_law_496 rfl rfl ?_
  refine sn_aload_n (pc := 497) C 0 dL_law_497 rfl rfl ?_
  refine sn_iload_n (pc := 498) C 3 dL_law_498 rfl rfl ?_
  refine sn_iconst (pc := 499) C (v := (1 : Int32)) dL_law_499 (by decide) ?_
  refine sn_iadd (pc := 500) C dL_law_500 ?_
  refine sn_sld (pc := 501) C hX hbl hbA h1 dL_law_501 ?_
  refine sn_callL_i (pc := 502) C (st := []) (As := [.int (xs (x3 + (1 : Int32)).toNatClampNeg)]) (k_T_may hDL hLJ) pk_X9_may wd_18_14 ⟨Nat.le_of_ble_eq_true rfl, Nat.le_of_ble_eq_true rfl⟩ ⟨rfl, rfl⟩ ⟨Nat.le_of_ble_eq_true rfl, Nat.le_of_ble_eq_true rfl⟩ rfl rfl (Nat.le_of_ble_eq_true rfl) dL_law_502 ?_
  refine sn_aload_n (pc := 505) C 2 dL_law_505 rfl rfl ?_
  refine sn_aload_n (pc := 506) C 0 dL_law_506 rfl rfl ?_
  refine sn_iload_n (pc := 507) C 3 dL_law_507 rfl rfl ?_
  refine sn_iconst (pc := 508) C (v := (1 : Int32)) dL_law_508 (by decide) ?_
  refine sn_iadd (pc := 509) C dL_law_509 ?_
  refine sn_sld (pc := 510) C hX hbl hbA h1 dL_law_510 ?_
  refine sn_callR_i (pc := 511) C (st := [.int r]) (As := [.int (xs (x3 + (1 : Int32)).toNatClampNeg)]) (k_M_may hDR hRJ) pk_X10_may wd_19_3 ⟨Nat.le_of_ble_eq_true rfl, Nat.le_of_ble_eq_true rfl⟩ ⟨rfl, rfl⟩ ⟨Nat.le_of_ble_eq_true rfl, Nat.le_of_ble_eq_true rfl⟩ rfl rfl (Nat.le_of_ble_eq_true rfl) dL_law_511 ?_
  exact sn_icmp_eqT (pc := 514) (tgt := 848) C dL_law_514 (by decide) rfl hk
def Op_rise (Rel : St → St → Prop) : Prop := ∀ (X Y : St) (a1 : Int32), Rel X Y → ∃ (r : Int32) (X2 : St) (Y2 : St), jT_rise X a1 = some (r, X2) ∧ jM_rise Y a1 = some (r, Y2) ∧ Rel X2 Y2
set_option maxHeartbeats 4000000 in
set_option maxRecDepth 100000 in
theorem law_rise {p : Program} {l : Launch} {e : Env} {s : State} {m : MethodId} {below : List Frame} {meth : Method} {c : Code} {D : va_G} {cy : Nat → ClassId} {A : Nat → Prop} {ad ae : Nat → Nat} {b L : Nat} {xs : Nat → Int32} {Q : State → Prop} (C : Cn p s m #[Value.ref b] meth c D cy cL_law 4 RL ret A) (hX : va_X b L xs s s.heap) (hbl : b < s.heap.size) (hbA : ¬ A b) (hDL : ∀ X, va_D (inW (wC cy ad X00)) (wC cy ad X)) (hDR : ∀ X, va_D (inW (wM cy ae X00)) (wM cy ae X)) {Rel : St → St → Prop} (hop : Op_rise Rel) {X Y : St} (hr : Rel X Y) {x3 : Int32} (h1 : vp_in (x3 + (1 : Int32)) L) (hk0 : ∀ X2 Y2, Rel X2 Y2 → SN p l e room_1 s m #[Value.ref b] below meth c D 4 A Q 41 1474 (wC cy ad X2 ++ wM cy ae Y2) [(0, .ref b), (1, .ref (ad 0)), (2, .ref (ae 0)), (3, .int x3)] 848 []) : SN p l e room_1 s m #[Value.ref b] below meth c D 4 A Q 41 1474 (wC cy ad X ++ wM cy ae Y) [(0, .ref b), (1, .ref (ad 0)), (2, .ref (ae 0)), (3, .int x3)] 519 [] := by
  obtain ⟨r, X2, Y2, hLJ, hRJ, hrel⟩ := hop X Y (xs (x3 + (1 : Int32)).toNatClampNeg) hr
  have hk := hk0 X2 Y2 hrel
  refine sn_aload_n (pc := 519) C 1 dL_law_519 rfl rfl ?_
  refine sn_aload_n (pc := 520) C 0 dL_law_520 rfl rfl ?_
  refine sn_iload_n (pc := 521) C 3 dL_law_521 rfl rfl ?_
  refine sn_iconst (pc := 522) C (v := (1 : Int32)) dL_law_522 (by decide) ?_
  refine sn_iadd (pc := 523) C dL_law_523 ?_
  refine sn_sld (pc := 524) C hX hbl hbA h1 dL_law_524 ?_
  refine sn_callL_i (pc := 525) C (st := []) (As := [.int (xs (x3 + (1 : Int32)).toNatClampNeg)]) (k_T_rise hDL hLJ) pk_X9_rise wd_19_14 ⟨Nat.le_of_ble_eq_true rfl, Nat.le_of_ble_eq_true rfl⟩ ⟨rfl, rfl⟩ ⟨Nat.le_of_ble_eq_true rfl, Nat.le_of_ble_eq_true rfl⟩ rfl rfl (Nat.le_of_ble_eq_true rfl) dL_law_525 ?_
  refine sn_aload_n (pc := 528) C 2 dL_law_528 rfl rfl ?_
  refine sn_aload_n (pc := 529) C 0 dL_law_529 rfl rfl ?_
  refine sn_iload_n (pc := 530) C 3 dL_law_530 rfl rfl ?_
  refine sn_iconst (pc := 531) C (v := (1 : Int32)) dL_law_531 (by decide) ?_
  refine sn_iadd (pc := 532) C dL_law_532 ?_
  refine sn_sld (pc := 533) C hX hbl hbA h1 dL_law_533 ?_
  refine sn_callR_i (pc := 534) C (st := [.int r]) (As := [.int (xs (x3 + (1 : Int32)).toNatClampNeg)]) (k_M_rise hDR hRJ) pk_X10_rise wd_20_14 ⟨Nat.le_of_ble_eq_true rfl, Nat.le_of_ble_eq_true rfl⟩ ⟨rfl, rfl⟩ ⟨Nat.le_of_ble_eq_true rfl, Nat.le_of_ble_eq_true rfl⟩ rfl rfl (Nat.le_of_ble_eq_true rfl) dL_law_534 ?_
  exact sn_icmp_eqT (pc := 537) (tgt := 848) C dL_law_537 (by decide) rfl hk
def Op_down (Rel : St → St → Prop) : Prop := ∀ (X Y : St), Rel X Y → ∃ (r : Int32) (X2 : St) (Y2 : St), jT_down X = some (r, X2) ∧ jM_down Y = some (r, Y2) ∧ Rel X2 Y2
set_option maxHeartbeats 4000000 in
set_option maxRecDepth 100000 in
theorem law_down {p : Program} {l : Launch} {e : Env} {s : State} {m : MethodId} {below : List Frame} {meth : Method} {c : Code} {D : va_G} {cy : Nat → ClassId} {A : Nat → Prop} {ad ae : Nat → Nat} {b L : Nat} {xs : Nat → Int32} {Q : State → Prop} (C : Cn p s m #[Value.ref b] meth c D cy cL_law 4 RL ret A) (hX : va_X b L xs s s.heap) (hbl : b < s.heap.size) (hbA : ¬ A b) (hDL : ∀ X, va_D (inW (wC cy ad X00)) (wC cy ad X)) (hDR : ∀ X, va_D (inW (wM cy ae X00)) (wM cy ae X)) {Rel : St → St → Prop} (hop : Op_down Rel) {X Y : St} (hr : Rel X Y) {x3 : Int32} (hk0 : ∀ X2 Y2, Rel X2 Y2 → SN p l e room_1 s m #[Value.ref b] below meth c D 4 A Q 41 1474 (wC cy ad X2 ++ wM cy ae Y2) [(0, .ref b), (1, .ref (ad 0)), (2, .ref (ae 0)), (3, .int x3)] 848 []) : SN p l e room_1 s m #[Value.ref b] below meth c D 4 A Q 41 1474 (wC cy ad X ++ wM cy ae Y) [(0, .ref b), (1, .ref (ad 0)), (2, .ref (ae 0)), (3, .int x3)] 542 [] := by
  obtain ⟨r, X2, Y2, hLJ, hRJ, hrel⟩ := hop X Y  hr
  have hk := hk0 X2 Y2 hrel
  refine sn_aload_n (pc := 542) C 1 dL_law_542 rfl rfl ?_
  refine sn_callL_i (pc := 543) C (st := []) (As := []) (k_T_down hDL hLJ) pk_X9_down wd_21_7 ⟨Nat.le_of_ble_eq_true rfl, Nat.le_of_ble_eq_true rfl⟩ ⟨rfl, rfl⟩ ⟨Nat.le_of_ble_eq_true rfl, Nat.le_of_ble_eq_true rfl⟩ rfl rfl (Nat.le_of_ble_eq_true rfl) dL_law_543 ?_
  refine sn_aload_n (pc := 546) C 2 dL_law_546 rfl rfl ?_
  refine sn_callR_i (pc := 547) C (st := [.int r]) (As := []) (k_M_down hDR hRJ) pk_X10_down wd_21_11 ⟨Nat.le_of_ble_eq_true rfl, Nat.le_of_ble_eq_true rfl⟩ ⟨rfl, rfl⟩ ⟨Nat.le_of_ble_eq_true rfl, Nat.le_of_ble_eq_true rfl⟩ rfl rfl (Nat.le_of_ble_eq_true rfl) dL_law_547 ?_
  exact sn_icmp_eqT (pc := 550) (tgt := 848) C dL_law_550 (by decide) rfl hk
def Op_at (Rel : St → St → Prop) : Prop := ∀ (X Y : St) (a1 : Int32), Rel X Y → ∃ (r : Int32), jT_at X a1 = some r ∧ jM_at Y a1 = some r
set_option maxHeartbeats 4000000 in
set_option maxRecDepth 100000 in
theorem law_at {p : Program} {l : Launch} {e : Env} {s : State} {m : MethodId} {below : List Frame} {meth : Method} {c : Code} {D : va_G} {cy : Nat → ClassId} {A : Nat → Prop} {ad ae : Nat → Nat} {b L : Nat} {xs : Nat → Int32} {Q : State → Prop} (C : Cn p s m #[Value.ref b] meth c D cy cL_law 4 RL ret A) (hX : va_X b L xs s s.heap) (hbl : b < s.heap.size) (hbA : ¬ A b) (hDL : ∀ X, va_D (inW (wC cy ad X00)) (wC cy ad X)) (hDR : ∀ X, va_D (inW (wM cy ae X00)) (wM cy ae X)) {Rel : St → St → Prop} (hop : Op_at Rel) {X Y : St} (hr : Rel X Y) {x3 : Int32} (h1 : vp_in (x3 + (1 : Int32)) L) (hk0 : ∀ X2 Y2, Rel X2 Y2 → SN p l e room_1 s m #[Value.ref b] below meth c D 4 A Q 41 1474 (wC cy ad X2 ++ wM cy ae Y2) [(0, .ref b), (1, .ref (ad 0)), (2, .ref (ae 0)), (3, .int x3)] 848 []) : SN p l e room_1 s m #[Value.ref b] below meth c D 4 A Q 41 1474 (wC cy ad X ++ wM cy ae Y) [(0, .ref b), (1, .ref (ad 0)), (2, .ref (ae 0)), (3, .int x3)] 555 [] := by
  obtain ⟨r, hLJ, hRJ⟩ := hop X Y (xs (x3 + (1 : Int32)).toNatClampNeg) hr
  have hk := hk0 X Y hr
  refine sn_aload_n (pc := 555) C 1 dL_law_555 rfl rfl ?_
  refine sn_aload_n (pc := 556) C 0 dL_law_556 rfl rfl ?_
  refine sn_iload_n (pc := 557) C 3 dL_law_557 rfl rfl ?_
  refine sn_iconst (pc := 558) C (v := (1 : Int32)) dL_law_558 (by decide) ?_
  refine sn_iadd (pc := 559) C dL_law_559 ?_
  refine sn_sld (pc := 560) C hX hbl hbA h1 dL_law_560 ?_
  refine sn_callL_i (pc := 561) C (st := []) (As := [.int (xs (x3 + (1 : Int32)).toNatClampNeg)]) (k_T_at hDL hLJ) pk_X9_at wd_21_15 ⟨Nat.le_of_ble_eq_true rfl, Nat.le_of_ble_eq_true rfl⟩ ⟨rfl, rfl⟩ ⟨Nat.le_of_ble_eq_true rfl, Nat.le_of_ble_eq_true rfl⟩ rfl rfl (Nat.le_of_ble_eq_true rfl) dL_law_561 ?_
  refine sn_aload_n (pc := 564) C 2 dL_law_564 rfl rfl ?_
  refine sn_aload_n (pc := 565) C 0 dL_law_565 rfl rfl ?_
  refine sn_iload_n (pc := 566) C 3 dL_law_566 rfl rfl ?_
  refine sn_iconst (pc := 567) C (v := (1 : Int32)) dL_law_567 (by decide) ?_
  refine sn_iadd (pc := 568) C dL_law_568 ?_
  refine sn_sld (pc := 569) C hX hbl hbA h1 dL_law_569 ?_
  refine sn_callR_i (pc := 570) C (st := [.int r]) (As := [.int (xs (x3 + (1 : Int32)).toNatClampNeg)]) (k_M_at hDR hRJ) pk_X10_at wd_21_22 ⟨Nat.le_of_ble_eq_true rfl, Nat.le_of_ble_eq_true rfl⟩ ⟨rfl, rfl⟩ ⟨Nat.le_of_ble_eq_true rfl, Nat.le_of_ble_eq_true rfl⟩ rfl rfl (Nat.le_of_ble_eq_true rfl) dL_law_570 ?_
  exact sn_icmp_eqT (pc := 573) (tgt := 848) C dL_law_573 (by decide) rfl hk
def Op_bill (Rel : St → St → Prop) : Prop := ∀ (X Y : St), Rel X Y → ∃ (r : Int32), jT_bill X = some r ∧ jM_bill Y = some r
set_option maxHeartbeats 4000000 in
set_option maxRecDepth 100000 in
theorem law_bill {p : Program} {l : Launch} {e : Env} {s : State} {m : MethodId} {below : List Frame} {meth : Method} {c : Code} {D : va_G} {cy : Nat → ClassId} {A : Nat → Prop} {ad ae : Nat → Nat} {b L : Nat} {xs : Nat → Int32} {Q : State → Prop} (C : Cn p s m #[Value.ref b] meth c D cy cL_law 4 RL ret A) (hX : va_X b L xs s s.heap) (hbl : b < s.heap.size) (hbA : ¬ A b) (hDL : ∀ X, va_D (inW (wC cy ad X00)) (wC cy ad X)) (hDR : ∀ X, va_D (inW (wM cy ae X00)) (wM cy ae X)) {Rel : St → St → Prop} (hop : Op_bill Rel) {X Y : St} (hr : Rel X Y) {x3 : Int32} (hk0 : ∀ X2 Y2, Rel X2 Y2 → SN p l e room_1 s m #[Value.ref b] below meth c D 4 A Q 41 1474 (wC cy ad X2 ++ wM cy ae Y2) [(0, .ref b), (1, .ref (ad 0)), (2, .ref (ae 0)), (3, .int x3)] 848 []) : SN p l e room_1 s m #[Value.ref b] below meth c D 4 A Q 41 1474 (wC cy ad X ++ wM cy ae Y) [(0, .ref b), (1, .ref (ad 0)), (2, .ref (ae 0)), (3, .int x3)] 578 [] := by
  obtain ⟨r, hLJ, hRJ⟩ := hop X Y  hr
  have hk := hk0 X Y hr
  refine sn_aload_n (pc := 578) C 1 dL_law_578 rfl rfl ?_
  refine sn_callL_i (pc := 579) C (st := []) (As := []) (k_T_bill hDL hLJ) pk_X9_bill wd_22_2 ⟨Nat.le_of_ble_eq_true rfl, Nat.le_of_ble_eq_true rfl⟩ ⟨rfl, rfl⟩ ⟨Nat.le_of_ble_eq_true rfl, Nat.le_of_ble_eq_true rfl⟩ rfl rfl (Nat.le_of_ble_eq_true rfl) dL_law_579 ?_
  refine sn_aload_n (pc := 582) C 2 dL_law_582 rfl rfl ?_
  refine sn_callR_i (pc := 583) C (st := [.int r]) (As := []) (k_M_bill hDR hRJ) pk_X10_bill wd_23_0 ⟨Nat.le_of_ble_eq_true rfl, Nat.le_of_ble_eq_true rfl⟩ ⟨rfl, rfl⟩ ⟨Nat.le_of_ble_eq_true rfl, Nat.le_of_ble_eq_true rfl⟩ rfl rfl (Nat.le_of_ble_eq_true rfl) dL_law_583 ?_
  exact sn_icmp_eqT (pc := 586) (tgt := 848) C dL_law_586 (by decide) rfl hk
def Op_debate (Rel : St → St → Prop) : Prop := ∀ (X Y : St) (a1 : Int32), Rel X Y → ∃ (r : Int32) (X2 : St) (Y2 : St), jT_debate X a1 = some (r, X2) ∧ jM_debate Y a1 = some (r, Y2) ∧ Rel X2 Y2
set_option maxHeartbeats 4000000 in
set_option maxRecDepth 100000 in
theorem law_debate {p : Program} {l : Launch} {e : Env} {s : State} {m : MethodId} {below : List Frame} {meth : Method} {c : Code} {D : va_G} {cy : Nat → ClassId} {A : Nat → Prop} {ad ae : Nat → Nat} {b L : Nat} {xs : Nat → Int32} {Q : State → Prop} (C : Cn p s m #[Value.ref b] meth c D cy cL_law 4 RL ret A) (hX : va_X b L xs s s.heap) (hbl : b < s.heap.size) (hbA : ¬ A b) (hDL : ∀ X, va_D (inW (wC cy ad X00)) (wC cy ad X)) (hDR : ∀ X, va_D (inW (wM cy ae X00)) (wM cy ae X)) {Rel : St → St → Prop} (hop : Op_debate Rel) {X Y : St} (hr : Rel X Y) {x3 : Int32} (h1 : vp_in (x3 + (1 : Int32)) L) (hk0 : ∀ X2 Y2, Rel X2 Y2 → SN p l e room_1 s m #[Value.ref b] below meth c D 4 A Q 41 1474 (wC cy ad X2 ++ wM cy ae Y2) [(0, .ref b), (1, .ref (ad 0)), (2, .ref (ae 0)), (3, .int x3)] 848 []) : SN p l e room_1 s m #[Value.ref b] below meth c D 4 A Q 41 1474 (wC cy ad X ++ wM cy ae Y) [(0, .ref b), (1, .ref (ad 0)), (2, .ref (ae 0)), (3, .int x3)] 591 [] := by
  obtain ⟨r, X2, Y2, hLJ, hRJ, hrel⟩ := hop X Y (xs (x3 + (1 : Int32)).toNatClampNeg) hr
  have hk := hk0 X2 Y2 hrel
  refine sn_aload_n (pc := 591) C 1 dL_law_591 rfl rfl ?_
  refine sn_aload_n (pc := 592) C 0 dL_law_592 rfl rfl ?_
  refine sn_iload_n (pc := 593) C 3 dL_law_593 rfl rfl ?_
  refine sn_iconst (pc := 594) C (v := (1 : Int32)) dL_law_594 (by decide) ?_
  refine sn_iadd (pc := 595) C dL_law_595 ?_
  refine sn_sld (pc := 596) C hX hbl hbA h1 dL_law_596 ?_
  refine sn_callL_i (pc := 597) C (st := []) (As := [.int (xs (x3 + (1 : Int32)).toNatClampNeg)]) (k_T_debate hDL hLJ) pk_X9_debate wd_23_8 ⟨Nat.le_of_ble_eq_true rfl, Nat.le_of_ble_eq_true rfl⟩ ⟨rfl, rfl⟩ ⟨Nat.le_of_ble_eq_true rfl, Nat.le_of_ble_eq_true rfl⟩ rfl rfl (Nat.le_of_ble_eq_true rfl) dL_law_597 ?_
  refine sn_aload_n (pc := 600) C 2 dL_law_600 rfl rfl ?_
  refine sn_aload_n (pc := 601) C 0 dL_law_601 rfl rfl ?_
  refine sn_iload_n (pc := 602) C 3 dL_law_602 rfl rfl ?_
  refine sn_iconst (pc := 603) C (v := (1 : Int32)) dL_law_603 (by decide) ?_
  refine sn_iadd (pc := 604) C dL_law_604 ?_
  refine sn_sld (pc := 605) C hX hbl hbA h1 dL_law_605 ?_
  refine sn_callR_i (pc := 606) C (st := [.int r]) (As := [.int (xs (x3 + (1 : Int32)).toNatClampNeg)]) (k_M_debate hDR hRJ) pk_X10_debate wd_24_0 ⟨Nat.le_of_ble_eq_true rfl, Nat.le_of_ble_eq_true rfl⟩ ⟨rfl, rfl⟩ ⟨Nat.le_of_ble_eq_true rfl, Nat.le_of_ble_eq_true rfl⟩ rfl rfl (Nat.le_of_ble_eq_true rfl) dL_law_606 ?_
  exact sn_icmp_eqT (pc := 609) (tgt := 848) C dL_law_609 (by decide) rfl hk
def Op_nails (Rel : St → St → Prop) : Prop := ∀ (X Y : St), Rel X Y → ∃ (r : Int32) (X2 : St) (Y2 : St), jT_nails X = some (r, X2) ∧ jM_nails Y = some (r, Y2) ∧ Rel X2 Y2
set_option maxHeartbeats 4000000 in
set_option maxRecDepth 100000 in
theorem law_nails {p : Program} {l : Launch} {e : Env} {s : State} {m : MethodId} {below : List Frame} {meth : Method} {c : Code} {D : va_G} {cy : Nat → ClassId} {A : Nat → Prop} {ad ae : Nat → Nat} {b L : Nat} {xs : Nat → Int32} {Q : State → Prop} (C : Cn p s m #[Value.ref b] meth c D cy cL_law 4 RL ret A) (hX : va_X b L xs s s.heap) (hbl : b < s.heap.size) (hbA : ¬ A b) (hDL : ∀ X, va_D (inW (wC cy ad X00)) (wC cy ad X)) (hDR : ∀ X, va_D (inW (wM cy ae X00)) (wM cy ae X)) {Rel : St → St → Prop} (hop : Op_nails Rel) {X Y : St} (hr : Rel X Y) {x3 : Int32} (hk0 : ∀ X2 Y2, Rel X2 Y2 → SN p l e room_1 s m #[Value.ref b] below meth c D 4 A Q 41 1474 (wC cy ad X2 ++ wM cy ae Y2) [(0, .ref b), (1, .ref (ad 0)), (2, .ref (ae 0)), (3, .int x3)] 848 []) : SN p l e room_1 s m #[Value.ref b] below meth c D 4 A Q 41 1474 (wC cy ad X ++ wM cy ae Y) [(0, .ref b), (1, .ref (ad 0)), (2, .ref (ae 0)), (3, .int x3)] 614 [] := by
  obtain ⟨r, X2, Y2, hLJ, hRJ, hrel⟩ := hop X Y  hr
  have hk := hk0 X2 Y2 hrel
  refine sn_aload_n (pc := 614) C 1 dL_law_614 rfl rfl ?_
  refine sn_callL_i (pc := 615) C (st := []) (As := []) (k_T_nails hDL hLJ) pk_X9_nails wd_24_13 ⟨Nat.le_of_ble_eq_true rfl, Nat.le_of_ble_eq_true rfl⟩ ⟨rfl, rfl⟩ ⟨Nat.le_of_ble_eq_true rfl, Nat.le_of_ble_eq_true rfl⟩ rfl rfl (Nat.le_of_ble_eq_true rfl) dL_law_615 ?_
  refine sn_aload_n (pc := 618) C 2 dL_law_618 rfl rfl ?_
  refine sn_callR_i (pc := 619) C (st := [.int r]) (As := []) (k_M_nails hDR hRJ) pk_X10_nails wd_25_1 ⟨Nat.le_of_ble_eq_true rfl, Nat.le_of_ble_eq_true rfl⟩ ⟨rfl, rfl⟩ ⟨Nat.le_of_ble_eq_true rfl, Nat.le_of_ble_eq_true rfl⟩ rfl rfl (Nat.le_of_ble_eq_true rfl) dL_law_619 ?_
  exact sn_icmp_eqT (pc := 622) (tgt := 848) C dL_law_622 (by decide) rfl hk
def Op_shook (Rel : St → St → Prop) : Prop := ∀ (X Y : St), Rel X Y → ∃ (r : Int32) (X2 : St) (Y2 : St), jT_shook X = some (r, X2) ∧ jM_shook Y = some (r, Y2) ∧ Rel X2 Y2
set_option maxHeartbeats 4000000 in
set_option maxRecDepth 100000 in
theorem law_shook {p : Program} {l : Launch} {e : Env} {s : State} {m : MethodId} {below : List Frame} {meth : Method} {c : Code} {D : va_G} {cy : Nat → ClassId} {A : Nat → Prop} {ad ae : Nat → Nat} {b L : Nat} {xs : Nat → Int32} {Q : State → Prop} (C : Cn p s m #[Value.ref b] meth c D cy cL_law 4 RL ret A) (hX : va_X b L xs s s.heap) (hbl : b < s.heap.size) (hbA : ¬ A b) (hDL : ∀ X, va_D (inW (wC cy ad X00)) (wC cy ad X)) (hDR : ∀ X, va_D (inW (wM cy ae X00)) (wM cy ae X)) {Rel : St → St → Prop} (hop : Op_shook Rel) {X Y : St} (hr : Rel X Y) {x3 : Int32} (hk0 : ∀ X2 Y2, Rel X2 Y2 → SN p l e room_1 s m #[Value.ref b] below meth c D 4 A Q 41 1474 (wC cy ad X2 ++ wM cy ae Y2) [(0, .ref b), (1, .ref (ad 0)), (2, .ref (ae 0)), (3, .int x3)] 848 []) : SN p l e room_1 s m #[Value.ref b] below meth c D 4 A Q 41 1474 (wC cy ad X ++ wM cy ae Y) [(0, .ref b), (1, .ref (ad 0)), (2, .ref (ae 0)), (3, .int x3)] 627 [] := by
  obtain ⟨r, X2, Y2, hLJ, hRJ, hrel⟩ := hop X Y  hr
  have hk := hk0 X2 Y2 hrel
  refine sn_aload_n (pc := 627) C 1 dL_law_627 rfl rfl ?_
  refine sn_callL_i (pc := 628) C (st := []) (As := []) (k_T_shook hDL hLJ) pk_X9_shook wd_25_5 ⟨Nat.le_of_ble_eq_true rfl, Nat.le_of_ble_eq_true rfl⟩ ⟨rfl, rfl⟩ ⟨Nat.le_of_ble_eq_true rfl, Nat.le_of_ble_eq_true rfl⟩ rfl rfl (Nat.le_of_ble_eq_true rfl) dL_law_628 ?_
  refine sn_aload_n (pc := 631) C 2 dL_law_631 rfl rfl ?_
  refine sn_callR_i (pc := 632) C (st := [.int r]) (As := []) (k_M_shook hDR hRJ) pk_X10_shook wd_25_14 ⟨Nat.le_of_ble_eq_true rfl, Nat.le_of_ble_eq_true rfl⟩ ⟨rfl, rfl⟩ ⟨Nat.le_of_ble_eq_true rfl, Nat.le_of_ble_eq_true rfl⟩ rfl rfl (Nat.le_of_ble_eq_true rfl) dL_law_632 ?_
  exact sn_icmp_eqT (pc := 635) (tgt := 848) C dL_law_635 (by decide) rfl hk
def Op_order (Rel : St → St → Prop) : Prop := ∀ (X Y : St) (a1 : Int32) (a2 : Int32), Rel X Y → ∃ (N : Nat) (r : Int32) (X2 : St) (Y2 : St), jT_order X a1 a2 = some (r, X2) ∧ jM_order N Y a1 a2 = some (r, Y2) ∧ Rel X2 Y2
set_option maxHeartbeats 4000000 in
set_option maxRecDepth 100000 in
theorem law_order {p : Program} {l : Launch} {e : Env} {s : State} {m : MethodId} {below : List Frame} {meth : Method} {c : Code} {D : va_G} {cy : Nat → ClassId} {A : Nat → Prop} {ad ae : Nat → Nat} {b L : Nat} {xs : Nat → Int32} {Q : State → Prop} (C : Cn p s m #[Value.ref b] meth c D cy cL_law 4 RL ret A) (hX : va_X b L xs s s.heap) (hbl : b < s.heap.size) (hbA : ¬ A b) (hDL : ∀ X, va_D (inW (wC cy ad X00)) (wC cy ad X)) (hDR : ∀ X, va_D (inW (wM cy ae X00)) (wM cy ae X)) {Rel : St → St → Prop} (hop : Op_order Rel) {X Y : St} (hr : Rel X Y) {x3 : Int32} (h1 : vp_in (x3 + (1 : Int32)) L) (h2 : vp_in (x3 + (2 : Int32)) L) (hk0 : ∀ X2 Y2, Rel X2 Y2 → SN p l e room_1 s m #[Value.ref b] below meth c D 4 A Q 41 1474 (wC cy ad X2 ++ wM cy ae Y2) [(0, .ref b), (1, .ref (ad 0)), (2, .ref (ae 0)), (3, .int x3)] 848 []) : SN p l e room_1 s m #[Value.ref b] below meth c D 4 A Q 41 1474 (wC cy ad X ++ wM cy ae Y) [(0, .ref b), (1, .ref (ad 0)), (2, .ref (ae 0)), (3, .int x3)] 640 [] := by
  obtain ⟨N, r, X2, Y2, hLJ, hRJ, hrel⟩ := hop X Y (xs (x3 + (1 : Int32)).toNatClampNeg) (xs (x3 + (2 : Int32)).toNatClampNeg) hr
  have hk := hk0 X2 Y2 hrel
  refine sn_aload_n (pc := 640) C 1 dL_law_640 rfl rfl ?_
  refine sn_aload_n (pc := 641) C 0 dL_law_641 rfl rfl ?_
  refine sn_iload_n (pc := 642) C 3 dL_law_642 rfl rfl ?_
  refine sn_iconst (pc := 643) C (v := (1 : Int32)) dL_law_643 (by decide) ?_
  refine sn_iadd (pc := 644) C dL_law_644 ?_
  refine sn_sld (pc := 645) C hX hbl hbA h1 dL_law_645 ?_
  refine sn_aload_n (pc := 646) C 0 dL_law_646 rfl rfl ?_
  refine sn_iload_n (pc := 647) C 3 dL_law_647 rfl rfl ?_
  refine sn_iconst (pc := 648) C (v := (2 : Int32)) dL_law_648 (by decide) ?_
  refine sn_iadd (pc := 649) C dL_law_649 ?_
  refine sn_sld (pc := 650) C hX hbl hbA h2 dL_law_650 ?_
  refine sn_callL_i (pc := 651) C (st := []) (As := [.int (xs (x3 + (1 : Int32)).toNatClampNeg), .int (xs (x3 + (2 : Int32)).toNatClampNeg)]) (k_T_order hDL hLJ) pk_X9_order wd_25_18 ⟨Nat.le_of_ble_eq_true rfl, Nat.le_of_ble_eq_true rfl⟩ ⟨rfl, rfl⟩ ⟨Nat.le_of_ble_eq_true rfl, Nat.le_of_ble_eq_true rfl⟩ rfl rfl (Nat.le_of_ble_eq_true rfl) dL_law_651 ?_
  refine sn_aload_n (pc := 654) C 2 dL_law_654 rfl rfl ?_
  refine sn_aload_n (pc := 655) C 0 dL_law_655 rfl rfl ?_
  refine sn_iload_n (pc := 656) C 3 dL_law_656 rfl rfl ?_
  refine sn_iconst (pc := 657) C (v := (1 : Int32)) dL_law_657 (by decide) ?_
  refine sn_iadd (pc := 658) C dL_law_658 ?_
  refine sn_sld (pc := 659) C hX hbl hbA h1 dL_law_659 ?_
  refine sn_aload_n (pc := 660) C 0 dL_law_660 rfl rfl ?_
  refine sn_iload_n (pc := 661) C 3 dL_law_661 rfl rfl ?_
  refine sn_iconst (pc := 662) C (v := (2 : Int32)) dL_law_662 (by decide) ?_
  refine sn_iadd (pc := 663) C dL_law_663 ?_
  refine sn_sld (pc := 664) C hX hbl hbA h2 dL_law_664 ?_
  refine sn_callR_i (pc := 665) C (st := [.int r]) (As := [.int (xs (x3 + (1 : Int32)).toNatClampNeg), .int (xs (x3 + (2 : Int32)).toNatClampNeg)]) (k_M_order hDR hRJ) pk_X10_order wd_26_6 ⟨Nat.le_of_ble_eq_true rfl, Nat.le_of_ble_eq_true rfl⟩ ⟨rfl, rfl⟩ ⟨Nat.le_of_ble_eq_true rfl, Nat.le_of_ble_eq_true rfl⟩ rfl rfl (Nat.le_of_ble_eq_true rfl) dL_law_665 ?_
  exact sn_icmp_eqT (pc := 668) (tgt := 848) C dL_law_668 (by decide) rfl hk
def Op_laws (Rel : St → St → Prop) : Prop := ∀ (X Y : St) (a1 : Int32) (a2 : Int32), Rel X Y → ∃ (N : Nat) (r : Int32) (X2 : St) (Y2 : St), jT_laws X a1 a2 = some (r, X2) ∧ jM_laws N Y a1 a2 = some (r, Y2) ∧ Rel X2 Y2
set_option maxHeartbeats 4000000 in
set_option maxRecDepth 100000 in
theorem law_laws {p : Program} {l : Launch} {e : Env} {s : State} {m : MethodId} {below : List Frame} {meth : Method} {c : Code} {D : va_G} {cy : Nat → ClassId} {A : Nat → Prop} {ad ae : Nat → Nat} {b L : Nat} {xs : Nat → Int32} {Q : State → Prop} (C : Cn p s m #[Value.ref b] meth c D cy cL_law 4 RL ret A) (hX : va_X b L xs s s.heap) (hbl : b < s.heap.size) (hbA : ¬ A b) (hDL : ∀ X, va_D (inW (wC cy ad X00)) (wC cy ad X)) (hDR : ∀ X, va_D (inW (wM cy ae X00)) (wM cy ae X)) {Rel : St → St → Prop} (hop : Op_laws Rel) {X Y : St} (hr : Rel X Y) {x3 : Int32} (h1 : vp_in (x3 + (1 : Int32)) L) (h2 : vp_in (x3 + (2 : Int32)) L) (hk0 : ∀ X2 Y2, Rel X2 Y2 → SN p l e room_1 s m #[Value.ref b] below meth c D 4 A Q 41 1474 (wC cy ad X2 ++ wM cy ae Y2) [(0, .ref b), (1, .ref (ad 0)), (2, .ref (ae 0)), (3, .int x3)] 848 []) : SN p l e room_1 s m #[Value.ref b] below meth c D 4 A Q 41 1474 (wC cy ad X ++ wM cy ae Y) [(0, .ref b), (1, .ref (ad 0)), (2, .ref (ae 0)), (3, .int x3)] 673 [] := by
  obtain ⟨N, r, X2, Y2, hLJ, hRJ, hrel⟩ := hop X Y (xs (x3 + (1 : Int32)).toNatClampNeg) (xs (x3 + (2 : Int32)).toNatClampNeg) hr
  have hk := hk0 X2 Y2 hrel
  refine sn_aload_n (pc := 673) C 1 dL_law_673 rfl rfl ?_
  refine sn_aload_n (pc := 674) C 0 dL_law_674 rfl rfl ?_
  refine sn_iload_n (pc := 675) C 3 dL_law_675 rfl rfl ?_
  refine sn_iconst (pc := 676) C (v := (1 : Int32)) dL_law_676 (by decide) ?_
  refine sn_iadd (pc := 677) C dL_law_677 ?_
  refine sn_sld (pc := 678) C hX hbl hbA h1 dL_law_678 ?_
  refine sn_aload_n (pc := 679) C 0 dL_law_679 rfl rfl ?_
  refine sn_iload_n (pc := 680) C 3 dL_law_680 rfl rfl ?_
  refine sn_iconst (pc := 681) C (v := (2 : Int32)) dL_law_681 (by decide) ?_
  refine sn_iadd (pc := 682) C dL_law_682 ?_
  refine sn_sld (pc := 683) C hX hbl hbA h2 dL_law_683 ?_
  refine sn_callL_i (pc := 684) C (st := []) (As := [.int (xs (x3 + (1 : Int32)).toNatClampNeg), .int (xs (x3 + (2 : Int32)).toNatClampNeg)]) (k_T_laws hDL hLJ) pk_X9_laws wd_27_3 ⟨Nat.le_of_ble_eq_true rfl, Nat.le_of_ble_eq_true rfl⟩ ⟨rfl, rfl⟩ ⟨Nat.le_of_ble_eq_true rfl, Nat.le_of_ble_eq_true rfl⟩ rfl rfl (Nat.le_of_ble_eq_true rfl) dL_law_684 ?_
  refine sn_aload_n (pc := 687) C 2 dL_law_687 rfl rfl ?_
  refine sn_aload_n (pc := 688) C 0 dL_law_688 rfl rfl ?_
  refine sn_iload_n (pc := 689) C 3 dL_law_689 rfl rfl ?_
  refine sn_iconst (pc := 690) C (v := (1 : Int32)) dL_law_690 (by decide) ?_
  refine sn_iadd (pc := 691) C dL_law_691 ?_
  refine sn_sld (pc := 692) C hX hbl hbA h1 dL_law_692 ?_
  refine sn_aload_n (pc := 693) C 0 dL_law_693 rfl rfl ?_
  refine sn_iload_n (pc := 694) C 3 dL_law_694 rfl rfl ?_
  refine sn_iconst (pc := 695) C (v := (2 : Int32)) dL_law_695 (by decide) ?_
  refine sn_iadd (pc := 696) C dL_law_696 ?_
  refine sn_sld (pc := 697) C hX hbl hbA h2 dL_law_697 ?_
  refine sn_callR_i (pc := 698) C (st := [.int r]) (As := [.int (xs (x3 + (1 : Int32)).toNatClampNeg), .int (xs (x3 + (2 : Int32)).toNatClampNeg)]) (k_M_laws hDR hRJ) pk_X10_laws wd_28_18 ⟨Nat.le_of_ble_eq_true rfl, Nat.le_of_ble_eq_true rfl⟩ ⟨rfl, rfl⟩ ⟨Nat.le_of_ble_eq_true rfl, Nat.le_of_ble_eq_true rfl⟩ rfl rfl (Nat.le_of_ble_eq_true rfl) dL_law_698 ?_
  exact sn_icmp_eqT (pc := 701) (tgt := 848) C dL_law_701 (by decide) rfl hk
def Op_changed (Rel : St → St → Prop) : Prop := ∀ (X Y : St), Rel X Y → ∃ (N : Nat) (r : Int32) (X2 : St) (Y2 : St), jT_changed X = some (r, X2) ∧ jM_changed N Y = some (r, Y2) ∧ Rel X2 Y2
set_option maxHeartbeats 4000000 in
set_option maxRecDepth 100000 in
theorem law_changed {p : Program} {l : Launch} {e : Env} {s : State} {m : MethodId} {below : List Frame} {meth : Method} {c : Code} {D : va_G} {cy : Nat → ClassId} {A : Nat → Prop} {ad ae : Nat → Nat} {b L : Nat} {xs : Nat → Int32} {Q : State → Prop} (C : Cn p s m #[Value.ref b] meth c D cy cL_law 4 RL ret A) (hX : va_X b L xs s s.heap) (hbl : b < s.heap.size) (hbA : ¬ A b) (hDL : ∀ X, va_D (inW (wC cy ad X00)) (wC cy ad X)) (hDR : ∀ X, va_D (inW (wM cy ae X00)) (wM cy ae X)) {Rel : St → St → Prop} (hop : Op_changed Rel) {X Y : St} (hr : Rel X Y) {x3 : Int32} (hk0 : ∀ X2 Y2, Rel X2 Y2 → SN p l e room_1 s m #[Value.ref b] below meth c D 4 A Q 41 1474 (wC cy ad X2 ++ wM cy ae Y2) [(0, .ref b), (1, .ref (ad 0)), (2, .ref (ae 0)), (3, .int x3)] 848 []) : SN p l e room_1 s m #[Value.ref b] below meth c D 4 A Q 41 1474 (wC cy ad X ++ wM cy ae Y) [(0, .ref b), (1, .ref (ad 0)), (2, .ref (ae 0)), (3, .int x3)] 706 [] := by
  obtain ⟨N, r, X2, Y2, hLJ, hRJ, hrel⟩ := hop X Y  hr
  have hk := hk0 X2 Y2 hrel
  refine sn_aload_n (pc := 706) C 1 dL_law_706 rfl rfl ?_
  refine sn_callL_i (pc := 707) C (st := []) (As := []) (k_T_changed hDL hLJ) pk_X9_changed wd_28_22 ⟨Nat.le_of_ble_eq_true rfl, Nat.le_of_ble_eq_true rfl⟩ ⟨rfl, rfl⟩ ⟨Nat.le_of_ble_eq_true rfl, Nat.le_of_ble_eq_true rfl⟩ rfl rfl (Nat.le_of_ble_eq_true rfl) dL_law_707 ?_
  refine sn_aload_n (pc := 710) C 2 dL_law_710 rfl rfl ?_
  refine sn_callR_i (pc := 711) C (st := [.int r]) (As := []) (k_M_changed hDR hRJ) pk_X10_changed wd_29_12 ⟨Nat.le_of_ble_eq_true rfl, Nat.le_of_ble_eq_true rfl⟩ ⟨rfl, rfl⟩ ⟨Nat.le_of_ble_eq_true rfl, Nat.le_of_ble_eq_true rfl⟩ rfl rfl (Nat.le_of_ble_eq_true rfl) dL_law_711 ?_
  exact sn_icmp_eqT (pc := 714) (tgt := 848) C dL_law_714 (by decide) rfl hk
def Op_midnight (Rel : St → St → Prop) : Prop := ∀ (X Y : St) (a1 : Int32), Rel X Y → ∃ (N : Nat) (r : Int32) (X2 : St) (Y2 : St), jT_midnight X a1 = some (r, X2) ∧ jM_midnight N Y a1 = some (r, Y2) ∧ Rel X2 Y2
set_option maxHeartbeats 4000000 in
set_option maxRecDepth 100000 in
theorem law_midnight {p : Program} {l : Launch} {e : Env} {s : State} {m : MethodId} {below : List Frame} {meth : Method} {c : Code} {D : va_G} {cy : Nat → ClassId} {A : Nat → Prop} {ad ae : Nat → Nat} {b L : Nat} {xs : Nat → Int32} {Q : State → Prop} (C : Cn p s m #[Value.ref b] meth c D cy cL_law 4 RL ret A) (hX : va_X b L xs s s.heap) (hbl : b < s.heap.size) (hbA : ¬ A b) (hDL : ∀ X, va_D (inW (wC cy ad X00)) (wC cy ad X)) (hDR : ∀ X, va_D (inW (wM cy ae X00)) (wM cy ae X)) {Rel : St → St → Prop} (hop : Op_midnight Rel) {X Y : St} (hr : Rel X Y) {x3 : Int32} (h1 : vp_in (x3 + (1 : Int32)) L) (hk0 : ∀ X2 Y2, Rel X2 Y2 → SN p l e room_1 s m #[Value.ref b] below meth c D 4 A Q 41 1474 (wC cy ad X2 ++ wM cy ae Y2) [(0, .ref b), (1, .ref (ad 0)), (2, .ref (ae 0)), (3, .int x3)] 848 []) : SN p l e room_1 s m #[Value.ref b] below meth c D 4 A Q 41 1474 (wC cy ad X ++ wM cy ae Y) [(0, .ref b), (1, .ref (ad 0)), (2, .ref (ae 0)), (3, .int x3)] 719 [] := by
  obtain ⟨N, r, X2, Y2, hLJ, hRJ, hrel⟩ := hop X Y (xs (x3 + (1 : Int32)).toNatClampNeg) hr
  have hk := hk0 X2 Y2 hrel
  refine sn_aload_n (pc := 719) C 1 dL_law_719 rfl rfl ?_
  refine sn_aload_n (pc := 720) C 0 dL_law_720 rfl rfl ?_
  refine sn_iload_n (pc := 721) C 3 dL_law_721 rfl rfl ?_
  refine sn_iconst (pc := 722) C (v := (1 : Int32)) dL_law_722 (by decide) ?_
  refine sn_iadd (pc := 723) C dL_law_723 ?_
  refine sn_sld (pc := 724) C hX hbl hbA h1 dL_law_724 ?_
  refine sn_callL_i (pc := 725) C (st := []) (As := [.int (xs (x3 + (1 : Int32)).toNatClampNeg)]) (k_T_midnight hDL hLJ) pk_X9_midnight wd_30_2 ⟨Nat.le_of_ble_eq_true rfl, Nat.le_of_ble_eq_true rfl⟩ ⟨rfl, rfl⟩ ⟨Nat.le_of_ble_eq_true rfl, Nat.le_of_ble_eq_true rfl⟩ rfl rfl (Nat.le_of_ble_eq_true rfl) dL_law_725 ?_
  refine sn_aload_n (pc := 728) C 2 dL_law_728 rfl rfl ?_
  refine sn_aload_n (pc := 729) C 0 dL_law_729 rfl rfl ?_
  refine sn_iload_n (pc := 730) C 3 dL_law_730 rfl rfl ?_
  refine sn_iconst (pc := 731) C (v := (1 : Int32)) dL_law_731 (by decide) ?_
  refine sn_iadd (pc := 732) C dL_law_732 ?_
  refine sn_sld (pc := 733) C hX hbl hbA h1 dL_law_733 ?_
  refine sn_callR_i (pc := 734) C (st := [.int r]) (As := [.int (xs (x3 + (1 : Int32)).toNatClampNeg)]) (k_M_midnight hDR hRJ) pk_X10_midnight wd_30_17 ⟨Nat.le_of_ble_eq_true rfl, Nat.le_of_ble_eq_true rfl⟩ ⟨rfl, rfl⟩ ⟨Nat.le_of_ble_eq_true rfl, Nat.le_of_ble_eq_true rfl⟩ rfl rfl (Nat.le_of_ble_eq_true rfl) dL_law_734 ?_
  exact sn_icmp_eqT (pc := 737) (tgt := 848) C dL_law_737 (by decide) rfl hk
def Op_sessions (Rel : St → St → Prop) : Prop := ∀ (X Y : St) (a1 : Int32) (a2 : Int32) (a3 : Int32), Rel X Y → ∃ (r : Int32) (Y2 : St), jT_sessions X a1 a2 a3 = some r ∧ jM_sessions Y a1 a2 a3 = some (r, Y2) ∧ Rel X Y2
set_option maxHeartbeats 4000000 in
set_option maxRecDepth 100000 in
theorem law_sessions {p : Program} {l : Launch} {e : Env} {s : State} {m : MethodId} {below : List Frame} {meth : Method} {c : Code} {D : va_G} {cy : Nat → ClassId} {A : Nat → Prop} {ad ae : Nat → Nat} {b L : Nat} {xs : Nat → Int32} {Q : State → Prop} (C : Cn p s m #[Value.ref b] meth c D cy cL_law 4 RL ret A) (hX : va_X b L xs s s.heap) (hbl : b < s.heap.size) (hbA : ¬ A b) (hDL : ∀ X, va_D (inW (wC cy ad X00)) (wC cy ad X)) (hDR : ∀ X, va_D (inW (wM cy ae X00)) (wM cy ae X)) {Rel : St → St → Prop} (hop : Op_sessions Rel) {X Y : St} (hr : Rel X Y) {x3 : Int32} (h1 : vp_in (x3 + (1 : Int32)) L) (h2 : vp_in (x3 + (2 : Int32)) L) (h3 : vp_in (x3 + (3 : Int32)) L) (hk0 : ∀ X2 Y2, Rel X2 Y2 → SN p l e room_1 s m #[Value.ref b] below meth c D 4 A Q 41 1474 (wC cy ad X2 ++ wM cy ae Y2) [(0, .ref b), (1, .ref (ad 0)), (2, .ref (ae 0)), (3, .int x3)] 848 []) : SN p l e room_1 s m #[Value.ref b] below meth c D 4 A Q 41 1474 (wC cy ad X ++ wM cy ae Y) [(0, .ref b), (1, .ref (ad 0)), (2, .ref (ae 0)), (3, .int x3)] 742 [] := by
  obtain ⟨r, Y2, hLJ, hRJ, hrel⟩ := hop X Y (xs (x3 + (1 : Int32)).toNatClampNeg) (xs (x3 + (2 : Int32)).toNatClampNeg) (xs (x3 + (3 : Int32)).toNatClampNeg) hr
  have hk := hk0 X Y2 hrel
  refine sn_aload_n (pc := 742) C 1 dL_law_742 rfl rfl ?_
  refine sn_aload_n (pc := 743) C 0 dL_law_743 rfl rfl ?_
  refine sn_iload_n (pc := 744) C 3 dL_law_744 rfl rfl ?_
  refine sn_iconst (pc := 745) C (v := (1 : Int32)) dL_law_745 (by decide) ?_
  refine sn_iadd (pc := 746) C dL_law_746 ?_
  refine sn_sld (pc := 747) C hX hbl hbA h1 dL_law_747 ?_
  refine sn_aload_n (pc := 748) C 0 dL_law_748 rfl rfl ?_
  refine sn_iload_n (pc := 749) C 3 dL_law_749 rfl rfl ?_
  refine sn_iconst (pc := 750) C (v := (2 : Int32)) dL_law_750 (by decide) ?_
  refine sn_iadd (pc := 751) C dL_law_751 ?_
  refine sn_sld (pc := 752) C hX hbl hbA h2 dL_law_752 ?_
  refine sn_aload_n (pc := 753) C 0 dL_law_753 rfl rfl ?_
  refine sn_iload_n (pc := 754) C 3 dL_law_754 rfl rfl ?_
  refine sn_iconst (pc := 755) C (v := (3 : Int32)) dL_law_755 (by decide) ?_
  refine sn_iadd (pc := 756) C dL_law_756 ?_
  refine sn_sld (pc := 757) C hX hbl hbA h3 dL_law_757 ?_
  refine sn_callL_i (pc := 758) C (st := []) (As := [.int (xs (x3 + (1 : Int32)).toNatClampNeg), .int (xs (x3 + (2 : Int32)).toNatClampNeg), .int (xs (x3 + (3 : Int32)).toNatClampNeg)]) (k_T_sessions hDL hLJ) pk_X9_sessions wd_32_1 ⟨Nat.le_of_ble_eq_true rfl, Nat.le_of_ble_eq_true rfl⟩ ⟨rfl, rfl⟩ ⟨Nat.le_of_ble_eq_true rfl, Nat.le_of_ble_eq_true rfl⟩ rfl rfl (Nat.le_of_ble_eq_true rfl) dL_law_758 ?_
  refine sn_aload_n (pc := 761) C 2 dL_law_761 rfl rfl ?_
  refine sn_aload_n (pc := 762) C 0 dL_law_762 rfl rfl ?_
  refine sn_iload_n (pc := 763) C 3 dL_law_763 rfl rfl ?_
  refine sn_iconst (pc := 764) C (v := (1 : Int32)) dL_law_764 (by decide) ?_
  refine sn_iadd (pc := 765) C dL_law_765 ?_
  refine sn_sld (pc := 766) C hX hbl hbA h1 dL_law_766 ?_
  refine sn_aload_n (pc := 767) C 0 dL_law_767 rfl rfl ?_
  refine sn_iload_n (pc := 768) C 3 dL_law_768 rfl rfl ?_
  refine sn_iconst (pc := 769) C (v := (2 : Int32)) dL_law_769 (by decide) ?_
  refine sn_iadd (pc := 770) C dL_law_770 ?_
  refine sn_sld (pc := 771) C hX hbl hbA h2 dL_law_771 ?_
  refine sn_aload_n (pc := 772) C 0 dL_law_772 rfl rfl ?_
  refine sn_iload_n (pc := 773) C 3 dL_law_773 rfl rfl ?_
  refine sn_iconst (pc := 774) C (v := (3 : Int32)) dL_law_774 (by decide) ?_
  refine sn_iadd (pc := 775) C dL_law_775 ?_
  refine sn_sld (pc := 776) C hX hbl hbA h3 dL_law_776 ?_
  refine sn_callR_i (pc := 777) C (st := [.int r]) (As := [.int (xs (x3 + (1 : Int32)).toNatClampNeg), .int (xs (x3 + (2 : Int32)).toNatClampNeg), .int (xs (x3 + (3 : Int32)).toNatClampNeg)]) (k_M_sessions hDR hRJ) pk_X10_sessions wd_32_9 ⟨Nat.le_of_ble_eq_true rfl, Nat.le_of_ble_eq_true rfl⟩ ⟨rfl, rfl⟩ ⟨Nat.le_of_ble_eq_true rfl, Nat.le_of_ble_eq_true rfl⟩ rfl rfl (Nat.le_of_ble_eq_true rfl) dL_law_777 ?_
  exact sn_icmp_eqT (pc := 780) (tgt := 848) C dL_law_780 (by decide) rfl hk
def Op_image (Rel : St → St → Prop) : Prop := ∀ (X Y : St), Rel X Y → ∃ (r : Int32) (X2 : St) (Y2 : St), jT_image X = some (r, X2) ∧ jM_image Y = some (r, Y2) ∧ Rel X2 Y2
set_option maxHeartbeats 4000000 in
set_option maxRecDepth 100000 in
theorem law_image {p : Program} {l : Launch} {e : Env} {s : State} {m : MethodId} {below : List Frame} {meth : Method} {c : Code} {D : va_G} {cy : Nat → ClassId} {A : Nat → Prop} {ad ae : Nat → Nat} {b L : Nat} {xs : Nat → Int32} {Q : State → Prop} (C : Cn p s m #[Value.ref b] meth c D cy cL_law 4 RL ret A) (hX : va_X b L xs s s.heap) (hbl : b < s.heap.size) (hbA : ¬ A b) (hDL : ∀ X, va_D (inW (wC cy ad X00)) (wC cy ad X)) (hDR : ∀ X, va_D (inW (wM cy ae X00)) (wM cy ae X)) {Rel : St → St → Prop} (hop : Op_image Rel) {X Y : St} (hr : Rel X Y) {x3 : Int32} (hk0 : ∀ X2 Y2, Rel X2 Y2 → SN p l e room_1 s m #[Value.ref b] below meth c D 4 A Q 41 1474 (wC cy ad X2 ++ wM cy ae Y2) [(0, .ref b), (1, .ref (ad 0)), (2, .ref (ae 0)), (3, .int x3)] 848 []) : SN p l e room_1 s m #[Value.ref b] below meth c D 4 A Q 41 1474 (wC cy ad X ++ wM cy ae Y) [(0, .ref b), (1, .ref (ad 0)), (2, .ref (ae 0)), (3, .int x3)] 785 [] := by
  obtain ⟨r, X2, Y2, hLJ, hRJ, hrel⟩ := hop X Y  hr
  have hk := hk0 X2 Y2 hrel
  refine sn_aload_n (pc := 785) C 1 dL_law_785 rfl rfl ?_
  refine sn_callL_i (pc := 786) C (st := []) (As := []) (k_T_image hDL hLJ) pk_X9_image wd_32_23 ⟨Nat.le_of_ble_eq_true rfl, Nat.le_of_ble_eq_true rfl⟩ ⟨rfl, rfl⟩ ⟨Nat.le_of_ble_eq_true rfl, Nat.le_of_ble_eq_true rfl⟩ rfl rfl (Nat.le_of_ble_eq_true rfl) dL_law_786 ?_
  refine sn_aload_n (pc := 789) C 2 dL_law_789 rfl rfl ?_
  refine sn_callR_i (pc := 790) C (st := [.int r]) (As := []) (k_M_image hDR hRJ) pk_X10_image wd_33_10 ⟨Nat.le_of_ble_eq_true rfl, Nat.le_of_ble_eq_true rfl⟩ ⟨rfl, rfl⟩ ⟨Nat.le_of_ble_eq_true rfl, Nat.le_of_ble_eq_true rfl⟩ rfl rfl (Nat.le_of_ble_eq_true rfl) dL_law_790 ?_
  exact sn_icmp_eqT (pc := 793) (tgt := 848) C dL_law_793 (by decide) rfl hk
def Op_restore (Rel : St → St → Prop) : Prop := ∀ (X Y : St), Rel X Y → ∃ (r : Int32) (X2 : St) (Y2 : St), jT_restore X = some (r, X2) ∧ jM_restore Y = some (r, Y2) ∧ Rel X2 Y2
set_option maxHeartbeats 4000000 in
set_option maxRecDepth 100000 in
theorem law_restore {p : Program} {l : Launch} {e : Env} {s : State} {m : MethodId} {below : List Frame} {meth : Method} {c : Code} {D : va_G} {cy : Nat → ClassId} {A : Nat → Prop} {ad ae : Nat → Nat} {b L : Nat} {xs : Nat → Int32} {Q : State → Prop} (C : Cn p s m #[Value.ref b] meth c D cy cL_law 4 RL ret A) (hX : va_X b L xs s s.heap) (hbl : b < s.heap.size) (hbA : ¬ A b) (hDL : ∀ X, va_D (inW (wC cy ad X00)) (wC cy ad X)) (hDR : ∀ X, va_D (inW (wM cy ae X00)) (wM cy ae X)) {Rel : St → St → Prop} (hop : Op_restore Rel) {X Y : St} (hr : Rel X Y) {x3 : Int32} (hk0 : ∀ X2 Y2, Rel X2 Y2 → SN p l e room_1 s m #[Value.ref b] below meth c D 4 A Q 41 1474 (wC cy ad X2 ++ wM cy ae Y2) [(0, .ref b), (1, .ref (ad 0)), (2, .ref (ae 0)), (3, .int x3)] 848 []) : SN p l e room_1 s m #[Value.ref b] below meth c D 4 A Q 41 1474 (wC cy ad X ++ wM cy ae Y) [(0, .ref b), (1, .ref (ad 0)), (2, .ref (ae 0)), (3, .int x3)] 798 [] := by
  obtain ⟨r, X2, Y2, hLJ, hRJ, hrel⟩ := hop X Y  hr
  have hk := hk0 X2 Y2 hrel
  refine sn_aload_n (pc := 798) C 1 dL_law_798 rfl rfl ?_
  refine sn_callL_i (pc := 799) C (st := []) (As := []) (k_T_restore hDL hLJ) pk_X9_restore wd_33_15 ⟨Nat.le_of_ble_eq_true rfl, Nat.le_of_ble_eq_true rfl⟩ ⟨rfl, rfl⟩ ⟨Nat.le_of_ble_eq_true rfl, Nat.le_of_ble_eq_true rfl⟩ rfl rfl (Nat.le_of_ble_eq_true rfl) dL_law_799 ?_
  refine sn_aload_n (pc := 802) C 2 dL_law_802 rfl rfl ?_
  refine sn_callR_i (pc := 803) C (st := [.int r]) (As := []) (k_M_restore hDR hRJ) pk_X10_restore wd_34_3 ⟨Nat.le_of_ble_eq_true rfl, Nat.le_of_ble_eq_true rfl⟩ ⟨rfl, rfl⟩ ⟨Nat.le_of_ble_eq_true rfl, Nat.le_of_ble_eq_true rfl⟩ rfl rfl (Nat.le_of_ble_eq_true rfl) dL_law_803 ?_
  exact sn_icmp_eqT (pc := 806) (tgt := 848) C dL_law_806 (by decide) rfl hk
def Op_count (Rel : St → St → Prop) : Prop := ∀ (X Y : St) (a1 : Int32), Rel X Y → ∃ (r : Int32), jT_count X a1 = some r ∧ jM_count Y a1 = some r
set_option maxHeartbeats 4000000 in
set_option maxRecDepth 100000 in
theorem law_count {p : Program} {l : Launch} {e : Env} {s : State} {m : MethodId} {below : List Frame} {meth : Method} {c : Code} {D : va_G} {cy : Nat → ClassId} {A : Nat → Prop} {ad ae : Nat → Nat} {b L : Nat} {xs : Nat → Int32} {Q : State → Prop} (C : Cn p s m #[Value.ref b] meth c D cy cL_law 4 RL ret A) (hX : va_X b L xs s s.heap) (hbl : b < s.heap.size) (hbA : ¬ A b) (hDL : ∀ X, va_D (inW (wC cy ad X00)) (wC cy ad X)) (hDR : ∀ X, va_D (inW (wM cy ae X00)) (wM cy ae X)) {Rel : St → St → Prop} (hop : Op_count Rel) {X Y : St} (hr : Rel X Y) {x3 : Int32} (h1 : vp_in (x3 + (1 : Int32)) L) (hk0 : ∀ X2 Y2, Rel X2 Y2 → SN p l e room_1 s m #[Value.ref b] below meth c D 4 A Q 41 1474 (wC cy ad X2 ++ wM cy ae Y2) [(0, .ref b), (1, .ref (ad 0)), (2, .ref (ae 0)), (3, .int x3)] 848 []) : SN p l e room_1 s m #[Value.ref b] below meth c D 4 A Q 41 1474 (wC cy ad X ++ wM cy ae Y) [(0, .ref b), (1, .ref (ad 0)), (2, .ref (ae 0)), (3, .int x3)] 811 [] := by
  obtain ⟨r, hLJ, hRJ⟩ := hop X Y (xs (x3 + (1 : Int32)).toNatClampNeg) hr
  have hk := hk0 X Y hr
  refine sn_aload_n (pc := 811) C 1 dL_law_811 rfl rfl ?_
  refine sn_aload_n (pc := 812) C 0 dL_law_812 rfl rfl ?_
  refine sn_iload_n (pc := 813) C 3 dL_law_813 rfl rfl ?_
  refine sn_iconst (pc := 814) C (v := (1 : Int32)) dL_law_814 (by decide) ?_
  refine sn_iadd (pc := 815) C dL_law_815 ?_
  refine sn_sld (pc := 816) C hX hbl hbA h1 dL_law_816 ?_
  refine sn_callL_i (pc := 817) C (st := []) (As := [.int (xs (x3 + (1 : Int32)).toNatClampNeg)]) (k_T_count hDL hLJ) pk_X9_count wd_34_7 ⟨Nat.le_of_ble_eq_true rfl, Nat.le_of_ble_eq_true rfl⟩ ⟨rfl, rfl⟩ ⟨Nat.le_of_ble_eq_true rfl, Nat.le_of_ble_eq_true rfl⟩ rfl rfl (Nat.le_of_ble_eq_true rfl) dL_law_817 ?_
  refine sn_aload_n (pc := 820) C 2 dL_law_820 rfl rfl ?_
  refine sn_aload_n (pc := 821) C 0 dL_law_821 rfl rfl ?_
  refine sn_iload_n (pc := 822) C 3 dL_law_822 rfl rfl ?_
  refine sn_iconst (pc := 823) C (v := (1 : Int32)) dL_law_823 (by decide) ?_
  refine sn_iadd (pc := 824) C dL_law_824 ?_
  refine sn_sld (pc := 825) C hX hbl hbA h1 dL_law_825 ?_
  refine sn_callR_i (pc := 826) C (st := [.int r]) (As := [.int (xs (x3 + (1 : Int32)).toNatClampNeg)]) (k_M_count hDR hRJ) pk_X10_count wd_34_15 ⟨Nat.le_of_ble_eq_true rfl, Nat.le_of_ble_eq_true rfl⟩ ⟨rfl, rfl⟩ ⟨Nat.le_of_ble_eq_true rfl, Nat.le_of_ble_eq_true rfl⟩ rfl rfl (Nat.le_of_ble_eq_true rfl) dL_law_826 ?_
  exact sn_icmp_eqT (pc := 829) (tgt := 848) C dL_law_829 (by decide) rfl hk
def Op_digest (Rel : St → St → Prop) : Prop := ∀ (X Y : St), Rel X Y → ∃ (N : Nat) (r : Int64) (X2 : St) (Y2 : St), jT_digest X = some (r, X2) ∧ jM_digest N Y = some (r, Y2) ∧ Rel X2 Y2
set_option maxHeartbeats 4000000 in
set_option maxRecDepth 100000 in
theorem law_digest {p : Program} {l : Launch} {e : Env} {s : State} {m : MethodId} {below : List Frame} {meth : Method} {c : Code} {D : va_G} {cy : Nat → ClassId} {A : Nat → Prop} {ad ae : Nat → Nat} {b L : Nat} {xs : Nat → Int32} {Q : State → Prop} (C : Cn p s m #[Value.ref b] meth c D cy cL_law 4 RL ret A) (hX : va_X b L xs s s.heap) (hbl : b < s.heap.size) (hbA : ¬ A b) (hDL : ∀ X, va_D (inW (wC cy ad X00)) (wC cy ad X)) (hDR : ∀ X, va_D (inW (wM cy ae X00)) (wM cy ae X)) {Rel : St → St → Prop} (hop : Op_digest Rel) {X Y : St} (hr : Rel X Y) {x3 : Int32} (hk0 : ∀ X2 Y2, Rel X2 Y2 → SN p l e room_1 s m #[Value.ref b] below meth c D 4 A Q 41 1474 (wC cy ad X2 ++ wM cy ae Y2) [(0, .ref b), (1, .ref (ad 0)), (2, .ref (ae 0)), (3, .int x3)] 848 []) : SN p l e room_1 s m #[Value.ref b] below meth c D 4 A Q 41 1474 (wC cy ad X ++ wM cy ae Y) [(0, .ref b), (1, .ref (ad 0)), (2, .ref (ae 0)), (3, .int x3)] 834 [] := by
  obtain ⟨N, r, X2, Y2, hLJ, hRJ, hrel⟩ := hop X Y  hr
  have hk := hk0 X2 Y2 hrel
  refine sn_aload_n (pc := 834) C 1 dL_law_834 rfl rfl ?_
  refine sn_callL_l (pc := 835) C (st := []) (As := []) (k_T_digest hDL hLJ) pk_X9_digest wd_34_23 ⟨Nat.le_of_ble_eq_true rfl, Nat.le_of_ble_eq_true rfl⟩ ⟨rfl, rfl⟩ ⟨Nat.le_of_ble_eq_true rfl, Nat.le_of_ble_eq_true rfl⟩ rfl rfl (Nat.le_of_ble_eq_true rfl) dL_law_835 ?_
  refine sn_aload_n (pc := 838) C 2 dL_law_838 rfl rfl ?_
  refine sn_callR_l (pc := 839) C (st := [.long r]) (As := []) (k_M_digest hDR hRJ) pk_X10_digest wd_35_13 ⟨Nat.le_of_ble_eq_true rfl, Nat.le_of_ble_eq_true rfl⟩ ⟨rfl, rfl⟩ ⟨Nat.le_of_ble_eq_true rfl, Nat.le_of_ble_eq_true rfl⟩ rfl rfl (Nat.le_of_ble_eq_true rfl) dL_law_839 ?_
  refine sn_lcmp (pc := 842) C dL_law_842 ?_
  exact sn_if_eqT (pc := 843) (tgt := 848) C dL_law_843 (by decide) (by unfold lg_cmp; simp) hk
def Ops (Rel : St → St → Prop) : Prop := Op_letters Rel ∧ Op_blank Rel ∧ Op_fault Rel ∧ Op_rule Rel ∧ Op_replies Rel ∧ Op_member Rel ∧ Op_speech Rel ∧ Op_about Rel ∧ Op_as Rel ∧ Op_chair Rel ∧ Op_may Rel ∧ Op_rise Rel ∧ Op_down Rel ∧ Op_at Rel ∧ Op_bill Rel ∧ Op_debate Rel ∧ Op_nails Rel ∧ Op_shook Rel ∧ Op_order Rel ∧ Op_laws Rel ∧ Op_changed Rel ∧ Op_midnight Rel ∧ Op_sessions Rel ∧ Op_image Rel ∧ Op_restore Rel ∧ Op_count Rel ∧ Op_digest Rel
theorem nI_small (x3 : Int32) (i k L : Nat) (h3 : x3 = nI i) (h : i + k < L) (hL : L ≤ 3072) (kk : Int32) (hk : kk = nI k) : vp_in (x3 + kk) L := by
  subst h3; subst hk
  rw [nI_add]
  exact vp_in_nI h (by omega)
set_option maxHeartbeats 4000000 in
set_option maxRecDepth 100000 in
theorem law_loop {p : Program} {l : Launch} {e : Env} {s : State} {m : MethodId} {below : List Frame} {meth : Method} {c : Code} {D : va_G} {cy : Nat → ClassId} {A : Nat → Prop} {ad ae : Nat → Nat} {b L : Nat} {xs : Nat → Int32} (C : Cn p s m #[Value.ref b] meth c D cy cL_law 4 RL ret A) (hX : va_X b L xs s s.heap) (hbl : b < s.heap.size) (hbA : ¬ A b) (hDL : ∀ X, va_D (inW (wC cy ad X00)) (wC cy ad X)) (hDR : ∀ X, va_D (inW (wM cy ae X00)) (wM cy ae X)) (hL : L ≤ 3072) (hA : ∀ q, A q → s.heap.size ≤ q) {Rel : St → St → Prop} (ho : Ops Rel) : ∀ (n i : Nat) (X Y : St) (x3 : Int32), i ≤ L + 6 → L + 7 ≤ i + n → x3 = nI i → Rel X Y → SN p l e room_1 s m #[Value.ref b] below meth c D 4 A (lw_Z below #[Value.ref b] s) 41 1474 (wC cy ad X ++ wM cy ae Y) [(0, .ref b), (1, .ref (ad 0)), (2, .ref (ae 0)), (3, .int x3)] 18 [] := by
  intro n
  induction n with
  | zero => intro i X Y x3 h1 h2; exact absurd h2 (by omega)
  | succ n ih =>
    intro i X Y x3 hi hin0 e3 hr
    refine sn_iload_n (pc := 18) C 3 dL_law_18 rfl rfl ?_
    refine sn_aload_n (pc := 19) C 0 dL_law_19 rfl rfl ?_
    refine sn_slen (pc := 20) C hX hbl hbA dL_law_20 ?_
    refine sn_bipush (pc := 21) C (v := (6 : Int32)) dL_law_21 (by decide) ?_
    refine sn_isub (pc := 23) C dL_law_23 ?_
    refine sn_icmp_gt (pc := 24) (tgt := 854) C dL_law_24 (by decide) (fun hgt => ?_) (fun hgt => ?_)
    · refine sn_iconst (pc := 854) C (v := (1 : Int32)) dL_law_854 (by decide) ?_
      intro H locs ls hP hD hS hl
      refine va_forget (fun q hq => hA _ (hS.2.2 q hq)) ?_
      refine W.widen (k := 600000) (n := 7302250) (Nat.le_of_ble_eq_true rfl) (Nat.le_of_ble_eq_true rfl) ?_
      exact lw_ret C.1 C.2.1 C.2.2.2.2.2.2.2.2 C.2.2.2.2.2.2.2.1 dL_law_855
    · have h6 : i + 6 ≤ L := by
        rw [e3] at hgt
        have hgt2 : ¬ (nI L - 6).toInt < (nI i).toInt := fun q => hgt (Int32.lt_iff_toInt_lt.mpr q)
        rw [show (6 : Int32) = nI 6 from rfl, pk_sub_toInt (by omega) (by decide), nI_toInt (by omega)] at hgt2
        omega
      have hin : ∀ k : Nat, k < 6 → ∀ kk : Int32, kk = nI k → vp_in (x3 + kk) L := fun k hk kk e => nI_small x3 i k L e3 (by omega) hL kk e
      have h0 : vp_in x3 L := by rw [e3]; exact vp_in_nI (by omega) (by omega)
      have hk : ∀ X2 Y2, Rel X2 Y2 → SN p l e room_1 s m #[Value.ref b] below meth c D 4 A (lw_Z below #[Value.ref b] s) 41 1474 (wC cy ad X2 ++ wM cy ae Y2) [(0, .ref b), (1, .ref (ad 0)), (2, .ref (ae 0)), (3, .int x3)] 848 [] := by
        intro X2 Y2 hr2
        refine sn_iinc (pc := 848) C 3 dL_law_848 rfl (v := x3 + 6) (congrArg (fun z => x3 + z) (by decide)) (by decide) (ll2 := [(3, .int (x3 + 6)), (0, .ref b), (1, .ref (ad 0)), (2, .ref (ae 0))]) rfl ?_
        refine sn_goto (pc := 851) (tgt := 18) C dL_law_851 (by decide) ?_
        exact sn_sub [1, 2, 3, 0] (by rfl) (ih (i + 6) X2 Y2 (x3 + 6) (by omega) (by omega) (by rw [e3, show (6 : Int32) = nI 6 from rfl, nI_add]) hr2)
      refine sn_aload_n (pc := 27) C 0 dL_law_27 rfl rfl ?_
      refine sn_iload_n (pc := 28) C 3 dL_law_28 rfl rfl ?_
      refine sn_sld (pc := 29) C hX hbl hbA h0 dL_law_29 ?_
      refine sn_bipush (pc := 30) C (v := (31 : Int32)) dL_law_30 (by decide) ?_
      refine sn_iand (pc := 32) C dL_law_32 ?_
      by_cases c0 : xs x3.toNatClampNeg &&& (31 : Int32) = (0 : Int32)
      · exact sn_tblIn (pc := 33) C (0 : Int32) (off := 123) (tgt := 156) dL_law_33 c0 (by decide) (by decide) rfl (by decide) (law_letters C hX hbl hbA hDL hDR (ho.1) hr (hin 1 (by omega) (1 : Int32) rfl) (hin 2 (by omega) (2 : Int32) rfl) hk)
      by_cases c1 : xs x3.toNatClampNeg &&& (31 : Int32) = (1 : Int32)
      · exact sn_tblIn (pc := 33) C (1 : Int32) (off := 176) (tgt := 209) dL_law_33 c1 (by decide) (by decide) rfl (by decide) (law_blank C hX hbl hbA hDL hDR (ho.2.1) hr hk)
      by_cases c2 : xs x3.toNatClampNeg &&& (31 : Int32) = (2 : Int32)
      · exact sn_tblIn (pc := 33) C (2 : Int32) (off := 189) (tgt := 222) dL_law_33 c2 (by decide) (by decide) rfl (by decide) (law_fault C hX hbl hbA hDL hDR (ho.2.2.1) hr (hin 1 (by omega) (1 : Int32) rfl) hk)
      by_cases c3 : xs x3.toNatClampNeg &&& (31 : Int32) = (3 : Int32)
      · exact sn_tblIn (pc := 33) C (3 : Int32) (off := 212) (tgt := 245) dL_law_33 c3 (by decide) (by decide) rfl (by decide) (law_rule C hX hbl hbA hDL hDR (ho.2.2.2.1) hr hk)
      by_cases c4 : xs x3.toNatClampNeg &&& (31 : Int32) = (4 : Int32)
      · exact sn_tblIn (pc := 33) C (4 : Int32) (off := 225) (tgt := 258) dL_law_33 c4 (by decide) (by decide) rfl (by decide) (law_replies C hX hbl hbA hDL hDR (ho.2.2.2.2.1) hr (hin 1 (by omega) (1 : Int32) rfl) (hin 2 (by omega) (2 : Int32) rfl) hk)
      by_cases c5 : xs x3.toNatClampNeg &&& (31 : Int32) = (5 : Int32)
      · exact sn_tblIn (pc := 33) C (5 : Int32) (off := 258) (tgt := 291) dL_law_33 c5 (by decide) (by decide) rfl (by decide) (law_member C hX hbl hbA hDL hDR (ho.2.2.2.2.2.1) hr (hin 1 (by omega) (1 : Int32) rfl) (hin 2 (by omega) (2 : Int32) rfl) (hin 3 (by omega) (3 : Int32) rfl) (hin 4 (by omega) (4 : Int32) rfl) (hin 5 (by omega) (5 : Int32) rfl) hk)
      by_cases c6 : xs x3.toNatClampNeg &&& (31 : Int32) = (6 : Int32)
      · exact sn_tblIn (pc := 33) C (6 : Int32) (off := 321) (tgt := 354) dL_law_33 c6 (by decide) (by decide) rfl (by decide) (law_speech C hX hbl hbA hDL hDR (ho.2.2.2.2.2.2.1) hr (hin 1 (by omega) (1 : Int32) rfl) (hin 2 (by omega) (2 : Int32) rfl) (hin 3 (by omega) (3 : Int32) rfl) hk)
      by_cases c7 : xs x3.toNatClampNeg &&& (31 : Int32) = (7 : Int32)
      · exact sn_tblIn (pc := 33) C (7 : Int32) (off := 364) (tgt := 397) dL_law_33 c7 (by decide) (by decide) rfl (by decide) (law_about C hX hbl hbA hDL hDR (ho.2.2.2.2.2.2.2.1) hr (hin 1 (by omega) (1 : Int32) rfl) (hin 2 (by omega) (2 : Int32) rfl) hk)
      by_cases c8 : xs x3.toNatClampNeg &&& (31 : Int32) = (8 : Int32)
      · exact sn_tblIn (pc := 33) C (8 : Int32) (off := 397) (tgt := 430) dL_law_33 c8 (by decide) (by decide) rfl (by decide) (law_as C hX hbl hbA hDL hDR (ho.2.2.2.2.2.2.2.2.1) hr (hin 1 (by omega) (1 : Int32) rfl) (hin 2 (by omega) (2 : Int32) rfl) hk)
      by_cases c9 : xs x3.toNatClampNeg &&& (31 : Int32) = (9 : Int32)
      · exact sn_tblIn (pc := 33) C (9 : Int32) (off := 430) (tgt := 463) dL_law_33 c9 (by decide) (by decide) rfl (by decide) (law_chair C hX hbl hbA hDL hDR (ho.2.2.2.2.2.2.2.2.2.1) hr (hin 1 (by omega) (1 : Int32) rfl) (hin 2 (by omega) (2 : Int32) rfl) hk)
      by_cases c10 : xs x3.toNatClampNeg &&& (31 : Int32) = (10 : Int32)
      · exact sn_tblIn (pc := 33) C (10 : Int32) (off := 463) (tgt := 496) dL_law_33 c10 (by decide) (by decide) rfl (by decide) (law_may C hX hbl hbA hDL hDR (ho.2.2.2.2.2.2.2.2.2.2.1) hr (hin 1 (by omega) (1 : Int32) rfl) hk)
      by_cases c11 : xs x3.toNatClampNeg &&& (31 : Int32) = (11 : Int32)
      · exact sn_tblIn (pc := 33) C (11 : Int32) (off := 486) (tgt := 519) dL_law_33 c11 (by decide) (by decide) rfl (by decide) (law_rise C hX hbl hbA hDL hDR (ho.2.2.2.2.2.2.2.2.2.2.2.1) hr (hin 1 (by omega) (1 : Int32) rfl) hk)
      by_cases c12 : xs x3.toNatClampNeg &&& (31 : Int32) = (12 : Int32)
      · exact sn_tblIn (pc := 33) C (12 : Int32) (off := 509) (tgt := 542) dL_law_33 c12 (by decide) (by decide) rfl (by decide) (law_down C hX hbl hbA hDL hDR (ho.2.2.2.2.2.2.2.2.2.2.2.2.1) hr hk)
      by_cases c13 : xs x3.toNatClampNeg &&& (31 : Int32) = (13 : Int32)
      · exact sn_tblIn (pc := 33) C (13 : Int32) (off := 522) (tgt := 555) dL_law_33 c13 (by decide) (by decide) rfl (by decide) (law_at C hX hbl hbA hDL hDR (ho.2.2.2.2.2.2.2.2.2.2.2.2.2.1) hr (hin 1 (by omega) (1 : Int32) rfl) hk)
      by_cases c14 : xs x3.toNatClampNeg &&& (31 : Int32) = (14 : Int32)
      · exact sn_tblIn (pc := 33) C (14 : Int32) (off := 545) (tgt := 578) dL_law_33 c14 (by decide) (by decide) rfl (by decide) (law_bill C hX hbl hbA hDL hDR (ho.2.2.2.2.2.2.2.2.2.2.2.2.2.2.1) hr hk)
      by_cases c15 : xs x3.toNatClampNeg &&& (31 : Int32) = (15 : Int32)
      · exact sn_tblIn (pc := 33) C (15 : Int32) (off := 558) (tgt := 591) dL_law_33 c15 (by decide) (by decide) rfl (by decide) (law_debate C hX hbl hbA hDL hDR (ho.2.2.2.2.2.2.2.2.2.2.2.2.2.2.2.1) hr (hin 1 (by omega) (1 : Int32) rfl) hk)
      by_cases c16 : xs x3.toNatClampNeg &&& (31 : Int32) = (16 : Int32)
      · exact sn_tblIn (pc := 33) C (16 : Int32) (off := 581) (tgt := 614) dL_law_33 c16 (by decide) (by decide) rfl (by decide) (law_nails C hX hbl hbA hDL hDR (ho.2.2.2.2.2.2.2.2.2.2.2.2.2.2.2.2.1) hr hk)
      by_cases c17 : xs x3.toNatClampNeg &&& (31 : Int32) = (17 : Int32)
      · exact sn_tblIn (pc := 33) C (17 : Int32) (off := 594) (tgt := 627) dL_law_33 c17 (by decide) (by decide) rfl (by decide) (law_shook C hX hbl hbA hDL hDR (ho.2.2.2.2.2.2.2.2.2.2.2.2.2.2.2.2.2.1) hr hk)
      by_cases c18 : xs x3.toNatClampNeg &&& (31 : Int32) = (18 : Int32)
      · exact sn_tblIn (pc := 33) C (18 : Int32) (off := 607) (tgt := 640) dL_law_33 c18 (by decide) (by decide) rfl (by decide) (law_order C hX hbl hbA hDL hDR (ho.2.2.2.2.2.2.2.2.2.2.2.2.2.2.2.2.2.2.1) hr (hin 1 (by omega) (1 : Int32) rfl) (hin 2 (by omega) (2 : Int32) rfl) hk)
      by_cases c19 : xs x3.toNatClampNeg &&& (31 : Int32) = (19 : Int32)
      · exact sn_tblIn (pc := 33) C (19 : Int32) (off := 640) (tgt := 673) dL_law_33 c19 (by decide) (by decide) rfl (by decide) (law_laws C hX hbl hbA hDL hDR (ho.2.2.2.2.2.2.2.2.2.2.2.2.2.2.2.2.2.2.2.1) hr (hin 1 (by omega) (1 : Int32) rfl) (hin 2 (by omega) (2 : Int32) rfl) hk)
      by_cases c20 : xs x3.toNatClampNeg &&& (31 : Int32) = (20 : Int32)
      · exact sn_tblIn (pc := 33) C (20 : Int32) (off := 673) (tgt := 706) dL_law_33 c20 (by decide) (by decide) rfl (by decide) (law_changed C hX hbl hbA hDL hDR (ho.2.2.2.2.2.2.2.2.2.2.2.2.2.2.2.2.2.2.2.2.1) hr hk)
      by_cases c21 : xs x3.toNatClampNeg &&& (31 : Int32) = (21 : Int32)
      · exact sn_tblIn (pc := 33) C (21 : Int32) (off := 686) (tgt := 719) dL_law_33 c21 (by decide) (by decide) rfl (by decide) (law_midnight C hX hbl hbA hDL hDR (ho.2.2.2.2.2.2.2.2.2.2.2.2.2.2.2.2.2.2.2.2.2.1) hr (hin 1 (by omega) (1 : Int32) rfl) hk)
      by_cases c22 : xs x3.toNatClampNeg &&& (31 : Int32) = (22 : Int32)
      · exact sn_tblIn (pc := 33) C (22 : Int32) (off := 709) (tgt := 742) dL_law_33 c22 (by decide) (by decide) rfl (by decide) (law_sessions C hX hbl hbA hDL hDR (ho.2.2.2.2.2.2.2.2.2.2.2.2.2.2.2.2.2.2.2.2.2.2.1) hr (hin 1 (by omega) (1 : Int32) rfl) (hin 2 (by omega) (2 : Int32) rfl) (hin 3 (by omega) (3 : Int32) rfl) hk)
      by_cases c23 : xs x3.toNatClampNeg &&& (31 : Int32) = (23 : Int32)
      · exact sn_tblIn (pc := 33) C (23 : Int32) (off := 752) (tgt := 785) dL_law_33 c23 (by decide) (by decide) rfl (by decide) (law_image C hX hbl hbA hDL hDR (ho.2.2.2.2.2.2.2.2.2.2.2.2.2.2.2.2.2.2.2.2.2.2.2.1) hr hk)
      by_cases c24 : xs x3.toNatClampNeg &&& (31 : Int32) = (24 : Int32)
      · exact sn_tblIn (pc := 33) C (24 : Int32) (off := 765) (tgt := 798) dL_law_33 c24 (by decide) (by decide) rfl (by decide) (law_restore C hX hbl hbA hDL hDR (ho.2.2.2.2.2.2.2.2.2.2.2.2.2.2.2.2.2.2.2.2.2.2.2.2.1) hr hk)
      by_cases c25 : xs x3.toNatClampNeg &&& (31 : Int32) = (25 : Int32)
      · exact sn_tblIn (pc := 33) C (25 : Int32) (off := 778) (tgt := 811) dL_law_33 c25 (by decide) (by decide) rfl (by decide) (law_count C hX hbl hbA hDL hDR (ho.2.2.2.2.2.2.2.2.2.2.2.2.2.2.2.2.2.2.2.2.2.2.2.2.2.1) hr (hin 1 (by omega) (1 : Int32) rfl) hk)
      by_cases c26 : xs x3.toNatClampNeg &&& (31 : Int32) = (26 : Int32)
      · exact sn_tblIn (pc := 33) C (26 : Int32) (off := 801) (tgt := 834) dL_law_33 c26 (by decide) (by decide) rfl (by decide) (law_digest C hX hbl hbA hDL hDR (ho.2.2.2.2.2.2.2.2.2.2.2.2.2.2.2.2.2.2.2.2.2.2.2.2.2.2) hr hk)
      have e0 := tbl_ne (0 : Int32) (a := 0) c0 (by decide)
      have e1 := tbl_ne (1 : Int32) (a := 1) c1 (by decide)
      have e2 := tbl_ne (2 : Int32) (a := 2) c2 (by decide)
      have e3 := tbl_ne (3 : Int32) (a := 3) c3 (by decide)
      have e4 := tbl_ne (4 : Int32) (a := 4) c4 (by decide)
      have e5 := tbl_ne (5 : Int32) (a := 5) c5 (by decide)
      have e6 := tbl_ne (6 : Int32) (a := 6) c6 (by decide)
      have e7 := tbl_ne (7 : Int32) (a := 7) c7 (by decide)
      have e8 := tbl_ne (8 : Int32) (a := 8) c8 (by decide)
      have e9 := tbl_ne (9 : Int32) (a := 9) c9 (by decide)
      have e10 := tbl_ne (10 : Int32) (a := 10) c10 (by decide)
      have e11 := tbl_ne (11 : Int32) (a := 11) c11 (by decide)
      have e12 := tbl_ne (12 : Int32) (a := 12) c12 (by decide)
      have e13 := tbl_ne (13 : Int32) (a := 13) c13 (by decide)
      have e14 := tbl_ne (14 : Int32) (a := 14) c14 (by decide)
      have e15 := tbl_ne (15 : Int32) (a := 15) c15 (by decide)
      have e16 := tbl_ne (16 : Int32) (a := 16) c16 (by decide)
      have e17 := tbl_ne (17 : Int32) (a := 17) c17 (by decide)
      have e18 := tbl_ne (18 : Int32) (a := 18) c18 (by decide)
      have e19 := tbl_ne (19 : Int32) (a := 19) c19 (by decide)
      have e20 := tbl_ne (20 : Int32) (a := 20) c20 (by decide)
      have e21 := tbl_ne (21 : Int32) (a := 21) c21 (by decide)
      have e22 := tbl_ne (22 : Int32) (a := 22) c22 (by decide)
      have e23 := tbl_ne (23 : Int32) (a := 23) c23 (by decide)
      have e24 := tbl_ne (24 : Int32) (a := 24) c24 (by decide)
      have e25 := tbl_ne (25 : Int32) (a := 25) c25 (by decide)
      have e26 := tbl_ne (26 : Int32) (a := 26) c26 (by decide)
      exact sn_tblOut (pc := 33) (tgt := 848) C dL_law_33 (by omega) (by decide) (hk X Y hr)
