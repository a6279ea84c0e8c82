set_option maxHeartbeats 4000000 in
set_option maxRecDepth 100000 in
theorem t_Pg_lettersIn_61 {p : Program} {l : Launch} {e : Env} {s : State} {m : MethodId} {args : Array Value} {below : List Frame} {meth : Method} {c : Code} {D : va_G} {cy : Nat → ClassId} {ad : Nat → Nat} {A : Nat → Prop} (C : Cx p s m args meth c D cy cX5_lettersIn 6 RX5 (some .int) A (wC cy ad)) {X : St} {k7 : Int64 → Int32 → Int32 → Int32 → Option (Int32)} {r : Int32} (h7 : ∀ (v0 : Int64) (v2 : Int32) (v3 : Int32) (v4 : Int32), k7 v0 v2 v3 v4 = some r → SW p l e ({ frames := 1, cells := 0, slots := 0, locals := 22 } : Room) s m args below meth c D 6 A (wC cy ad) (MQ below (poI D (wC cy ad) A r X) args s 0 0 A) X [(0, .long v0), (2, .int v2), (3, .int v3), (4, .int v4)] 7 []) : ∀ (v0 : Int64) (v3 : Int32) (v4 : Int32) (s0 : Int32) (s1 : Int32), jPg_lettersIn_61 k7 v0 v3 v4 s0 s1 = some r → SW p l e ({ frames := 1, cells := 0, slots := 0, locals := 22 } : Room) s m args below meth c D 6 A (wC cy ad) (MQ below (poI D (wC cy ad) A r X) args s 0 0 A) X [(0, .long v0), (3, .int v3), (4, .int v4)] 61 [.int s1, .int s0] := by
  intro v0 v3 v4 s0 s1 hJ
  unfold jPg_lettersIn_61 at hJ
  refine sw_iadd (pc := 61) C dX5_lettersIn_61 ?_
  refine sw_istore_n (pc := 62) C dX5_lettersIn_62 rfl (by decide) (ll2 := [(2, .int (s0 + s1)), (0, .long v0), (3, .int v3), (4, .int v4)]) rfl ?_
  refine sw_iinc (pc := 63) C 3 dX5_lettersIn_63 rfl (v := (v4 + (1 : Int32))) (congrArg (fun z => v4 + z) (by decide)) (by decide) (ll2 := [(4, .int (v4 + (1 : Int32))), (2, .int (s0 + s1)), (0, .long v0), (3, .int v3)]) rfl ?_
  refine sw_goto (pc := 66) (tgt := 7) C dX5_lettersIn_66 (by decide) ?_
  exact sw_sub [2, 1, 3, 0] (by rfl) (h7 _ _ _ _ hJ)
set_option maxHeartbeats 4000000 in
set_option maxRecDepth 100000 in
theorem t_Pg_lettersIn_50 {p : Program} {l : Launch} {e : Env} {s : State} {m : MethodId} {args : Array Value} {below : List Frame} {meth : Method} {c : Code} {D : va_G} {cy : Nat → ClassId} {ad : Nat → Nat} {A : Nat → Prop} (C : Cx p s m args meth c D cy cX5_lettersIn 6 RX5 (some .int) A (wC cy ad)) {X : St} {k7 : Int64 → Int32 → Int32 → Int32 → Option (Int32)} {r : Int32} (h7 : ∀ (v0 : Int64) (v2 : Int32) (v3 : Int32) (v4 : Int32), k7 v0 v2 v3 v4 = some r → SW p l e ({ frames := 1, cells := 0, slots := 0, locals := 22 } : Room) s m args below meth c D 6 A (wC cy ad) (MQ below (poI D (wC cy ad) A r X) args s 0 0 A) X [(0, .long v0), (2, .int v2), (3, .int v3), (4, .int v4)] 7 []) : ∀ (v0 : Int64) (v2 : Int32) (v4 : Int32) (s0 : Int32), jPg_lettersIn_50 k7 v0 v2 v4 s0 = some r → SW p l e ({ frames := 1, cells := 0, slots := 0, locals := 22 } : Room) s m args below meth c D 6 A (wC cy ad) (MQ below (poI D (wC cy ad) A r X) args s 0 0 A) X [(0, .long v0), (2, .int v2), (4, .int v4)] 50 [.int s0] := by
  intro v0 v2 v4 s0 hJ
  unfold jPg_lettersIn_50 at hJ
  refine sw_istore_n (pc := 50) C dX5_lettersIn_50 rfl (by decide) (ll2 := [(3, .int s0), (0, .long v0), (2, .int v2), (4, .int v4)]) rfl ?_
  refine sw_iload_n (pc := 51) C 2 dX5_lettersIn_51 rfl rfl ?_
  refine sw_iload_n (pc := 52) C 0 dX5_lettersIn_52 rfl rfl ?_
  refine sw_if_eq (pc := 53) (tgt := 60) C dX5_lettersIn_53 (by decide) (fun hb53 => ?_) (fun hb53 => ?_)
  · replace hJ := itep hb53 hJ
    refine sw_iconst (pc := 60) C (v := (1 : Int32)) dX5_lettersIn_60 (by decide) ?_
    exact sw_sub [1, 0, 3] (by rfl) (t_Pg_lettersIn_61 C h7 _ _ _ _ _ hJ)
  · replace hJ := iten hb53 hJ
    refine sw_iconst (pc := 56) C (v := (0 : Int32)) dX5_lettersIn_56 (by decide) ?_
    refine sw_goto (pc := 57) (tgt := 61) C dX5_lettersIn_57 (by decide) ?_
    exact sw_sub [1, 0, 3] (by rfl) (t_Pg_lettersIn_61 C h7 _ _ _ _ _ hJ)
set_option maxHeartbeats 4000000 in
set_option maxRecDepth 100000 in
theorem t_Pg_lettersIn_40 {p : Program} {l : Launch} {e : Env} {s : State} {m : MethodId} {args : Array Value} {below : List Frame} {meth : Method} {c : Code} {D : va_G} {cy : Nat → ClassId} {ad : Nat → Nat} {A : Nat → Prop} (C : Cx p s m args meth c D cy cX5_lettersIn 6 RX5 (some .int) A (wC cy ad)) {X : St} {k7 : Int64 → Int32 → Int32 → Int32 → Option (Int32)} {r : Int32} (h7 : ∀ (v0 : Int64) (v2 : Int32) (v3 : Int32) (v4 : Int32), k7 v0 v2 v3 v4 = some r → SW p l e ({ frames := 1, cells := 0, slots := 0, locals := 22 } : Room) s m args below meth c D 6 A (wC cy ad) (MQ below (poI D (wC cy ad) A r X) args s 0 0 A) X [(0, .long v0), (2, .int v2), (3, .int v3), (4, .int v4)] 7 []) : ∀ (v0 : Int64) (v2 : Int32) (v4 : Int32) (v5 : Int32), jPg_lettersIn_40 k7 v0 v2 v4 v5 = some r → SW p l e ({ frames := 1, cells := 0, slots := 0, locals := 22 } : Room) s m args below meth c D 6 A (wC cy ad) (MQ below (poI D (wC cy ad) A r X) args s 0 0 A) X [(0, .long v0), (2, .int v2), (4, .int v4), (5, .int v5)] 40 [] := by
  intro v0 v2 v4 v5 hJ
  unfold jPg_lettersIn_40 at hJ
  refine sw_iload (pc := 40) C 3 dX5_lettersIn_40 rfl ?_
  refine sw_if_ne (pc := 42) (tgt := 49) C dX5_lettersIn_42 (by decide) (fun hb42 => ?_) (fun hb42 => ?_)
  · replace hJ := iten hb42 hJ
    refine sw_iconst (pc := 49) C (v := (0 : Int32)) dX5_lettersIn_49 (by decide) ?_
    exact sw_sub [0, 1, 2] (by rfl) (t_Pg_lettersIn_50 C h7 _ _ _ _ hJ)
  · replace hJ := itep hb42 hJ
    refine sw_iconst (pc := 45) C (v := (1 : Int32)) dX5_lettersIn_45 (by decide) ?_
    refine sw_goto (pc := 46) (tgt := 50) C dX5_lettersIn_46 (by decide) ?_
    exact sw_sub [0, 1, 2] (by rfl) (t_Pg_lettersIn_50 C h7 _ _ _ _ hJ)
set_option maxHeartbeats 4000000 in
set_option maxRecDepth 100000 in
theorem t_Pg_lettersIn_7 {p : Program} {l : Launch} {e : Env} {s : State} {m : MethodId} {args : Array Value} {below : List Frame} {meth : Method} {c : Code} {D : va_G} {cy : Nat → ClassId} {ad : Nat → Nat} {A : Nat → Prop} (C : Cx p s m args meth c D cy cX5_lettersIn 6 RX5 (some .int) A (wC cy ad)) {X : St} {r : Int32} : ∀ (n : Nat) (v0 : Int64) (v2 : Int32) (v3 : Int32) (v4 : Int32), jPg_lettersIn_7 n v0 v2 v3 v4 = some r → SW p l e ({ frames := 1, cells := 0, slots := 0, locals := 22 } : Room) s m args below meth c D 6 A (wC cy ad) (MQ below (poI D (wC cy ad) A r X) args s 0 0 A) X [(0, .long v0), (2, .int v2), (3, .int v3), (4, .int v4)] 7 [] := by
  intro n
  induction n with
  | zero => intro v0 v2 v3 v4 hJ; exact absurd (show (none : Option (Int32)) = some r from hJ) (fun h => by cases h)
  | succ n ih =>
    intro v0 v2 v3 v4 hJ
    rw [jPg_lettersIn_7] at hJ
    refine sw_iload (pc := 7) C 3 dX5_lettersIn_7 rfl ?_
    refine sw_bipush (pc := 9) C (v := (8 : Int32)) dX5_lettersIn_9 (by decide) ?_
    refine sw_icmp_ge (pc := 11) (tgt := 69) C dX5_lettersIn_11 (by decide) (fun hb11 => ?_) (fun hb11 => ?_)
    · replace hJ := itep hb11 hJ
      refine sw_iload_n (pc := 69) C 1 dX5_lettersIn_69 rfl rfl ?_
      obtain rfl := Option.some.inj hJ
      exact sw_iret (pc := 70) C dX5_lettersIn_70
    · replace hJ := iten hb11 hJ
      refine sw_lload_n (pc := 14) C 0 dX5_lettersIn_14 rfl rfl ?_
      refine sw_iload (pc := 15) C 3 dX5_lettersIn_15 rfl ?_
      obtain ⟨q17, hq17, hJ⟩ := bind_some hJ
      refine sw_callS_i (pc := 17) C (st := []) (As := [.long v0, .int v4]) (k_Pg_codeIn C.2.2.2.2.2.2.1 hq17) pk_X5_codeIn wd_5_15 ⟨Nat.le_of_ble_eq_true rfl, Nat.le_of_ble_eq_true rfl⟩ ⟨rfl, rfl⟩ rfl rfl (Nat.le_of_ble_eq_true rfl) dX5_lettersIn_17 ?_
      refine sw_istore (pc := 20) C dX5_lettersIn_20 (by decide) (ll2 := [(5, .int q17), (0, .long v0), (2, .int v2), (3, .int v3), (4, .int v4)]) rfl ?_
      refine sw_iload (pc := 22) C 0 dX5_lettersIn_22 rfl ?_
      refine sw_bipush (pc := 24) C (v := (126 : Int32)) dX5_lettersIn_24 (by decide) ?_
      refine sw_icmp_gt (pc := 26) (tgt := 38) C dX5_lettersIn_26 (by decide) (fun hb26 => ?_) (fun hb26 => ?_)
      · replace hJ := itep hb26 hJ
        refine sw_iconst (pc := 38) C (v := (-1 : Int32)) dX5_lettersIn_38 (by decide) ?_
        obtain rfl := Option.some.inj hJ
        exact sw_iret (pc := 39) C dX5_lettersIn_39
      · replace hJ := iten hb26 hJ
        refine sw_iload_n (pc := 29) C 3 dX5_lettersIn_29 rfl rfl ?_
        refine sw_if_eq (pc := 30) (tgt := 40) C dX5_lettersIn_30 (by decide) (fun hb30 => ?_) (fun hb30 => ?_)
        · replace hJ := itep hb30 hJ
          exact sw_sub [1, 2, 4, 0] (by rfl) (t_Pg_lettersIn_40 C ih _ _ _ _ hJ)
        · replace hJ := iten hb30 hJ
          refine sw_iload (pc := 33) C 0 dX5_lettersIn_33 rfl ?_
          refine sw_if_eq (pc := 35) (tgt := 40) C dX5_lettersIn_35 (by decide) (fun hb35 => ?_) (fun hb35 => ?_)
          · replace hJ := itep hb35 hJ
            exact sw_sub [1, 2, 4, 0] (by rfl) (t_Pg_lettersIn_40 C ih _ _ _ _ hJ)
          · replace hJ := iten hb35 hJ
            refine sw_iconst (pc := 38) C (v := (-1 : Int32)) dX5_lettersIn_38 (by decide) ?_
            obtain rfl := Option.some.inj hJ
            exact sw_iret (pc := 39) C dX5_lettersIn_39
set_option maxHeartbeats 4000000 in
set_option maxRecDepth 100000 in
theorem t_Pg_lettersIn {p : Program} {l : Launch} {e : Env} {s : State} {m : MethodId} {args : Array Value} {below : List Frame} {meth : Method} {c : Code} {D : va_G} {cy : Nat → ClassId} {ad : Nat → Nat} {A : Nat → Prop} (C : Cx p s m args meth c D cy cX5_lettersIn 6 RX5 (some .int) A (wC cy ad)) {X : St} {r : Int32} : ∀ (a0 : Int64), jPg_lettersIn a0 = some r → SW p l e ({ frames := 1, cells := 0, slots := 0, locals := 22 } : Room) s m args below meth c D 6 A (wC cy ad) (MQ below (poI D (wC cy ad) A r X) args s 0 0 A) X [(0, .long a0)] 0 [] := by
  intro a0 hJ
  unfold jPg_lettersIn at hJ
  refine sw_iconst (pc := 0) C (v := (0 : Int32)) dX5_lettersIn_0 (by decide) ?_
  refine sw_istore_n (pc := 1) C dX5_lettersIn_1 rfl (by decide) (ll2 := [(2, .int (0 : Int32)), (0, .long a0)]) rfl ?_
  refine sw_iconst (pc := 2) C (v := (0 : Int32)) dX5_lettersIn_2 (by decide) ?_
  refine sw_istore_n (pc := 3) C dX5_lettersIn_3 rfl (by decide) (ll2 := [(3, .int (0 : Int32)), (2, .int (0 : Int32)), (0, .long a0)]) rfl ?_
  refine sw_iconst (pc := 4) C (v := (0 : Int32)) dX5_lettersIn_4 (by decide) ?_
  refine sw_istore (pc := 5) C dX5_lettersIn_5 (by decide) (ll2 := [(4, .int (0 : Int32)), (3, .int (0 : Int32)), (2, .int (0 : Int32)), (0, .long a0)]) rfl ?_
  exact sw_sub [3, 2, 1, 0] (by rfl) (t_Pg_lettersIn_7 C _ _ _ _ _ hJ)
set_option maxHeartbeats 4000000 in
set_option maxRecDepth 100000 in
theorem k_Pg_lettersIn {l : Launch} {D : va_G} {cy : Nat → ClassId} {ad : Nat → Nat} {A : Nat → Prop} (hD : ∀ X, va_D A (wC cy ad X)) {X : St} {a0 : Int64} {r : Int32} (hJ : jPg_lettersIn a0 = some r) : Met l yX5_lettersIn (wsY yX5_lettersIn cX5_lettersIn 6 (some .int)) ({ frames := 1, cells := 0, slots := 0, locals := 22 } : Room) (prX D cy (wC cy ad) X [.long a0]) (poI D (wC cy ad) A r X) 0 0 A := sw_met (by decide +kernel) (Nat.le_of_ble_eq_true rfl) hD (fun p e s m args below meth c C => t_Pg_lettersIn C _ hJ)
set_option maxHeartbeats 4000000 in
set_option maxRecDepth 100000 in
theorem t_Pg_hasRoomFor {p : Program} {l : Launch} {e : Env} {s : State} {m : MethodId} {args : Array Value} {below : List Frame} {meth : Method} {c : Code} {D : va_G} {cy : Nat → ClassId} {ad : Nat → Nat} {A : Nat → Prop} (C : Cx p s m args meth c D cy cX5_hasRoomFor 2 RX5 (some .boolean) A (wC cy ad)) {X : St} {r : Int32} : ∀ (a1 : Int32), jPg_hasRoomFor X a1 = some r → SW p l e ({ frames := 0, cells := 0, slots := 0, locals := 0 } : Room) s m args below meth c D 2 A (wC cy ad) (MQ below (poI D (wC cy ad) A r X) args s 0 0 A) X [(0, .ref (ad 1)), (1, .int a1)] 0 [] := by
  intro a1 hJ
  unfold jPg_hasRoomFor at hJ
  refine sw_aload_n (pc := 0) C 0 dX5_hasRoomFor_0 rfl rfl ?_
  refine gC_1_1 (pc := 1) C wd_5_22 dX5_hasRoomFor_1 ?_
  refine sw_iload_n (pc := 4) C 1 dX5_hasRoomFor_4 rfl rfl ?_
  refine sw_iadd (pc := 5) C dX5_hasRoomFor_5 ?_
  refine sw_bipush (pc := 6) C (v := (32 : Int32)) dX5_hasRoomFor_6 (by decide) ?_
  refine sw_icmp_gt (pc := 8) (tgt := 15) C dX5_hasRoomFor_8 (by decide) (fun hb8 => ?_) (fun hb8 => ?_)
  · replace hJ := itep hb8 hJ
    refine sw_iconst (pc := 15) C (v := (0 : Int32)) dX5_hasRoomFor_15 (by decide) ?_
    obtain rfl := Option.some.inj hJ
    exact sw_zret (pc := 16) (v := (0 : Int32)) C (by decide) dX5_hasRoomFor_16
  · replace hJ := iten hb8 hJ
    refine sw_iconst (pc := 11) C (v := (1 : Int32)) dX5_hasRoomFor_11 (by decide) ?_
    refine sw_goto (pc := 12) (tgt := 16) C dX5_hasRoomFor_12 (by decide) ?_
    obtain rfl := Option.some.inj hJ
    exact sw_zret (pc := 16) (v := (1 : Int32)) C (by decide) dX5_hasRoomFor_16
set_option maxHeartbeats 4000000 in
set_option maxRecDepth 100000 in
theorem k_Pg_hasRoomFor {l : Launch} {D : va_G} {cy : Nat → ClassId} {ad : Nat → Nat} {A : Nat → Prop} (hD : ∀ X, va_D A (wC cy ad X)) {X : St} {a1 : Int32} {r : Int32} (hJ : jPg_hasRoomFor X a1 = some r) : Met l yX5_hasRoomFor (wsY yX5_hasRoomFor cX5_hasRoomFor 2 (some .boolean)) ({ frames := 0, cells := 0, slots := 0, locals := 0 } : Room) (prX D cy (wC cy ad) X [.ref (ad 1), .int a1]) (poI D (wC cy ad) A r X) 0 0 A := sw_met (by decide +kernel) (Nat.le_of_ble_eq_true rfl) hD (fun p e s m args below meth c C => t_Pg_hasRoomFor C _ hJ)
set_option maxHeartbeats 4000000 in
set_option maxRecDepth 100000 in
theorem t_Pg_add_3 {p : Program} {l : Launch} {e : Env} {s : State} {m : MethodId} {args : Array Value} {below : List Frame} {meth : Method} {c : Code} {D : va_G} {cy : Nat → ClassId} {ad : Nat → Nat} {A : Nat → Prop} (C : Cx p s m args meth c D cy cX5_add 5 RX5 none A (wC cy ad)) {r : St} : ∀ (n : Nat) (X : St) (v1 : Int64) (v3 : Int32) (v4 : Int32), jPg_add_3 n X v1 v3 v4 = some r → SW p l e ({ frames := 1, cells := 0, slots := 0, locals := 22 } : Room) s m args below meth c D 5 A (wC cy ad) (MQ below (poV D (wC cy ad) A r) args s 0 0 A) X [(0, .ref (ad 1)), (1, .long v1), (3, .int v3), (4, .int v4)] 3 [] := by
  intro n
  induction n with
  | zero => intro X v1 v3 v4 hJ; exact absurd (show (none : Option (St)) = some r from hJ) (fun h => by cases h)
  | succ n ih =>
    intro X v1 v3 v4 hJ
    rw [jPg_add_3] at hJ
    refine sw_iload (pc := 3) C 3 dX5_add_3 rfl ?_
    refine sw_iload_n (pc := 5) C 2 dX5_add_5 rfl rfl ?_
    refine sw_icmp_ge (pc := 6) (tgt := 49) C dX5_add_6 (by decide) (fun hb6 => ?_) (fun hb6 => ?_)
    · replace hJ := itep hb6 hJ
      obtain rfl := Option.some.inj hJ
      exact sw_vret (pc := 49) C dX5_add_49
    · replace hJ := iten hb6 hJ
      refine sw_aload_n (pc := 9) C 0 dX5_add_9 rfl rfl ?_
      refine gC_1_1 (pc := 10) C wd_5_22 dX5_add_10 ?_
      refine sw_bipush (pc := 13) C (v := (32 : Int32)) dX5_add_13 (by decide) ?_
      refine sw_icmp_ge (pc := 15) (tgt := 49) C dX5_add_15 (by decide) (fun hb15 => ?_) (fun hb15 => ?_)
      · replace hJ := itep hb15 hJ
        obtain rfl := Option.some.inj hJ
        exact sw_vret (pc := 49) C dX5_add_49
      · replace hJ := iten hb15 hJ
        refine sw_aload_n (pc := 18) C 0 dX5_add_18 rfl rfl ?_
        refine gC_1_0 (pc := 19) C wd_2_18 dX5_add_19 ?_
        refine sw_aload_n (pc := 22) C 0 dX5_add_22 rfl rfl ?_
        refine gC_1_1 (pc := 23) C wd_5_22 dX5_add_23 ?_
        refine sw_lload_n (pc := 26) C 1 dX5_add_26 rfl rfl ?_
        refine sw_iload (pc := 27) C 3 dX5_add_27 rfl ?_
        obtain ⟨q29, hq29, hJ⟩ := bind_some hJ
        refine sw_callS_i (pc := 29) C (st := [.int (sF X 17), .ref (ad 2)]) (As := [.long v1, .int v4]) (k_Pg_codeIn C.2.2.2.2.2.2.1 hq29) pk_X5_codeIn wd_5_15 ⟨Nat.le_of_ble_eq_true rfl, Nat.le_of_ble_eq_true rfl⟩ ⟨rfl, rfl⟩ rfl rfl (Nat.le_of_ble_eq_true rfl) dX5_add_29 ?_
        obtain ⟨hi32, hJ⟩ := gd hJ
        refine tC_2 (pc := 32) C hi32 dX5_add_32 ?_
        refine sw_aload_n (pc := 33) C 0 dX5_add_33 rfl rfl ?_
        refine sw_dup (pc := 34) C dX5_add_34 rfl ?_
        refine gC_1_1 (pc := 35) C wd_5_22 dX5_add_35 ?_
        refine sw_iconst (pc := 38) C (v := (1 : Int32)) dX5_add_38 (by decide) ?_
        refine sw_iadd (pc := 39) C dX5_add_39 ?_
        refine pC_1_1 (pc := 40) C wd_5_22 dX5_add_40 ?_
        refine sw_iinc (pc := 43) C 3 dX5_add_43 rfl (v := (v4 + (1 : Int32))) (congrArg (fun z => v4 + z) (by decide)) (by decide) (ll2 := [(4, .int (v4 + (1 : Int32))), (0, .ref (ad 1)), (1, .long v1), (3, .int v3)]) rfl ?_
        refine sw_goto (pc := 46) (tgt := 3) C dX5_add_46 (by decide) ?_
        exact sw_sub [1, 2, 3, 0] (by rfl) (ih _ _ _ _ hJ)
set_option maxHeartbeats 4000000 in
set_option maxRecDepth 100000 in
theorem t_Pg_add {p : Program} {l : Launch} {e : Env} {s : State} {m : MethodId} {args : Array Value} {below : List Frame} {meth : Method} {c : Code} {D : va_G} {cy : Nat → ClassId} {ad : Nat → Nat} {A : Nat → Prop} (C : Cx p s m args meth c D cy cX5_add 5 RX5 none A (wC cy ad)) {r : St} : ∀ (X : St) (a1 : Int64) (a3 : Int32), jPg_add X a1 a3 = some r → SW p l e ({ frames := 1, cells := 0, slots := 0, locals := 22 } : Room) s m args below meth c D 5 A (wC cy ad) (MQ below (poV D (wC cy ad) A r) args s 0 0 A) X [(0, .ref (ad 1)), (1, .long a1), (3, .int a3)] 0 [] := by
  intro X a1 a3 hJ
  unfold jPg_add at hJ
  refine sw_iconst (pc := 0) C (v := (0 : Int32)) dX5_add_0 (by decide) ?_
  refine sw_istore (pc := 1) C dX5_add_1 (by decide) (ll2 := [(4, .int (0 : Int32)), (0, .ref (ad 1)), (1, .long a1), (3, .int a3)]) rfl ?_
  exact sw_sub [1, 2, 3, 0] (by rfl) (t_Pg_add_3 C _ _ _ _ _ hJ)
set_option maxHeartbeats 4000000 in
set_option maxRecDepth 100000 in
theorem k_Pg_add {l : Launch} {D : va_G} {cy : Nat → ClassId} {ad : Nat → Nat} {A : Nat → Prop} (hD : ∀ X, va_D A (wC cy ad X)) {X : St} {a1 : Int64} {a3 : Int32} {r : St} (hJ : jPg_add X a1 a3 = some r) : Met l yX5_add (wsY yX5_add cX5_add 5 none) ({ frames := 1, cells := 0, slots := 0, locals := 22 } : Room) (prX D cy (wC cy ad) X [.ref (ad 1), .long a1, .int a3]) (poV D (wC cy ad) A r) 0 0 A := sw_met (by decide +kernel) (Nat.le_of_ble_eq_true rfl) hD (fun p e s m args below meth c C => t_Pg_add C _ _ _ hJ)
set_option maxHeartbeats 4000000 in
set_option maxRecDepth 100000 in
theorem t_Pg_clear {p : Program} {l : Launch} {e : Env} {s : State} {m : MethodId} {args : Array Value} {below : List Frame} {meth : Method} {c : Code} {D : va_G} {cy : Nat → ClassId} {ad : Nat → Nat} {A : Nat → Prop} (C : Cx p s m args meth c D cy cX5_clear 1 RX5 none A (wC cy ad)) {r : St} : ∀ (X : St), jPg_clear X = some r → SW p l e ({ frames := 0, cells := 0, slots := 0, locals := 0 } : Room) s m args below meth c D 1 A (wC cy ad) (MQ below (poV D (wC cy ad) A r) args s 0 0 A) X [(0, .ref (ad 1))] 0 [] := by
  intro X hJ
  unfold jPg_clear at hJ
  refine sw_aload_n (pc := 0) C 0 dX5_clear_0 rfl rfl ?_
  refine sw_iconst (pc := 1) C (v := (0 : Int32)) dX5_clear_1 (by decide) ?_
  refine pC_1_1 (pc := 2) C wd_5_22 dX5_clear_2 ?_
  obtain rfl := Option.some.inj hJ
  exact sw_vret (pc := 5) C dX5_clear_5
set_option maxHeartbeats 4000000 in
set_option maxRecDepth 100000 in
theorem k_Pg_clear {l : Launch} {D : va_G} {cy : Nat → ClassId} {ad : Nat → Nat} {A : Nat → Prop} (hD : ∀ X, va_D A (wC cy ad X)) {X : St}  {r : St} (hJ : jPg_clear X = some r) : Met l yX5_clear (wsY yX5_clear cX5_clear 1 none) ({ frames := 0, cells := 0, slots := 0, locals := 0 } : Room) (prX D cy (wC cy ad) X [.ref (ad 1)]) (poV D (wC cy ad) A r) 0 0 A := sw_met (by decide +kernel) (Nat.le_of_ble_eq_true rfl) hD (fun p e s m args below meth c C => t_Pg_clear C _ hJ)
set_option maxHeartbeats 4000000 in
set_option maxRecDepth 100000 in
theorem t_Pg_length {p : Program} {l : Launch} {e : Env} {s : State} {m : MethodId} {args : Array Value} {below : List Frame} {meth : Method} {c : Code} {D : va_G} {cy : Nat → ClassId} {ad : Nat → Nat} {A : Nat → Prop} (C : Cx p s m args meth c D cy cX5_length 1 RX5 (some .int) A (wC cy ad)) {X : St} {r : Int32} : jPg_length X = some r → SW p l e ({ frames := 0, cells := 0, slots := 0, locals := 0 } : Room) s m args below meth c D 1 A (wC cy ad) (MQ below (poI D (wC cy ad) A r X) args s 0 0 A) X [(0, .ref (ad 1))] 0 [] := by
  intro  hJ
  unfold jPg_length at hJ
  refine sw_aload_n (pc := 0) C 0 dX5_length_0 rfl rfl ?_
  refine gC_1_1 (pc := 1) C wd_5_22 dX5_length_1 ?_
  obtain rfl := Option.some.inj hJ
  exact sw_iret (pc := 4) C dX5_length_4
set_option maxHeartbeats 4000000 in
set_option maxRecDepth 100000 in
theorem k_Pg_length {l : Launch} {D : va_G} {cy : Nat → ClassId} {ad : Nat → Nat} {A : Nat → Prop} (hD : ∀ X, va_D A (wC cy ad X)) {X : St}  {r : Int32} (hJ : jPg_length X = some r) : Met l yX5_length (wsY yX5_length cX5_length 1 (some .int)) ({ frames := 0, cells := 0, slots := 0, locals := 0 } : Room) (prX D cy (wC cy ad) X [.ref (ad 1)]) (poI D (wC cy ad) A r X) 0 0 A := sw_met (by decide +kernel) (Nat.le_of_ble_eq_true rfl) hD (fun p e s m args below meth c C => t_Pg_length C hJ)
set_option maxHeartbeats 4000000 in
set_option maxRecDepth 100000 in
theorem t_Pg_letter {p : Program} {l : Launch} {e : Env} {s : State} {m : MethodId} {args : Array Value} {below : List Frame} {meth : Method} {c : Code} {D : va_G} {cy : Nat → ClassId} {ad : Nat → Nat} {A : Nat → Prop} (C : Cx p s m args meth c D cy cX5_letter 2 RX5 (some .int) A (wC cy ad)) {X : St} {r : Int32} : ∀ (a1 : Int32), jPg_letter X a1 = some r → SW p l e ({ frames := 0, cells := 0, slots := 0, locals := 0 } : Room) s m args below meth c D 2 A (wC cy ad) (MQ below (poI D (wC cy ad) A r X) args s 0 0 A) X [(0, .ref (ad 1)), (1, .int a1)] 0 [] := by
  intro a1 hJ
  unfold jPg_letter at hJ
  refine sw_iload_n (pc := 0) C 1 dX5_letter_0 rfl rfl ?_
  refine sw_if_lt (pc := 1) (tgt := 27) C dX5_letter_1 (by decide) (fun hb1 => ?_) (fun hb1 => ?_)
  · replace hJ := itep hb1 hJ
    refine sw_iconst (pc := 27) C (v := (0 : Int32)) dX5_letter_27 (by decide) ?_
    obtain rfl := Option.some.inj hJ
    exact sw_iret (pc := 28) C dX5_letter_28
  · replace hJ := iten hb1 hJ
    refine sw_iload_n (pc := 4) C 1 dX5_letter_4 rfl rfl ?_
    refine sw_aload_n (pc := 5) C 0 dX5_letter_5 rfl rfl ?_
    refine gC_1_1 (pc := 6) C wd_5_22 dX5_letter_6 ?_
    refine sw_icmp_ge (pc := 9) (tgt := 27) C dX5_letter_9 (by decide) (fun hb9 => ?_) (fun hb9 => ?_)
    · replace hJ := itep hb9 hJ
      refine sw_iconst (pc := 27) C (v := (0 : Int32)) dX5_letter_27 (by decide) ?_
      obtain rfl := Option.some.inj hJ
      exact sw_iret (pc := 28) C dX5_letter_28
    · replace hJ := iten hb9 hJ
      refine sw_iload_n (pc := 12) C 1 dX5_letter_12 rfl rfl ?_
      refine sw_bipush (pc := 13) C (v := (32 : Int32)) dX5_letter_13 (by decide) ?_
      refine sw_icmp_ge (pc := 15) (tgt := 27) C dX5_letter_15 (by decide) (fun hb15 => ?_) (fun hb15 => ?_)
      · replace hJ := itep hb15 hJ
        refine sw_iconst (pc := 27) C (v := (0 : Int32)) dX5_letter_27 (by decide) ?_
        obtain rfl := Option.some.inj hJ
        exact sw_iret (pc := 28) C dX5_letter_28
      · replace hJ := iten hb15 hJ
        refine sw_aload_n (pc := 18) C 0 dX5_letter_18 rfl rfl ?_
        refine gC_1_0 (pc := 19) C wd_2_18 dX5_letter_19 ?_
        refine sw_iload_n (pc := 22) C 1 dX5_letter_22 rfl rfl ?_
        obtain ⟨hi23, hJ⟩ := gd hJ
        refine lC_2 (pc := 23) C hi23 dX5_letter_23 ?_
        refine sw_goto (pc := 24) (tgt := 28) C dX5_letter_24 (by decide) ?_
        obtain rfl := Option.some.inj hJ
        exact sw_iret (pc := 28) C dX5_letter_28
set_option maxHeartbeats 4000000 in
set_option maxRecDepth 100000 in
theorem k_Pg_letter {l : Launch} {D : va_G} {cy : Nat → ClassId} {ad : Nat → Nat} {A : Nat → Prop} (hD : ∀ X, va_D A (wC cy ad X)) {X : St} {a1 : Int32} {r : Int32} (hJ : jPg_letter X a1 = some r) : Met l yX5_letter (wsY yX5_letter cX5_letter 2 (some .int)) ({ frames := 0, cells := 0, slots := 0, locals := 0 } : Room) (prX D cy (wC cy ad) X [.ref (ad 1), .int a1]) (poI D (wC cy ad) A r X) 0 0 A := sw_met (by decide +kernel) (Nat.le_of_ble_eq_true rfl) hD (fun p e s m args below meth c C => t_Pg_letter C _ hJ)
set_option maxHeartbeats 4000000 in
set_option maxRecDepth 100000 in
theorem t_Rt_begin {p : Program} {l : Launch} {e : Env} {s : State} {m : MethodId} {args : Array Value} {below : List Frame} {meth : Method} {c : Code} {D : va_G} {cy : Nat → ClassId} {ad : Nat → Nat} {A : Nat → Prop} (C : Cx p s m args meth c D cy cX7_begin 1 RX7 none A (wC cy ad)) {r : St} : ∀ (X : St), jRt_begin X = some r → SW p l e ({ frames := 0, cells := 0, slots := 0, locals := 0 } : Room) s m args below meth c D 1 A (wC cy ad) (MQ below (poV D (wC cy ad) A r) args s 0 0 A) X [(0, .ref (ad 3))] 0 [] := by
  intro X hJ
  unfold jRt_begin at hJ
  refine sw_aload_n (pc := 0) C 0 dX7_begin_0 rfl rfl ?_
  refine sw_iconst (pc := 1) C (v := (0 : Int32)) dX7_begin_1 (by decide) ?_
  refine pC_3_0 (pc := 2) C wd_7_19 dX7_begin_2 ?_
  refine sw_aload_n (pc := 5) C 0 dX7_begin_5 rfl rfl ?_
  refine sw_iconst (pc := 6) C (v := (0 : Int32)) dX7_begin_6 (by decide) ?_
  refine pC_3_1 (pc := 7) C wd_7_20 dX7_begin_7 ?_
  refine sw_aload_n (pc := 10) C 0 dX7_begin_10 rfl rfl ?_
  refine sw_lconst (pc := 11) C (v := (0 : Int64)) dX7_begin_11 (by decide) ?_
  refine pC_3_2 (pc := 12) C wd_7_21 dX7_begin_12 ?_
  refine sw_aload_n (pc := 15) C 0 dX7_begin_15 rfl rfl ?_
  refine sw_iconst (pc := 16) C (v := (0 : Int32)) dX7_begin_16 (by decide) ?_
  refine pC_3_3 (pc := 17) C wd_7_22 dX7_begin_17 ?_
  refine sw_aload_n (pc := 20) C 0 dX7_begin_20 rfl rfl ?_
  refine sw_iconst (pc := 21) C (v := (3 : Int32)) dX7_begin_21 (by decide) ?_
  refine pC_3_4 (pc := 22) C wd_7_23 dX7_begin_22 ?_
  obtain rfl := Option.some.inj hJ
  exact sw_vret (pc := 25) C dX7_begin_25
set_option maxHeartbeats 4000000 in
set_option maxRecDepth 100000 in
theorem k_Rt_begin {l : Launch} {D : va_G} {cy : Nat → ClassId} {ad : Nat → Nat} {A : Nat → Prop} (hD : ∀ X, va_D A (wC cy ad X)) {X : St}  {r : St} (hJ : jRt_begin X = some r) : Met l yX7_begin (wsY yX7_begin cX7_begin 1 none) ({ frames := 0, cells := 0, slots := 0, locals := 0 } : Room) (prX D cy (wC cy ad) X [.ref (ad 3)]) (poV D (wC cy ad) A r) 0 0 A := sw_met (by decide +kernel) (Nat.le_of_ble_eq_true rfl) hD (fun p e s m args below meth c C => t_Rt_begin C _ hJ)
set_option maxHeartbeats 4000000 in
set_option maxRecDepth 100000 in
theorem t_Rt_takesLimit {p : Program} {l : Launch} {e : Env} {s : State} {m : MethodId} {args : Array Value} {below : List Frame} {meth : Method} {c : Code} {D : va_G} {cy : Nat → ClassId} {ad : Nat → Nat} {A : Nat → Prop} (C : Cx p s m args meth c D cy cX7_takesLimit 2 RX7 (some .boolean) A (wC cy ad)) {r : Int32 × St} : ∀ (X : St) (a1 : Int32), jRt_takesLimit X a1 = some r → SW p l e ({ frames := 1, cells := 0, slots := 0, locals := 22 } : Room) s m args below meth c D 2 A (wC cy ad) (MQ below (poI D (wC cy ad) A r.1 r.2) args s 0 0 A) X [(0, .ref (ad 3)), (1, .int a1)] 0 [] := by
  intro X a1 hJ
  unfold jRt_takesLimit at hJ
  refine sw_iload_n (pc := 0) C 1 dX7_takesLimit_0 rfl rfl ?_
  refine sw_iconst (pc := 1) C (v := (0 : Int32)) dX7_takesLimit_1 (by decide) ?_
  refine sw_bipush (pc := 2) C (v := (9 : Int32)) dX7_takesLimit_2 (by decide) ?_
  obtain ⟨q4, hq4, hJ⟩ := bind_some hJ
  refine sw_callSN_i (pc := 4) C (st := []) (As := [.int a1, .int (0 : Int32), .int (9 : Int32)]) (k_T_isBetween C.2.2.2.2.2.2.1 hq4) pk_X9_isBetween nd_M6 ⟨Nat.le_of_ble_eq_true rfl, Nat.le_of_ble_eq_true rfl⟩ ⟨rfl, rfl⟩ rfl rfl (Nat.le_of_ble_eq_true rfl) dX7_takesLimit_4 ?_
  refine sw_if_ne (pc := 7) (tgt := 12) C dX7_takesLimit_7 (by decide) (fun hb7 => ?_) (fun hb7 => ?_)
  · replace hJ := iten hb7 hJ
    refine sw_aload_n (pc := 12) C 0 dX7_takesLimit_12 rfl rfl ?_
    refine sw_iload_n (pc := 13) C 1 dX7_takesLimit_13 rfl rfl ?_
    refine pC_3_4 (pc := 14) C wd_7_23 dX7_takesLimit_14 ?_
    refine sw_aload_n (pc := 17) C 0 dX7_takesLimit_17 rfl rfl ?_
    refine sw_iconst (pc := 18) C (v := (4 : Int32)) dX7_takesLimit_18 (by decide) ?_
    refine pC_3_0 (pc := 19) C wd_7_19 dX7_takesLimit_19 ?_
    refine sw_iconst (pc := 22) C (v := (1 : Int32)) dX7_takesLimit_22 (by decide) ?_
    obtain rfl := Option.some.inj hJ
    exact sw_zret (pc := 23) (v := (1 : Int32)) C (by decide) dX7_takesLimit_23
  · replace hJ := itep hb7 hJ
    refine sw_iconst (pc := 10) C (v := (0 : Int32)) dX7_takesLimit_10 (by decide) ?_
    obtain rfl := Option.some.inj hJ
    exact sw_zret (pc := 11) (v := (0 : Int32)) C (by decide) dX7_takesLimit_11
set_option maxHeartbeats 4000000 in
set_option maxRecDepth 100000 in
theorem k_Rt_takesLimit {l : Launch} {D : va_G} {cy : Nat → ClassId} {ad : Nat → Nat} {A : Nat → Prop} (hD : ∀ X, va_D A (wC cy ad X)) {X : St} {a1 : Int32} {r : Int32 × St} (hJ : jRt_takesLimit X a1 = some r) : Met l yX7_takesLimit (wsY yX7_takesLimit cX7_takesLimit 2 (some .boolean)) ({ frames := 1, cells := 0, slots := 0, locals := 22 } : Room) (prX D cy (wC cy ad) X [.ref (ad 3), .int a1]) (poI D (wC cy ad) A r.1 r.2) 0 0 A := sw_met (by decide +kernel) (Nat.le_of_ble_eq_true rfl) hD (fun p e s m args below meth c C => t_Rt_takesLimit C _ _ hJ)
set_option maxHeartbeats 4000000 in
set_option maxRecDepth 100000 in
theorem t_Rt_takesMark_22 {p : Program} {l : Launch} {e : Env} {s : State} {m : MethodId} {args : Array Value} {below : List Frame} {meth : Method} {c : Code} {D : va_G} {cy : Nat → ClassId} {ad : Nat → Nat} {A : Nat → Prop} (C : Cx p s m args meth c D cy cX7_takesMark 2 RX7 (some .boolean) A (wC cy ad)) {r : Int32 × St} : ∀ (X : St) (v1 : Int32), jRt_takesMark_22 X v1 = some r → SW p l e ({ frames := 0, cells := 0, slots := 0, locals := 0 } : Room) s m args below meth c D 2 A (wC cy ad) (MQ below (poI D (wC cy ad) A r.1 r.2) args s 0 0 A) X [(0, .ref (ad 3)), (1, .int v1)] 22 [] := by
  intro X v1 hJ
  unfold jRt_takesMark_22 at hJ
  refine sw_iload_n (pc := 22) C 1 dX7_takesMark_22 rfl rfl ?_
  refine sw_bipush (pc := 23) C (v := (59 : Int32)) dX7_takesMark_23 (by decide) ?_
  refine sw_icmp_ne (pc := 25) (tgt := 35) C dX7_takesMark_25 (by decide) (fun hb25 => ?_) (fun hb25 => ?_)
  · replace hJ := iten hb25 hJ
    refine sw_iconst (pc := 35) C (v := (0 : Int32)) dX7_takesMark_35 (by decide) ?_
    obtain rfl := Option.some.inj hJ
    exact sw_zret (pc := 36) (v := (0 : Int32)) C (by decide) dX7_takesMark_36
  · replace hJ := itep hb25 hJ
    refine sw_aload_n (pc := 28) C 0 dX7_takesMark_28 rfl rfl ?_
    refine sw_iconst (pc := 29) C (v := (3 : Int32)) dX7_takesMark_29 (by decide) ?_
    refine pC_3_0 (pc := 30) C wd_7_19 dX7_takesMark_30 ?_
    refine sw_iconst (pc := 33) C (v := (1 : Int32)) dX7_takesMark_33 (by decide) ?_
    obtain rfl := Option.some.inj hJ
    exact sw_zret (pc := 34) (v := (1 : Int32)) C (by decide) dX7_takesMark_34
set_option maxHeartbeats 4000000 in
set_option maxRecDepth 100000 in
theorem t_Rt_takesMark {p : Program} {l : Launch} {e : Env} {s : State} {m : MethodId} {args : Array Value} {below : List Frame} {meth : Method} {c : Code} {D : va_G} {cy : Nat → ClassId} {ad : Nat → Nat} {A : Nat → Prop} (C : Cx p s m args meth c D cy cX7_takesMark 2 RX7 (some .boolean) A (wC cy ad)) {r : Int32 × St} : ∀ (X : St) (a1 : Int32), jRt_takesMark X a1 = some r → SW p l e ({ frames := 0, cells := 0, slots := 0, locals := 0 } : Room) s m args below meth c D 2 A (wC cy ad) (MQ below (poI D (wC cy ad) A r.1 r.2) args s 0 0 A) X [(0, .ref (ad 3)), (1, .int a1)] 0 [] := by
  intro X a1 hJ
  unfold jRt_takesMark at hJ
  refine sw_iload_n (pc := 0) C 1 dX7_takesMark_0 rfl rfl ?_
  refine sw_bipush (pc := 1) C (v := (44 : Int32)) dX7_takesMark_1 (by decide) ?_
  refine sw_icmp_ne (pc := 3) (tgt := 22) C dX7_takesMark_3 (by decide) (fun hb3 => ?_) (fun hb3 => ?_)
  · replace hJ := iten hb3 hJ
    exact sw_sub [0, 1] (by rfl) (t_Rt_takesMark_22 C _ _ hJ)
  · replace hJ := itep hb3 hJ
    refine sw_aload_n (pc := 6) C 0 dX7_takesMark_6 rfl rfl ?_
    refine gC_3_3 (pc := 7) C wd_7_22 dX7_takesMark_7 ?_
    refine sw_bipush (pc := 10) C (v := (10 : Int32)) dX7_takesMark_10 (by decide) ?_
    refine sw_icmp_ge (pc := 12) (tgt := 22) C dX7_takesMark_12 (by decide) (fun hb12 => ?_) (fun hb12 => ?_)
    · replace hJ := itep hb12 hJ
      exact sw_sub [0, 1] (by rfl) (t_Rt_takesMark_22 C _ _ hJ)
    · replace hJ := iten hb12 hJ
      refine sw_aload_n (pc := 15) C 0 dX7_takesMark_15 rfl rfl ?_
      refine sw_iconst (pc := 16) C (v := (0 : Int32)) dX7_takesMark_16 (by decide) ?_
      refine pC_3_0 (pc := 17) C wd_7_19 dX7_takesMark_17 ?_
      refine sw_iconst (pc := 20) C (v := (1 : Int32)) dX7_takesMark_20 (by decide) ?_
      obtain rfl := Option.some.inj hJ
      exact sw_zret (pc := 21) (v := (1 : Int32)) C (by decide) dX7_takesMark_21
set_option maxHeartbeats 4000000 in
set_option maxRecDepth 100000 in
theorem k_Rt_takesMark {l : Launch} {D : va_G} {cy : Nat → ClassId} {ad : Nat → Nat} {A : Nat → Prop} (hD : ∀ X, va_D A (wC cy ad X)) {X : St} {a1 : Int32} {r : Int32 × St} (hJ : jRt_takesMark X a1 = some r) : Met l yX7_takesMark (wsY yX7_takesMark cX7_takesMark 2 (some .boolean)) ({ frames := 0, cells := 0, slots := 0, locals := 0 } : Room) (prX D cy (wC cy ad) X [.ref (ad 3), .int a1]) (poI D (wC cy ad) A r.1 r.2) 0 0 A := sw_met (by decide +kernel) (Nat.le_of_ble_eq_true rfl) hD (fun p e s m args below meth c C => t_Rt_takesMark C _ _ hJ)
set_option maxHeartbeats 4000000 in
set_option maxRecDepth 100000 in
theorem t_Rt_takesReplied {p : Program} {l : Launch} {e : Env} {s : State} {m : MethodId} {args : Array Value} {below : List Frame} {meth : Method} {c : Code} {D : va_G} {cy : Nat → ClassId} {ad : Nat → Nat} {A : Nat → Prop} (C : Cx p s m args meth c D cy cX7_takesReplied 4 RX7 (some .boolean) A (wC cy ad)) {r : Int32 × St} : ∀ (X : St) (a1 : Int32), jRt_takesReplied X a1 = some r → SW p l e ({ frames := 1, cells := 0, slots := 0, locals := 22 } : Room) s m args below meth c D 4 A (wC cy ad) (MQ below (poI D (wC cy ad) A r.1 r.2) args s 0 0 A) X [(0, .ref (ad 3)), (1, .int a1)] 0 [] := by
  intro X a1 hJ
  unfold jRt_takesReplied at hJ
  refine sw_iload_n (pc := 0) C 1 dX7_takesReplied_0 rfl rfl ?_
  refine sw_iconst (pc := 1) C (v := (0 : Int32)) dX7_takesReplied_1 (by decide) ?_
  refine sw_bipush (pc := 2) C (v := (6 : Int32)) dX7_takesReplied_2 (by decide) ?_
  obtain ⟨q4, hq4, hJ⟩ := bind_some hJ
  refine sw_callSN_i (pc := 4) C (st := []) (As := [.int a1, .int (0 : Int32), .int (6 : Int32)]) (k_T_isBetween C.2.2.2.2.2.2.1 hq4) pk_X9_isBetween nd_M6 ⟨Nat.le_of_ble_eq_true rfl, Nat.le_of_ble_eq_true rfl⟩ ⟨rfl, rfl⟩ rfl rfl (Nat.le_of_ble_eq_true rfl) dX7_takesReplied_4 ?_
  refine sw_if_eq (pc := 7) (tgt := 18) C dX7_takesReplied_7 (by decide) (fun hb7 => ?_) (fun hb7 => ?_)
  · replace hJ := itep hb7 hJ
    refine sw_iconst (pc := 18) C (v := (0 : Int32)) dX7_takesReplied_18 (by decide) ?_
    obtain rfl := Option.some.inj hJ
    exact sw_zret (pc := 19) (v := (0 : Int32)) C (by decide) dX7_takesReplied_19
  · replace hJ := iten hb7 hJ
    refine sw_iload_n (pc := 10) C 1 dX7_takesReplied_10 rfl rfl ?_
    refine sw_aload_n (pc := 11) C 0 dX7_takesReplied_11 rfl rfl ?_
    refine gC_3_1 (pc := 12) C wd_7_20 dX7_takesReplied_12 ?_
    refine sw_icmp_ne (pc := 15) (tgt := 20) C dX7_takesReplied_15 (by decide) (fun hb15 => ?_) (fun hb15 => ?_)
    · replace hJ := iten hb15 hJ
      refine sw_lconst (pc := 20) C (v := (1 : Int64)) dX7_takesReplied_20 (by decide) ?_
      refine sw_bipush (pc := 21) C (v := (7 : Int32)) dX7_takesReplied_21 (by decide) ?_
      refine sw_aload_n (pc := 23) C 0 dX7_takesReplied_23 rfl rfl ?_
      refine gC_3_1 (pc := 24) C wd_7_20 dX7_takesReplied_24 ?_
      refine sw_imul (pc := 27) C dX7_takesReplied_27 ?_
      refine sw_iload_n (pc := 28) C 1 dX7_takesReplied_28 rfl rfl ?_
      refine sw_iadd (pc := 29) C dX7_takesReplied_29 ?_
      refine sw_lshl (pc := 30) C dX7_takesReplied_30 ?_
      refine sw_lstore_n (pc := 31) C dX7_takesReplied_31 rfl (by decide) (ll2 := [(2, .long (lsh (1 : Int64) (((7 : Int32) * (sF X 49)) + a1))), (0, .ref (ad 3)), (1, .int a1)]) rfl ?_
      refine sw_aload_n (pc := 32) C 1 dX7_takesReplied_32 rfl rfl ?_
      refine gC_3_2 (pc := 33) C wd_7_21 dX7_takesReplied_33 ?_
      refine sw_lload_n (pc := 36) C 0 dX7_takesReplied_36 rfl rfl ?_
      refine sw_land (pc := 37) C dX7_takesReplied_37 ?_
      refine sw_lconst (pc := 38) C (v := (0 : Int64)) dX7_takesReplied_38 (by decide) ?_
      refine sw_lcmp (pc := 39) C dX7_takesReplied_39 ?_
      refine sw_if_eq (pc := 40) (tgt := 45) C dX7_takesReplied_40 (by decide) (fun hb40 => ?_) (fun hb40 => ?_)
      · replace hJ := itep hb40 hJ
        refine sw_aload_n (pc := 45) C 1 dX7_takesReplied_45 rfl rfl ?_
        refine sw_dup (pc := 46) C dX7_takesReplied_46 rfl ?_
        refine gC_3_2 (pc := 47) C wd_7_21 dX7_takesReplied_47 ?_
        refine sw_lload_n (pc := 50) C 0 dX7_takesReplied_50 rfl rfl ?_
        refine sw_lor (pc := 51) C dX7_takesReplied_51 ?_
        refine pC_3_2 (pc := 52) C wd_7_21 dX7_takesReplied_52 ?_
        refine sw_aload_n (pc := 55) C 1 dX7_takesReplied_55 rfl rfl ?_
        refine sw_dup (pc := 56) C dX7_takesReplied_56 rfl ?_
        refine gC_3_3 (pc := 57) C wd_7_22 dX7_takesReplied_57 ?_
        refine sw_iconst (pc := 60) C (v := (1 : Int32)) dX7_takesReplied_60 (by decide) ?_
        refine sw_iadd (pc := 61) C dX7_takesReplied_61 ?_
        refine pC_3_3 (pc := 62) C wd_7_22 dX7_takesReplied_62 ?_
        refine sw_aload_n (pc := 65) C 1 dX7_takesReplied_65 rfl rfl ?_
        refine sw_iconst (pc := 66) C (v := (2 : Int32)) dX7_takesReplied_66 (by decide) ?_
        refine pC_3_0 (pc := 67) C wd_7_19 dX7_takesReplied_67 ?_
        refine sw_iconst (pc := 70) C (v := (1 : Int32)) dX7_takesReplied_70 (by decide) ?_
        obtain rfl := Option.some.inj hJ
        exact sw_zret (pc := 71) (v := (1 : Int32)) C (by decide) dX7_takesReplied_71
      · replace hJ := iten hb40 hJ
        refine sw_iconst (pc := 43) C (v := (0 : Int32)) dX7_takesReplied_43 (by decide) ?_
        obtain rfl := Option.some.inj hJ
        exact sw_zret (pc := 44) (v := (0 : Int32)) C (by decide) dX7_takesReplied_44
    · replace hJ := itep hb15 hJ
      refine sw_iconst (pc := 18) C (v := (0 : Int32)) dX7_takesReplied_18 (by decide) ?_
      obtain rfl := Option.some.inj hJ
      exact sw_zret (pc := 19) (v := (0 : Int32)) C (by decide) dX7_takesReplied_19
set_option maxHeartbeats 4000000 in
set_option maxRecDepth 100000 in
theorem k_Rt_takesReplied {l : Launch} {D : va_G} {cy : Nat → ClassId} {ad : Nat → Nat} {A : Nat → Prop} (hD : ∀ X, va_D A (wC cy ad X)) {X : St} {a1 : Int32} {r : Int32 × St} (hJ : jRt_takesReplied X a1 = some r) : Met l yX7_takesReplied (wsY yX7_takesReplied cX7_takesReplied 4 (some .boolean)) ({ frames := 1, cells := 0, slots := 0, locals := 22 } : Room) (prX D cy (wC cy ad) X [.ref (ad 3), .int a1]) (poI D (wC cy ad) A r.1 r.2) 0 0 A := sw_met (by decide +kernel) (Nat.le_of_ble_eq_true rfl) hD (fun p e s m args below meth c C => t_Rt_takesReplied C _ _ hJ)
set_option maxHeartbeats 4000000 in
set_option maxRecDepth 100000 in
theorem t_Rt_takesReplier {p : Program} {l : Launch} {e : Env} {s : State} {m : MethodId} {args : Array Value} {below : List Frame} {meth : Method} {c : Code} {D : va_G} {cy : Nat → ClassId} {ad : Nat → Nat} {A : Nat → Prop} (C : Cx p s m args meth c D cy cX7_takesReplier 2 RX7 (some .boolean) A (wC cy ad)) {r : Int32 × St} : ∀ (X : St) (a1 : Int32), jRt_takesReplier X a1 = some r → SW p l e ({ frames := 1, cells := 0, slots := 0, locals := 22 } : Room) s m args below meth c D 2 A (wC cy ad) (MQ below (poI D (wC cy ad) A r.1 r.2) args s 0 0 A) X [(0, .ref (ad 3)), (1, .int a1)] 0 [] := by
  intro X a1 hJ
  unfold jRt_takesReplier at hJ
  refine sw_iload_n (pc := 0) C 1 dX7_takesReplier_0 rfl rfl ?_
  refine sw_iconst (pc := 1) C (v := (0 : Int32)) dX7_takesReplier_1 (by decide) ?_
  refine sw_bipush (pc := 2) C (v := (6 : Int32)) dX7_takesReplier_2 (by decide) ?_
  obtain ⟨q4, hq4, hJ⟩ := bind_some hJ
  refine sw_callSN_i (pc := 4) C (st := []) (As := [.int a1, .int (0 : Int32), .int (6 : Int32)]) (k_T_isBetween C.2.2.2.2.2.2.1 hq4) pk_X9_isBetween nd_M6 ⟨Nat.le_of_ble_eq_true rfl, Nat.le_of_ble_eq_true rfl⟩ ⟨rfl, rfl⟩ rfl rfl (Nat.le_of_ble_eq_true rfl) dX7_takesReplier_4 ?_
  refine sw_if_ne (pc := 7) (tgt := 12) C dX7_takesReplier_7 (by decide) (fun hb7 => ?_) (fun hb7 => ?_)
  · replace hJ := iten hb7 hJ
    refine sw_aload_n (pc := 12) C 0 dX7_takesReplier_12 rfl rfl ?_
    refine sw_iload_n (pc := 13) C 1 dX7_takesReplier_13 rfl rfl ?_
    refine pC_3_1 (pc := 14) C wd_7_20 dX7_takesReplier_14 ?_
    refine sw_aload_n (pc := 17) C 0 dX7_takesReplier_17 rfl rfl ?_
    refine sw_iconst (pc := 18) C (v := (1 : Int32)) dX7_takesReplier_18 (by decide) ?_
    refine pC_3_0 (pc := 19) C wd_7_19 dX7_takesReplier_19 ?_
    refine sw_iconst (pc := 22) C (v := (1 : Int32)) dX7_takesReplier_22 (by decide) ?_
    obtain rfl := Option.some.inj hJ
    exact sw_zret (pc := 23) (v := (1 : Int32)) C (by decide) dX7_takesReplier_23
  · replace hJ := itep hb7 hJ
    refine sw_iconst (pc := 10) C (v := (0 : Int32)) dX7_takesReplier_10 (by decide) ?_
    obtain rfl := Option.some.inj hJ
    exact sw_zret (pc := 11) (v := (0 : Int32)) C (by decide) dX7_takesReplier_11
set_option maxHeartbeats 4000000 in
set_option maxRecDepth 100000 in
theorem k_Rt_takesReplier {l : Launch} {D : va_G} {cy : Nat → ClassId} {ad : Nat → Nat} {A : Nat → Prop} (hD : ∀ X, va_D A (wC cy ad X)) {X : St} {a1 : Int32} {r : Int32 × St} (hJ : jRt_takesReplier X a1 = some r) : Met l yX7_takesReplier (wsY yX7_takesReplier cX7_takesReplier 2 (some .boolean)) ({ frames := 1, cells := 0, slots := 0, locals := 22 } : Room) (prX D cy (wC cy ad) X [.ref (ad 3), .int a1]) (poI D (wC cy ad) A r.1 r.2) 0 0 A := sw_met (by decide +kernel) (Nat.le_of_ble_eq_true rfl) hD (fun p e s m args below meth c C => t_Rt_takesReplier C _ _ hJ)
set_option maxHeartbeats 4000000 in
set_option maxRecDepth 100000 in
theorem t_Rt_takes {p : Program} {l : Launch} {e : Env} {s : State} {m : MethodId} {args : Array Value} {below : List Frame} {meth : Method} {c : Code} {D : va_G} {cy : Nat → ClassId} {ad : Nat → Nat} {A : Nat → Prop} (C : Cx p s m args meth c D cy cX7_takes 2 RX7 (some .boolean) A (wC cy ad)) {r : Int32 × St} : ∀ (X : St) (a1 : Int32), jRt_takes X a1 = some r → SW p l e ({ frames := 2, cells := 0, slots := 0, locals := 45 } : Room) s m args below meth c D 2 A (wC cy ad) (MQ below (poI D (wC cy ad) A r.1 r.2) args s 0 0 A) X [(0, .ref (ad 3)), (1, .int a1)] 0 [] := by
  intro X a1 hJ
  unfold jRt_takes at hJ
  refine sw_aload_n (pc := 0) C 0 dX7_takes_0 rfl rfl ?_
  refine gC_3_0 (pc := 1) C wd_7_19 dX7_takes_1 ?_
  by_cases hs4_0 : (sF X 48) = (0 : Int32)
  · replace hJ := itep hs4_0 hJ
    refine sw_tblIn (pc := 4) C (0 : Int32) (off := 32) (tgt := 36) dX7_takes_4 hs4_0 (by decide) (by decide) rfl (by decide) ?_
    refine sw_aload_n (pc := 36) C 0 dX7_takes_36 rfl rfl ?_
    refine sw_iload_n (pc := 37) C 1 dX7_takes_37 rfl rfl ?_
    refine sw_bipush (pc := 38) C (v := (48 : Int32)) dX7_takes_38 (by decide) ?_
    refine sw_isub (pc := 40) C dX7_takes_40 ?_
    obtain ⟨q41, hq41, hJ⟩ := bind_some hJ
    refine sw_callV_i (pc := 41) C (st := []) (As := [.int (a1 - (48 : Int32))]) (k_Rt_takesReplier C.2.2.2.2.2.2.1 hq41) pk_X7_takesReplier wd_8_18 3 rfl rfl rfl ⟨Nat.le_of_ble_eq_true rfl, Nat.le_of_ble_eq_true rfl⟩ ⟨rfl, rfl⟩ rfl rfl (Nat.le_of_ble_eq_true rfl) dX7_takes_41 ?_
    obtain ⟨hz44, hJ⟩ := gd hJ
    obtain rfl := Option.some.inj hJ
    exact sw_zret (pc := 44) (v := q41.1) C hz44 dX7_takes_44
  replace hJ := iten hs4_0 hJ
  by_cases hs4_1 : (sF X 48) = (1 : Int32)
  · replace hJ := itep hs4_1 hJ
    refine sw_tblIn (pc := 4) C (1 : Int32) (off := 41) (tgt := 45) dX7_takes_4 hs4_1 (by decide) (by decide) rfl (by decide) ?_
    refine sw_aload_n (pc := 45) C 0 dX7_takes_45 rfl rfl ?_
    refine sw_iload_n (pc := 46) C 1 dX7_takes_46 rfl rfl ?_
    refine sw_bipush (pc := 47) C (v := (48 : Int32)) dX7_takes_47 (by decide) ?_
    refine sw_isub (pc := 49) C dX7_takes_49 ?_
    obtain ⟨q50, hq50, hJ⟩ := bind_some hJ
    refine sw_callV_i (pc := 50) C (st := []) (As := [.int (a1 - (48 : Int32))]) (k_Rt_takesReplied C.2.2.2.2.2.2.1 hq50) pk_X7_takesReplied wd_8_22 3 rfl rfl rfl ⟨Nat.le_of_ble_eq_true rfl, Nat.le_of_ble_eq_true rfl⟩ ⟨rfl, rfl⟩ rfl rfl (Nat.le_of_ble_eq_true rfl) dX7_takes_50 ?_
    obtain ⟨hz53, hJ⟩ := gd hJ
    obtain rfl := Option.some.inj hJ
    exact sw_zret (pc := 53) (v := q50.1) C hz53 dX7_takes_53
  replace hJ := iten hs4_1 hJ
  by_cases hs4_2 : (sF X 48) = (2 : Int32)
  · replace hJ := itep hs4_2 hJ
    refine sw_tblIn (pc := 4) C (2 : Int32) (off := 50) (tgt := 54) dX7_takes_4 hs4_2 (by decide) (by decide) rfl (by decide) ?_
    refine sw_aload_n (pc := 54) C 0 dX7_takes_54 rfl rfl ?_
    refine sw_iload_n (pc := 55) C 1 dX7_takes_55 rfl rfl ?_
    obtain ⟨q56, hq56, hJ⟩ := bind_some hJ
    refine sw_callV_i (pc := 56) C (st := []) (As := [.int a1]) (k_Rt_takesMark C.2.2.2.2.2.2.1 hq56) pk_X7_takesMark wd_9_2 3 rfl rfl rfl ⟨Nat.le_of_ble_eq_true rfl, Nat.le_of_ble_eq_true rfl⟩ ⟨rfl, rfl⟩ rfl rfl (Nat.le_of_ble_eq_true rfl) dX7_takes_56 ?_
    obtain ⟨hz59, hJ⟩ := gd hJ
    obtain rfl := Option.some.inj hJ
    exact sw_zret (pc := 59) (v := q56.1) C hz59 dX7_takes_59
  replace hJ := iten hs4_2 hJ
  by_cases hs4_3 : (sF X 48) = (3 : Int32)
  · replace hJ := itep hs4_3 hJ
    refine sw_tblIn (pc := 4) C (3 : Int32) (off := 56) (tgt := 60) dX7_takes_4 hs4_3 (by decide) (by decide) rfl (by decide) ?_
    refine sw_aload_n (pc := 60) C 0 dX7_takes_60 rfl rfl ?_
    refine sw_iload_n (pc := 61) C 1 dX7_takes_61 rfl rfl ?_
    refine sw_bipush (pc := 62) C (v := (48 : Int32)) dX7_takes_62 (by decide) ?_
    refine sw_isub (pc := 64) C dX7_takes_64 ?_
    obtain ⟨q65, hq65, hJ⟩ := bind_some hJ
    refine sw_callV_i (pc := 65) C (st := []) (As := [.int (a1 - (48 : Int32))]) (k_Rt_takesLimit C.2.2.2.2.2.2.1 hq65) pk_X7_takesLimit wd_9_6 3 rfl rfl rfl ⟨Nat.le_of_ble_eq_true rfl, Nat.le_of_ble_eq_true rfl⟩ ⟨rfl, rfl⟩ rfl rfl (Nat.le_of_ble_eq_true rfl) dX7_takes_65 ?_
    obtain ⟨hz68, hJ⟩ := gd hJ
    obtain rfl := Option.some.inj hJ
    exact sw_zret (pc := 68) (v := q65.1) C hz68 dX7_takes_68
  replace hJ := iten hs4_3 hJ
  have e4_0 := tbl_ne (0 : Int32) (a := 0) hs4_0 (by decide)
  have e4_1 := tbl_ne (1 : Int32) (a := 1) hs4_1 (by decide)
  have e4_2 := tbl_ne (2 : Int32) (a := 2) hs4_2 (by decide)
  have e4_3 := tbl_ne (3 : Int32) (a := 3) hs4_3 (by decide)
  refine sw_tblOut (pc := 4) (tgt := 69) C dX7_takes_4 (by omega) (by decide) ?_
  refine sw_iconst (pc := 69) C (v := (0 : Int32)) dX7_takes_69 (by decide) ?_
  obtain rfl := Option.some.inj hJ
  exact sw_zret (pc := 70) (v := (0 : Int32)) C (by decide) dX7_takes_70
set_option maxHeartbeats 4000000 in
set_option maxRecDepth 100000 in
theorem k_Rt_takes {l : Launch} {D : va_G} {cy : Nat → ClassId} {ad : Nat → Nat} {A : Nat → Prop} (hD : ∀ X, va_D A (wC cy ad X)) {X : St} {a1 : Int32} {r : Int32 × St} (hJ : jRt_takes X a1 = some r) : Met l yX7_takes (wsY yX7_takes cX7_takes 2 (some .boolean)) ({ frames := 2, cells := 0, slots := 0, locals := 45 } : Room) (prX D cy (wC cy ad) X [.ref (ad 3), .int a1]) (poI D (wC cy ad) A r.1 r.2) 0 0 A := sw_met (by decide +kernel) (Nat.le_of_ble_eq_true rfl) hD (fun p e s m args below meth c C => t_Rt_takes C _ _ hJ)
set_option maxHeartbeats 4000000 in
set_option maxRecDepth 100000 in
theorem t_Pg_faultOf_r_6 {p : Program} {l : Launch} {e : Env} {s : State} {m : MethodId} {args : Array Value} {below : List Frame} {meth : Method} {c : Code} {D : va_G} {cy : Nat → ClassId} {ad : Nat → Nat} {A : Nat → Prop} (C : Cx p s m args meth c D cy cX5_faultOf 3 RX5 (some .int) A (wC cy ad)) {r : Int32 × St} : ∀ (n : Nat) (X : St) (v2 : Int32), jPg_faultOf_r_6 n X v2 = some r → SW p l e ({ frames := 3, cells := 0, slots := 0, locals := 66 } : Room) s m args below meth c D 3 A (wC cy ad) (MQ below (poI D (wC cy ad) A r.1 r.2) args s 0 0 A) X [(0, .ref (ad 1)), (1, .ref (ad 3)), (2, .int v2)] 6 [] := by
  intro n
  induction n with
  | zero => intro X v2 hJ; exact absurd (show (none : Option (Int32 × St)) = some r from hJ) (fun h => by cases h)
  | succ n ih =>
    intro X v2 hJ
    rw [jPg_faultOf_r_6] at hJ
    refine sw_iload_n (pc := 6) C 2 dX5_faultOf_6 rfl rfl ?_
    refine sw_aload_n (pc := 7) C 0 dX5_faultOf_7 rfl rfl ?_
    refine gC_1_1 (pc := 8) C wd_5_22 dX5_faultOf_8 ?_
    refine sw_icmp_ge (pc := 11) (tgt := 34) C dX5_faultOf_11 (by decide) (fun hb11 => ?_) (fun hb11 => ?_)
    · replace hJ := itep hb11 hJ
      refine sw_aload_n (pc := 34) C 0 dX5_faultOf_34 rfl rfl ?_
      refine gC_1_1 (pc := 35) C wd_5_22 dX5_faultOf_35 ?_
      obtain rfl := Option.some.inj hJ
      exact sw_iret (pc := 38) C dX5_faultOf_38
    · replace hJ := iten hb11 hJ
      refine sw_aload_n (pc := 14) C 1 dX5_faultOf_14 rfl rfl ?_
      refine sw_aload_n (pc := 15) C 0 dX5_faultOf_15 rfl rfl ?_
      refine sw_iload_n (pc := 16) C 2 dX5_faultOf_16 rfl rfl ?_
      obtain ⟨q17, hq17, hJ⟩ := bind_some hJ
      refine sw_callV_i (pc := 17) C (st := [.ref (ad 3)]) (As := [.int v2]) (k_Pg_letter C.2.2.2.2.2.2.1 hq17) pk_X5_letter wd_8_0 1 rfl rfl rfl ⟨Nat.le_of_ble_eq_true rfl, Nat.le_of_ble_eq_true rfl⟩ ⟨rfl, rfl⟩ rfl rfl (Nat.le_of_ble_eq_true rfl) dX5_faultOf_17 ?_
      obtain ⟨q20, hq20, hJ⟩ := bind_some hJ
      refine sw_callU_i (pc := 20) C (st := []) (As := [.int q17]) (n := 1) (owner := "TopSpeaks$Text") (x := ⟨"TopSpeaks$Text", "takes", "(I)Z"⟩) (k_Rt_takes C.2.2.2.2.2.2.1 hq20) wd_8_17 wd_8_16 wd_1_19 wd_8_15 wd_8_5 wd_8_4 (C.2.2.2.2.2.1.2.1 _ nd_D1) (by decide +kernel) 3 rfl rfl rfl ⟨Nat.le_of_ble_eq_true rfl, Nat.le_of_ble_eq_true rfl⟩ ⟨rfl, rfl⟩ rfl rfl (Nat.le_of_ble_eq_true rfl) dX5_faultOf_20 ?_
      refine sw_if_ne (pc := 23) (tgt := 28) C dX5_faultOf_23 (by decide) (fun hb23 => ?_) (fun hb23 => ?_)
      · replace hJ := iten hb23 hJ
        refine sw_iinc (pc := 28) C 2 dX5_faultOf_28 rfl (v := (v2 + (1 : Int32))) (congrArg (fun z => v2 + z) (by decide)) (by decide) (ll2 := [(2, .int (v2 + (1 : Int32))), (0, .ref (ad 1)), (1, .ref (ad 3))]) rfl ?_
        refine sw_goto (pc := 31) (tgt := 6) C dX5_faultOf_31 (by decide) ?_
        exact sw_sub [1, 2, 0] (by rfl) (ih _ _ hJ)
      · replace hJ := itep hb23 hJ
        refine sw_iload_n (pc := 26) C 2 dX5_faultOf_26 rfl rfl ?_
        obtain rfl := Option.some.inj hJ
        exact sw_iret (pc := 27) C dX5_faultOf_27
set_option maxHeartbeats 4000000 in
set_option maxRecDepth 100000 in
theorem t_Pg_faultOf_r {p : Program} {l : Launch} {e : Env} {s : State} {m : MethodId} {args : Array Value} {below : List Frame} {meth : Method} {c : Code} {D : va_G} {cy : Nat → ClassId} {ad : Nat → Nat} {A : Nat → Prop} (C : Cx p s m args meth c D cy cX5_faultOf 3 RX5 (some .int) A (wC cy ad)) {r : Int32 × St} : ∀ (X : St), jPg_faultOf_r X = some r → SW p l e ({ frames := 3, cells := 0, slots := 0, locals := 66 } : Room) s m args below meth c D 3 A (wC cy ad) (MQ below (poI D (wC cy ad) A r.1 r.2) args s 0 0 A) X [(0, .ref (ad 1)), (1, .ref (ad 3))] 0 [] := by
  intro X hJ
  unfold jPg_faultOf_r at hJ
  refine sw_aload_n (pc := 0) C 1 dX5_faultOf_0 rfl rfl ?_
  obtain ⟨q1, hq1, hJ⟩ := bind_some hJ
  refine sw_callU_v (pc := 1) C (st := []) (As := []) (n := 0) (owner := "TopSpeaks$Text") (x := ⟨"TopSpeaks$Text", "begin", "()V"⟩) (k_Rt_begin C.2.2.2.2.2.2.1 hq1) wd_7_18 wd_7_17 wd_1_19 wd_7_16 wd_7_10 wd_7_9 (C.2.2.2.2.2.1.2.1 _ nd_D0) (by decide +kernel) 3 rfl rfl rfl ⟨Nat.le_of_ble_eq_true rfl, Nat.le_of_ble_eq_true rfl⟩ ⟨rfl, rfl⟩ rfl rfl (Nat.le_of_ble_eq_true rfl) dX5_faultOf_1 ?_
  refine sw_iconst (pc := 4) C (v := (0 : Int32)) dX5_faultOf_4 (by decide) ?_
  refine sw_istore_n (pc := 5) C dX5_faultOf_5 rfl (by decide) (ll2 := [(2, .int (0 : Int32)), (0, .ref (ad 1)), (1, .ref (ad 3))]) rfl ?_
  exact sw_sub [1, 2, 0] (by rfl) (t_Pg_faultOf_r_6 C _ _ _ hJ)
set_option maxHeartbeats 4000000 in
set_option maxRecDepth 100000 in
theorem k_Pg_faultOf_r {l : Launch} {D : va_G} {cy : Nat → ClassId} {ad : Nat → Nat} {A : Nat → Prop} (hD : ∀ X, va_D A (wC cy ad X)) {X : St}  {r : Int32 × St} (hJ : jPg_faultOf_r X = some r) : Met l yX5_faultOf (wsY yX5_faultOf cX5_faultOf 3 (some .int)) ({ frames := 3, cells := 0, slots := 0, locals := 66 } : Room) (prX D cy (wC cy ad) X [.ref (ad 1), .ref (ad 3)]) (poI D (wC cy ad) A r.1 r.2) 0 0 A := sw_met (by decide +kernel) (Nat.le_of_ble_eq_true rfl) hD (fun p e s m args below meth c C => t_Pg_faultOf_r C _ hJ)
set_option maxHeartbeats 4000000 in
set_option maxRecDepth 100000 in
theorem t_Pg_faultOf_d_6 {p : Program} {l : Launch} {e : Env} {s : State} {m : MethodId} {args : Array Value} {below : List Frame} {meth : Method} {c : Code} {D : va_G} {cy : Nat → ClassId} {ad : Nat → Nat} {A : Nat → Prop} (C : Cx p s m args meth c D cy cX5_faultOf 3 RX5 (some .int) A (wC cy ad)) {r : Int32 × St} : ∀ (n : Nat) (X : St) (v2 : Int32), jPg_faultOf_d_6 n X v2 = some r → SW p l e ({ frames := 2, cells := 0, slots := 0, locals := 44 } : Room) s m args below meth c D 3 A (wC cy ad) (MQ below (poI D (wC cy ad) A r.1 r.2) args s 0 0 A) X [(0, .ref (ad 1)), (1, .ref (ad 4)), (2, .int v2)] 6 [] := by
  intro n
  induction n with
  | zero => intro X v2 hJ; exact absurd (show (none : Option (Int32 × St)) = some r from hJ) (fun h => by cases h)
  | succ n ih =>
    intro X v2 hJ
    rw [jPg_faultOf_d_6] at hJ
    refine sw_iload_n (pc := 6) C 2 dX5_faultOf_6 rfl rfl ?_
    refine sw_aload_n (pc := 7) C 0 dX5_faultOf_7 rfl rfl ?_
    refine gC_1_1 (pc := 8) C wd_5_22 dX5_faultOf_8 ?_
    refine sw_icmp_ge (pc := 11) (tgt := 34) C dX5_faultOf_11 (by decide) (fun hb11 => ?_) (fun hb11 => ?_)
    · replace hJ := itep hb11 hJ
      refine sw_aload_n (pc := 34) C 0 dX5_faultOf_34 rfl rfl ?_
      refine gC_1_1 (pc := 35) C wd_5_22 dX5_faultOf_35 ?_
      obtain rfl := Option.some.inj hJ
      exact sw_iret (pc := 38) C dX5_faultOf_38
    · replace hJ := iten hb11 hJ
      refine sw_aload_n (pc := 14) C 1 dX5_faultOf_14 rfl rfl ?_
      refine sw_aload_n (pc := 15) C 0 dX5_faultOf_15 rfl rfl ?_
      refine sw_iload_n (pc := 16) C 2 dX5_faultOf_16 rfl rfl ?_
      obtain ⟨q17, hq17, hJ⟩ := bind_some hJ
      refine sw_callV_i (pc := 17) C (st := [.ref (ad 4)]) (As := [.int v2]) (k_Pg_letter C.2.2.2.2.2.2.1 hq17) pk_X5_letter wd_8_0 1 rfl rfl rfl ⟨Nat.le_of_ble_eq_true rfl, Nat.le_of_ble_eq_true rfl⟩ ⟨rfl, rfl⟩ rfl rfl (Nat.le_of_ble_eq_true rfl) dX5_faultOf_17 ?_
      obtain ⟨q20, hq20, hJ⟩ := bind_some hJ
      refine sw_callU_i (pc := 20) C (st := []) (As := [.int q17]) (n := 1) (owner := "TopSpeaks$Text") (x := ⟨"TopSpeaks$Text", "takes", "(I)Z"⟩) (k_Dt_takes C.2.2.2.2.2.2.1 hq20) wd_8_8 wd_8_7 wd_1_23 wd_8_6 wd_8_5 wd_8_4 (C.2.2.2.2.2.1.2.1 _ nd_D1) (by decide +kernel) 4 rfl rfl rfl ⟨Nat.le_of_ble_eq_true rfl, Nat.le_of_ble_eq_true rfl⟩ ⟨rfl, rfl⟩ rfl rfl (Nat.le_of_ble_eq_true rfl) dX5_faultOf_20 ?_
      refine sw_if_ne (pc := 23) (tgt := 28) C dX5_faultOf_23 (by decide) (fun hb23 => ?_) (fun hb23 => ?_)
      · replace hJ := iten hb23 hJ
        refine sw_iinc (pc := 28) C 2 dX5_faultOf_28 rfl (v := (v2 + (1 : Int32))) (congrArg (fun z => v2 + z) (by decide)) (by decide) (ll2 := [(2, .int (v2 + (1 : Int32))), (0, .ref (ad 1)), (1, .ref (ad 4))]) rfl ?_
        refine sw_goto (pc := 31) (tgt := 6) C dX5_faultOf_31 (by decide) ?_
        exact sw_sub [1, 2, 0] (by rfl) (ih _ _ hJ)
      · replace hJ := itep hb23 hJ
        refine sw_iload_n (pc := 26) C 2 dX5_faultOf_26 rfl rfl ?_
        obtain rfl := Option.some.inj hJ
        exact sw_iret (pc := 27) C dX5_faultOf_27
set_option maxHeartbeats 4000000 in
set_option maxRecDepth 100000 in
theorem t_Pg_faultOf_d {p : Program} {l : Launch} {e : Env} {s : State} {m : MethodId} {args : Array Value} {below : List Frame} {meth : Method} {c : Code} {D : va_G} {cy : Nat → ClassId} {ad : Nat → Nat} {A : Nat → Prop} (C : Cx p s m args meth c D cy cX5_faultOf 3 RX5 (some .int) A (wC cy ad)) {r : Int32 × St} : ∀ (X : St), jPg_faultOf_d X = some r → SW p l e ({ frames := 2, cells := 0, slots := 0, locals := 44 } : Room) s m args below meth c D 3 A (wC cy ad) (MQ below (poI D (wC cy ad) A r.1 r.2) args s 0 0 A) X [(0, .ref (ad 1)), (1, .ref (ad 4))] 0 [] := by
  intro X hJ
  unfold jPg_faultOf_d at hJ
  refine sw_aload_n (pc := 0) C 1 dX5_faultOf_0 rfl rfl ?_
  obtain ⟨q1, hq1, hJ⟩ := bind_some hJ
  refine sw_callU_v (pc := 1) C (st := []) (As := []) (n := 0) (owner := "TopSpeaks$Text") (x := ⟨"TopSpeaks$Text", "begin", "()V"⟩) (k_Dt_begin C.2.2.2.2.2.2.1 hq1) wd_7_13 wd_7_12 wd_1_23 wd_7_11 wd_7_10 wd_7_9 (C.2.2.2.2.2.1.2.1 _ nd_D0) (by decide +kernel) 4 rfl rfl rfl ⟨Nat.le_of_ble_eq_true rfl, Nat.le_of_ble_eq_true rfl⟩ ⟨rfl, rfl⟩ rfl rfl (Nat.le_of_ble_eq_true rfl) dX5_faultOf_1 ?_
  refine sw_iconst (pc := 4) C (v := (0 : Int32)) dX5_faultOf_4 (by decide) ?_
  refine sw_istore_n (pc := 5) C dX5_faultOf_5 rfl (by decide) (ll2 := [(2, .int (0 : Int32)), (0, .ref (ad 1)), (1, .ref (ad 4))]) rfl ?_
  exact sw_sub [1, 2, 0] (by rfl) (t_Pg_faultOf_d_6 C _ _ _ hJ)
set_option maxHeartbeats 4000000 in
set_option maxRecDepth 100000 in
theorem k_Pg_faultOf_d {l : Launch} {D : va_G} {cy : Nat → ClassId} {ad : Nat → Nat} {A : Nat → Prop} (hD : ∀ X, va_D A (wC cy ad X)) {X : St}  {r : Int32 × St} (hJ : jPg_faultOf_d X = some r) : Met l yX5_faultOf (wsY yX5_faultOf cX5_faultOf 3 (some .int)) ({ frames := 2, cells := 0, slots := 0, locals := 44 } : Room) (prX D cy (wC cy ad) X [.ref (ad 1), .ref (ad 4)]) (poI D (wC cy ad) A r.1 r.2) 0 0 A := sw_met (by decide +kernel) (Nat.le_of_ble_eq_true rfl) hD (fun p e s m args below meth c C => t_Pg_faultOf_d C _ hJ)
set_option maxHeartbeats 4000000 in
set_option maxRecDepth 100000 in
theorem t_Rt_canEnd_16 {p : Program} {l : Launch} {e : Env} {s : State} {m : MethodId} {args : Array Value} {below : List Frame} {meth : Method} {c : Code} {D : va_G} {cy : Nat → ClassId} {ad : Nat → Nat} {A : Nat → Prop} (C : Cx p s m args meth c D cy cX7_canEnd 1 RX7 (some .boolean) A (wC cy ad)) {X : St} {r : Int32} : jRt_canEnd_16 X = some r → SW p l e ({ frames := 0, cells := 0, slots := 0, locals := 0 } : Room) s m args below meth c D 1 A (wC cy ad) (MQ below (poI D (wC cy ad) A r X) args s 0 0 A) X [] 16 [] := by
  intro  hJ
  unfold jRt_canEnd_16 at hJ
  refine sw_iconst (pc := 16) C (v := (1 : Int32)) dX7_canEnd_16 (by decide) ?_
  refine sw_goto (pc := 17) (tgt := 21) C dX7_canEnd_17 (by decide) ?_
  obtain rfl := Option.some.inj hJ
  exact sw_zret (pc := 21) (v := (1 : Int32)) C (by decide) dX7_canEnd_21
set_option maxHeartbeats 4000000 in
set_option maxRecDepth 100000 in
theorem t_Rt_canEnd {p : Program} {l : Launch} {e : Env} {s : State} {m : MethodId} {args : Array Value} {below : List Frame} {meth : Method} {c : Code} {D : va_G} {cy : Nat → ClassId} {ad : Nat → Nat} {A : Nat → Prop} (C : Cx p s m args meth c D cy cX7_canEnd 1 RX7 (some .boolean) A (wC cy ad)) {X : St} {r : Int32} : jRt_canEnd X = some r → SW p l e ({ frames := 0, cells := 0, slots := 0, locals := 0 } : Room) s m args below meth c D 1 A (wC cy ad) (MQ below (poI D (wC cy ad) A r X) args s 0 0 A) X [(0, .ref (ad 3))] 0 [] := by
  intro  hJ
  unfold jRt_canEnd at hJ
  refine sw_aload_n (pc := 0) C 0 dX7_canEnd_0 rfl rfl ?_
  refine gC_3_0 (pc := 1) C wd_7_19 dX7_canEnd_1 ?_
  refine sw_iconst (pc := 4) C (v := (2 : Int32)) dX7_canEnd_4 (by decide) ?_
  refine sw_icmp_eq (pc := 5) (tgt := 16) C dX7_canEnd_5 (by decide) (fun hb5 => ?_) (fun hb5 => ?_)
  · replace hJ := itep hb5 hJ
    exact sw_sub [] (by rfl) (t_Rt_canEnd_16 C hJ)
  · replace hJ := iten hb5 hJ
    refine sw_aload_n (pc := 8) C 0 dX7_canEnd_8 rfl rfl ?_
    refine gC_3_0 (pc := 9) C wd_7_19 dX7_canEnd_9 ?_
    refine sw_iconst (pc := 12) C (v := (4 : Int32)) dX7_canEnd_12 (by decide) ?_
    refine sw_icmp_ne (pc := 13) (tgt := 20) C dX7_canEnd_13 (by decide) (fun hb13 => ?_) (fun hb13 => ?_)
    · replace hJ := iten hb13 hJ
      refine sw_iconst (pc := 20) C (v := (0 : Int32)) dX7_canEnd_20 (by decide) ?_
      obtain rfl := Option.some.inj hJ
      exact sw_zret (pc := 21) (v := (0 : Int32)) C (by decide) dX7_canEnd_21
    · replace hJ := itep hb13 hJ
      exact sw_sub [] (by rfl) (t_Rt_canEnd_16 C hJ)
set_option maxHeartbeats 4000000 in
set_option maxRecDepth 100000 in
theorem k_Rt_canEnd {l : Launch} {D : va_G} {cy : Nat → ClassId} {ad : Nat → Nat} {A : Nat → Prop} (hD : ∀ X, va_D A (wC cy ad X)) {X : St}  {r : Int32} (hJ : jRt_canEnd X = some r) : Met l yX7_canEnd (wsY yX7_canEnd cX7_canEnd 1 (some .boolean)) ({ frames := 0, cells := 0, slots := 0, locals := 0 } : Room) (prX D cy (wC cy ad) X [.ref (ad 3)]) (poI D (wC cy ad) A r X) 0 0 A := sw_met (by decide +kernel) (Nat.le_of_ble_eq_true rfl) hD (fun p e s m args below meth c C => t_Rt_canEnd C hJ)
set_option maxHeartbeats 4000000 in
set_option maxRecDepth 100000 in
theorem t_Pg_isWhole_r {p : Program} {l : Launch} {e : Env} {s : State} {m : MethodId} {args : Array Value} {below : List Frame} {meth : Method} {c : Code} {D : va_G} {cy : Nat → ClassId} {ad : Nat → Nat} {A : Nat → Prop} (C : Cx p s m args meth c D cy cX5_isWhole 2 RX5 (some .boolean) A (wC cy ad)) {r : Int32 × St} : ∀ (X : St), jPg_isWhole_r X = some r → SW p l e ({ frames := 4, cells := 0, slots := 0, locals := 88 } : Room) s m args below meth c D 2 A (wC cy ad) (MQ below (poI D (wC cy ad) A r.1 r.2) args s 0 0 A) X [(0, .ref (ad 1)), (1, .ref (ad 3))] 0 [] := by
  intro X hJ
  unfold jPg_isWhole_r at hJ
  refine sw_aload_n (pc := 0) C 0 dX5_isWhole_0 rfl rfl ?_
  refine sw_aload_n (pc := 1) C 1 dX5_isWhole_1 rfl rfl ?_
  obtain ⟨q2, hq2, hJ⟩ := bind_some hJ
  refine sw_callV_i (pc := 2) C (st := []) (As := [.ref (ad 3)]) (k_Pg_faultOf_r C.2.2.2.2.2.2.1 hq2) pk_X5_faultOf wd_10_20 1 rfl rfl rfl ⟨Nat.le_of_ble_eq_true rfl, Nat.le_of_ble_eq_true rfl⟩ ⟨rfl, rfl⟩ rfl rfl (Nat.le_of_ble_eq_true rfl) dX5_isWhole_2 ?_
  refine sw_aload_n (pc := 5) C 0 dX5_isWhole_5 rfl rfl ?_
  refine gC_1_1 (pc := 6) C wd_5_22 dX5_isWhole_6 ?_
  refine sw_icmp_ne (pc := 9) (tgt := 23) C dX5_isWhole_9 (by decide) (fun hb9 => ?_) (fun hb9 => ?_)
  · replace hJ := iten hb9 hJ
    refine sw_iconst (pc := 23) C (v := (0 : Int32)) dX5_isWhole_23 (by decide) ?_
    obtain rfl := Option.some.inj hJ
    exact sw_zret (pc := 24) (v := (0 : Int32)) C (by decide) dX5_isWhole_24
  · replace hJ := itep hb9 hJ
    refine sw_aload_n (pc := 12) C 1 dX5_isWhole_12 rfl rfl ?_
    obtain ⟨q13, hq13, hJ⟩ := bind_some hJ
    refine sw_callU_i (pc := 13) C (st := []) (As := []) (n := 0) (owner := "TopSpeaks$Text") (x := ⟨"TopSpeaks$Text", "canEnd", "()Z"⟩) (k_Rt_canEnd C.2.2.2.2.2.2.1 hq13) wd_11_4 wd_11_3 wd_1_19 wd_11_2 wd_10_22 wd_10_21 (C.2.2.2.2.2.1.2.1 _ nd_D2) (by decide +kernel) 3 rfl rfl rfl ⟨Nat.le_of_ble_eq_true rfl, Nat.le_of_ble_eq_true rfl⟩ ⟨rfl, rfl⟩ rfl rfl (Nat.le_of_ble_eq_true rfl) dX5_isWhole_13 ?_
    refine sw_if_eq (pc := 16) (tgt := 23) C dX5_isWhole_16 (by decide) (fun hb16 => ?_) (fun hb16 => ?_)
    · replace hJ := itep hb16 hJ
      refine sw_iconst (pc := 23) C (v := (0 : Int32)) dX5_isWhole_23 (by decide) ?_
      obtain rfl := Option.some.inj hJ
      exact sw_zret (pc := 24) (v := (0 : Int32)) C (by decide) dX5_isWhole_24
    · replace hJ := iten hb16 hJ
      refine sw_iconst (pc := 19) C (v := (1 : Int32)) dX5_isWhole_19 (by decide) ?_
      refine sw_goto (pc := 20) (tgt := 24) C dX5_isWhole_20 (by decide) ?_
      obtain rfl := Option.some.inj hJ
      exact sw_zret (pc := 24) (v := (1 : Int32)) C (by decide) dX5_isWhole_24
set_option maxHeartbeats 4000000 in
set_option maxRecDepth 100000 in
theorem k_Pg_isWhole_r {l : Launch} {D : va_G} {cy : Nat → ClassId} {ad : Nat → Nat} {A : Nat → Prop} (hD : ∀ X, va_D A (wC cy ad X)) {X : St}  {r : Int32 × St} (hJ : jPg_isWhole_r X = some r) : Met l yX5_isWhole (wsY yX5_isWhole cX5_isWhole 2 (some .boolean)) ({ frames := 4, cells := 0, slots := 0, locals := 88 } : Room) (prX D cy (wC cy ad) X [.ref (ad 1), .ref (ad 3)]) (poI D (wC cy ad) A r.1 r.2) 0 0 A := sw_met (by decide +kernel) (Nat.le_of_ble_eq_true rfl) hD (fun p e s m args below meth c C => t_Pg_isWhole_r C _ hJ)
set_option maxHeartbeats 4000000 in
set_option maxRecDepth 100000 in
theorem t_Pg_isWhole_d {p : Program} {l : Launch} {e : Env} {s : State} {m : MethodId} {args : Array Value} {below : List Frame} {meth : Method} {c : Code} {D : va_G} {cy : Nat → ClassId} {ad : Nat → Nat} {A : Nat → Prop} (C : Cx p s m args meth c D cy cX5_isWhole 2 RX5 (some .boolean) A (wC cy ad)) {r : Int32 × St} : ∀ (X : St), jPg_isWhole_d X = some r → SW p l e ({ frames := 3, cells := 0, slots := 0, locals := 66 } : Room) s m args below meth c D 2 A (wC cy ad) (MQ below (poI D (wC cy ad) A r.1 r.2) args s 0 0 A) X [(0, .ref (ad 1)), (1, .ref (ad 4))] 0 [] := by
  intro X hJ
  unfold jPg_isWhole_d at hJ
  refine sw_aload_n (pc := 0) C 0 dX5_isWhole_0 rfl rfl ?_
  refine sw_aload_n (pc := 1) C 1 dX5_isWhole_1 rfl rfl ?_
  obtain ⟨q2, hq2, hJ⟩ := bind_some hJ
  refine sw_callV_i (pc := 2) C (st := []) (As := [.ref (ad 4)]) (k_Pg_faultOf_d C.2.2.2.2.2.2.1 hq2) pk_X5_faultOf wd_10_20 1 rfl rfl rfl ⟨Nat.le_of_ble_eq_true rfl, Nat.le_of_ble_eq_true rfl⟩ ⟨rfl, rfl⟩ rfl rfl (Nat.le_of_ble_eq_true rfl) dX5_isWhole_2 ?_
  refine sw_aload_n (pc := 5) C 0 dX5_isWhole_5 rfl rfl ?_
  refine gC_1_1 (pc := 6) C wd_5_22 dX5_isWhole_6 ?_
  refine sw_icmp_ne (pc := 9) (tgt := 23) C dX5_isWhole_9 (by decide) (fun hb9 => ?_) (fun hb9 => ?_)
  · replace hJ := iten hb9 hJ
    refine sw_iconst (pc := 23) C (v := (0 : Int32)) dX5_isWhole_23 (by decide) ?_
    obtain rfl := Option.some.inj hJ
    exact sw_zret (pc := 24) (v := (0 : Int32)) C (by decide) dX5_isWhole_24
  · replace hJ := itep hb9 hJ
    refine sw_aload_n (pc := 12) C 1 dX5_isWhole_12 rfl rfl ?_
    obtain ⟨q13, hq13, hJ⟩ := bind_some hJ
    refine sw_callU_i (pc := 13) C (st := []) (As := []) (n := 0) (owner := "TopSpeaks$Text") (x := ⟨"TopSpeaks$Text", "canEnd", "()Z"⟩) (k_Dt_canEnd C.2.2.2.2.2.2.1 hq13) wd_11_1 wd_11_0 wd_1_23 wd_10_23 wd_10_22 wd_10_21 (C.2.2.2.2.2.1.2.1 _ nd_D2) (by decide +kernel) 4 rfl rfl rfl ⟨Nat.le_of_ble_eq_true rfl, Nat.le_of_ble_eq_true rfl⟩ ⟨rfl, rfl⟩ rfl rfl (Nat.le_of_ble_eq_true rfl) dX5_isWhole_13 ?_
    refine sw_if_eq (pc := 16) (tgt := 23) C dX5_isWhole_16 (by decide) (fun hb16 => ?_) (fun hb16 => ?_)
    · replace hJ := itep hb16 hJ
      refine sw_iconst (pc := 23) C (v := (0 : Int32)) dX5_isWhole_23 (by decide) ?_
      obtain rfl := Option.some.inj hJ
      exact sw_zret (pc := 24) (v := (0 : Int32)) C (by decide) dX5_isWhole_24
    · replace hJ := iten hb16 hJ
      refine sw_iconst (pc := 19) C (v := (1 : Int32)) dX5_isWhole_19 (by decide) ?_
      refine sw_goto (pc := 20) (tgt := 24) C dX5_isWhole_20 (by decide) ?_
      obtain rfl := Option.some.inj hJ
      exact sw_zret (pc := 24) (v := (1 : Int32)) C (by decide) dX5_isWhole_24
set_option maxHeartbeats 4000000 in
set_option maxRecDepth 100000 in
theorem k_Pg_isWhole_d {l : Launch} {D : va_G} {cy : Nat → ClassId} {ad : Nat → Nat} {A : Nat → Prop} (hD : ∀ X, va_D A (wC cy ad X)) {X : St}  {r : Int32 × St} (hJ : jPg_isWhole_d X = some r) : Met l yX5_isWhole (wsY yX5_isWhole cX5_isWhole 2 (some .boolean)) ({ frames := 3, cells := 0, slots := 0, locals := 66 } : Room) (prX D cy (wC cy ad) X [.ref (ad 1), .ref (ad 4)]) (poI D (wC cy ad) A r.1 r.2) 0 0 A := sw_met (by decide +kernel) (Nat.le_of_ble_eq_true rfl) hD (fun p e s m args below meth c C => t_Pg_isWhole_d C _ hJ)
set_option maxHeartbeats 4000000 in
set_option maxRecDepth 100000 in
theorem t_Ro_heightOf_7 {p : Program} {l : Launch} {e : Env} {s : State} {m : MethodId} {args : Array Value} {below : List Frame} {meth : Method} {c : Code} {D : va_G} {cy : Nat → ClassId} {ad : Nat → Nat} {A : Nat → Prop} (C : Cx p s m args meth c D cy cX6_heightOf 4 RX6 (some .int) A (wC cy ad)) {X : St} {r : Int32} : ∀ (n : Nat) (v1 : Int32) (v2 : Int32) (v3 : Int32), jRo_heightOf_7 n v1 v2 v3 = some r → SW p l e ({ frames := 1, cells := 0, slots := 0, locals := 21 } : Room) s m args below meth c D 4 A (wC cy ad) (MQ below (poI D (wC cy ad) A r X) args s 0 0 A) X [(1, .int v1), (2, .int v2), (3, .int v3)] 7 [] := by
  intro n
  induction n with
  | zero => intro v1 v2 v3 hJ; exact absurd (show (none : Option (Int32)) = some r from hJ) (fun h => by cases h)
  | succ n ih =>
    intro v1 v2 v3 hJ
    rw [jRo_heightOf_7] at hJ
    refine sw_iload_n (pc := 7) C 1 dX6_heightOf_7 rfl rfl ?_
    refine sw_if_le (pc := 8) (tgt := 30) C dX6_heightOf_8 (by decide) (fun hb8 => ?_) (fun hb8 => ?_)
    · replace hJ := itep hb8 hJ
      refine sw_iload_n (pc := 30) C 1 dX6_heightOf_30 rfl rfl ?_
      obtain rfl := Option.some.inj hJ
      exact sw_iret (pc := 31) C dX6_heightOf_31
    · replace hJ := iten hb8 hJ
      refine sw_iload_n (pc := 11) C 2 dX6_heightOf_11 rfl rfl ?_
      obtain ⟨q12, hq12, hJ⟩ := bind_some hJ
      refine sw_callS_i (pc := 12) C (st := []) (As := [.int v3]) (k_Ro_top C.2.2.2.2.2.2.1 hq12) pk_X6_top wd_15_23 ⟨Nat.le_of_ble_eq_true rfl, Nat.le_of_ble_eq_true rfl⟩ ⟨rfl, rfl⟩ rfl rfl (Nat.le_of_ble_eq_true rfl) dX6_heightOf_12 ?_
      refine sw_iload_n (pc := 15) C 0 dX6_heightOf_15 rfl rfl ?_
      refine sw_icmp_eq (pc := 16) (tgt := 30) C dX6_heightOf_16 (by decide) (fun hb16 => ?_) (fun hb16 => ?_)
      · replace hJ := itep hb16 hJ
        refine sw_iload_n (pc := 30) C 1 dX6_heightOf_30 rfl rfl ?_
        obtain rfl := Option.some.inj hJ
        exact sw_iret (pc := 31) C dX6_heightOf_31
      · replace hJ := iten hb16 hJ
        refine sw_iload_n (pc := 19) C 2 dX6_heightOf_19 rfl rfl ?_
        obtain ⟨q20, hq20, hJ⟩ := bind_some hJ
        refine sw_callS_i (pc := 20) C (st := []) (As := [.int v3]) (k_Ro_belowTop C.2.2.2.2.2.2.1 hq20) pk_X6_belowTop wd_16_2 ⟨Nat.le_of_ble_eq_true rfl, Nat.le_of_ble_eq_true rfl⟩ ⟨rfl, rfl⟩ rfl rfl (Nat.le_of_ble_eq_true rfl) dX6_heightOf_20 ?_
        refine sw_istore_n (pc := 23) C dX6_heightOf_23 rfl (by decide) (ll2 := [(3, .int q20), (1, .int v1), (2, .int v2)]) rfl ?_
        refine sw_iinc (pc := 24) C 2 dX6_heightOf_24 rfl (v := (v2 + (-1 : Int32))) (congrArg (fun z => v2 + z) (by decide)) (by decide) (ll2 := [(2, .int (v2 + (-1 : Int32))), (3, .int q20), (1, .int v1)]) rfl ?_
        refine sw_goto (pc := 27) (tgt := 7) C dX6_heightOf_27 (by decide) ?_
        exact sw_sub [2, 0, 1] (by rfl) (ih _ _ _ hJ)
set_option maxHeartbeats 4000000 in
set_option maxRecDepth 100000 in
theorem t_Ro_heightOf {p : Program} {l : Launch} {e : Env} {s : State} {m : MethodId} {args : Array Value} {below : List Frame} {meth : Method} {c : Code} {D : va_G} {cy : Nat → ClassId} {ad : Nat → Nat} {A : Nat → Prop} (C : Cx p s m args meth c D cy cX6_heightOf 4 RX6 (some .int) A (wC cy ad)) {X : St} {r : Int32} : ∀ (a0 : Int32) (a1 : Int32), jRo_heightOf a0 a1 = some r → SW p l e ({ frames := 1, cells := 0, slots := 0, locals := 21 } : Room) s m args below meth c D 4 A (wC cy ad) (MQ below (poI D (wC cy ad) A r X) args s 0 0 A) X [(0, .int a0), (1, .int a1)] 0 [] := by
  intro a0 a1 hJ
  unfold jRo_heightOf at hJ
  refine sw_iload_n (pc := 0) C 0 dX6_heightOf_0 rfl rfl ?_
  obtain ⟨q1, hq1, hJ⟩ := bind_some hJ
  refine sw_callS_i (pc := 1) C (st := []) (As := [.int a0]) (k_Ro_size C.2.2.2.2.2.2.1 hq1) pk_X6_size wd_15_20 ⟨Nat.le_of_ble_eq_true rfl, Nat.le_of_ble_eq_true rfl⟩ ⟨rfl, rfl⟩ rfl rfl (Nat.le_of_ble_eq_true rfl) dX6_heightOf_1 ?_
  refine sw_istore_n (pc := 4) C dX6_heightOf_4 rfl (by decide) (ll2 := [(2, .int q1), (0, .int a0), (1, .int a1)]) rfl ?_
  refine sw_iload_n (pc := 5) C 1 dX6_heightOf_5 rfl rfl ?_
  refine sw_istore_n (pc := 6) C dX6_heightOf_6 rfl (by decide) (ll2 := [(3, .int a0), (2, .int q1), (0, .int a0), (1, .int a1)]) rfl ?_
  exact sw_sub [3, 1, 0] (by rfl) (t_Ro_heightOf_7 C _ _ _ _ hJ)
set_option maxHeartbeats 4000000 in
set_option maxRecDepth 100000 in
theorem k_Ro_heightOf {l : Launch} {D : va_G} {cy : Nat → ClassId} {ad : Nat → Nat} {A : Nat → Prop} (hD : ∀ X, va_D A (wC cy ad X)) {X : St} {a0 : Int32} {a1 : Int32} {r : Int32} (hJ : jRo_heightOf a0 a1 = some r) : Met l yX6_heightOf (wsY yX6_heightOf cX6_heightOf 4 (some .int)) ({ frames := 1, cells := 0, slots := 0, locals := 21 } : Room) (prX D cy (wC cy ad) X [.int a0, .int a1]) (poI D (wC cy ad) A r X) 0 0 A := sw_met (by decide +kernel) (Nat.le_of_ble_eq_true rfl) hD (fun p e s m args below meth c C => t_Ro_heightOf C _ _ hJ)
set_option maxHeartbeats 4000000 in
set_option maxRecDepth 100000 in
theorem t_Ro_without_40 {p : Program} {l : Launch} {e : Env} {s : State} {m : MethodId} {args : Array Value} {below : List Frame} {meth : Method} {c : Code} {D : va_G} {cy : Nat → ClassId} {ad : Nat → Nat} {A : Nat → Prop} (C : Cx p s m args meth c D cy cX6_without 6 RX6 (some .int) A (wC cy ad)) {X : St} {k10 : Int32 → Int32 → Int32 → Int32 → Int32 → Option (Int32)} {r : Int32} (h10 : ∀ (v0 : Int32) (v1 : Int32) (v2 : Int32) (v3 : Int32) (v4 : Int32), k10 v0 v1 v2 v3 v4 = some r → SW p l e ({ frames := 2, cells := 0, slots := 0, locals := 43 } : Room) s m args below meth c D 6 A (wC cy ad) (MQ below (poI D (wC cy ad) A r X) args s 0 0 A) X [(0, .int v0), (1, .int v1), (2, .int v2), (3, .int v3), (4, .int v4)] 10 []) : ∀ (v0 : Int32) (v1 : Int32) (v3 : Int32) (v4 : Int32) (s0 : Int32), jRo_without_40 k10 v0 v1 v3 v4 s0 = some r → SW p l e ({ frames := 2, cells := 0, slots := 0, locals := 43 } : Room) s m args below meth c D 6 A (wC cy ad) (MQ below (poI D (wC cy ad) A r X) args s 0 0 A) X [(0, .int v0), (1, .int v1), (3, .int v3), (4, .int v4)] 40 [.int s0] := by
  intro v0 v1 v3 v4 s0 hJ
  unfold jRo_without_40 at hJ
  refine sw_istore_n (pc := 40) C dX6_without_40 rfl (by decide) (ll2 := [(2, .int s0), (0, .int v0), (1, .int v1), (3, .int v3), (4, .int v4)]) rfl ?_
  refine sw_iinc (pc := 41) C 4 dX6_without_41 rfl (v := (v4 + (1 : Int32))) (congrArg (fun z => v4 + z) (by decide)) (by decide) (ll2 := [(4, .int (v4 + (1 : Int32))), (2, .int s0), (0, .int v0), (1, .int v1), (3, .int v3)]) rfl ?_
  refine sw_goto (pc := 44) (tgt := 10) C dX6_without_44 (by decide) ?_
  exact sw_sub [2, 3, 1, 4, 0] (by rfl) (h10 _ _ _ _ _ hJ)
set_option maxHeartbeats 4000000 in
set_option maxRecDepth 100000 in
theorem t_Ro_without_10 {p : Program} {l : Launch} {e : Env} {s : State} {m : MethodId} {args : Array Value} {below : List Frame} {meth : Method} {c : Code} {D : va_G} {cy : Nat → ClassId} {ad : Nat → Nat} {A : Nat → Prop} (C : Cx p s m args meth c D cy cX6_without 6 RX6 (some .int) A (wC cy ad)) {X : St} {r : Int32} : ∀ (n : Nat) (v0 : Int32) (v1 : Int32) (v2 : Int32) (v3 : Int32) (v4 : Int32), jRo_without_10 n v0 v1 v2 v3 v4 = some r → SW p l e ({ frames := 2, cells := 0, slots := 0, locals := 43 } : Room) s m args below meth c D 6 A (wC cy ad) (MQ below (poI D (wC cy ad) A r X) args s 0 0 A) X [(0, .int v0), (1, .int v1), (2, .int v2), (3, .int v3), (4, .int v4)] 10 [] := by
  intro n
  induction n with
  | zero => intro v0 v1 v2 v3 v4 hJ; exact absurd (show (none : Option (Int32)) = some r from hJ) (fun h => by cases h)
  | succ n ih =>
    intro v0 v1 v2 v3 v4 hJ
    rw [jRo_without_10] at hJ
    refine sw_iload (pc := 10) C 4 dX6_without_10 rfl ?_
    refine sw_iload_n (pc := 12) C 3 dX6_without_12 rfl rfl ?_
    refine sw_icmp_gt (pc := 13) (tgt := 47) C dX6_without_13 (by decide) (fun hb13 => ?_) (fun hb13 => ?_)
    · replace hJ := itep hb13 hJ
      refine sw_iload_n (pc := 47) C 2 dX6_without_47 rfl rfl ?_
      obtain rfl := Option.some.inj hJ
      exact sw_iret (pc := 48) C dX6_without_48
    · replace hJ := iten hb13 hJ
      refine sw_iload_n (pc := 16) C 0 dX6_without_16 rfl rfl ?_
      refine sw_iload (pc := 17) C 4 dX6_without_17 rfl ?_
      obtain ⟨q19, hq19, hJ⟩ := bind_some hJ
      refine sw_callS_i (pc := 19) C (st := []) (As := [.int v0, .int v4]) (k_Ro_memberAt C.2.2.2.2.2.2.1 hq19) pk_X6_memberAt wd_25_13 ⟨Nat.le_of_ble_eq_true rfl, Nat.le_of_ble_eq_true rfl⟩ ⟨rfl, rfl⟩ rfl rfl (Nat.le_of_ble_eq_true rfl) dX6_without_19 ?_
      refine sw_istore (pc := 22) C dX6_without_22 (by decide) (ll2 := [(5, .int q19), (0, .int v0), (1, .int v1), (2, .int v2), (3, .int v3), (4, .int v4)]) rfl ?_
      refine sw_iload (pc := 24) C 0 dX6_without_24 rfl ?_
      refine sw_iload_n (pc := 26) C 2 dX6_without_26 rfl rfl ?_
      refine sw_icmp_ne (pc := 27) (tgt := 34) C dX6_without_27 (by decide) (fun hb27 => ?_) (fun hb27 => ?_)
      · replace hJ := iten hb27 hJ
        refine sw_iload_n (pc := 34) C 3 dX6_without_34 rfl rfl ?_
        refine sw_iload (pc := 35) C 0 dX6_without_35 rfl ?_
        obtain ⟨q37, hq37, hJ⟩ := bind_some hJ
        refine sw_callS_i (pc := 37) C (st := []) (As := [.int v2, .int q19]) (k_Ro_with C.2.2.2.2.2.2.1 hq37) pk_X6_with wd_22_13 ⟨Nat.le_of_ble_eq_true rfl, Nat.le_of_ble_eq_true rfl⟩ ⟨rfl, rfl⟩ rfl rfl (Nat.le_of_ble_eq_true rfl) dX6_without_37 ?_
        exact sw_sub [1, 2, 4, 5] (by rfl) (t_Ro_without_40 C ih _ _ _ _ _ hJ)
      · replace hJ := itep hb27 hJ
        refine sw_iload_n (pc := 30) C 3 dX6_without_30 rfl rfl ?_
        refine sw_goto (pc := 31) (tgt := 40) C dX6_without_31 (by decide) ?_
        exact sw_sub [1, 2, 4, 5] (by rfl) (t_Ro_without_40 C ih _ _ _ _ _ hJ)
set_option maxHeartbeats 4000000 in
set_option maxRecDepth 100000 in
theorem t_Ro_without {p : Program} {l : Launch} {e : Env} {s : State} {m : MethodId} {args : Array Value} {below : List Frame} {meth : Method} {c : Code} {D : va_G} {cy : Nat → ClassId} {ad : Nat → Nat} {A : Nat → Prop} (C : Cx p s m args meth c D cy cX6_without 6 RX6 (some .int) A (wC cy ad)) {X : St} {r : Int32} : ∀ (a0 : Int32) (a1 : Int32), jRo_without a0 a1 = some r → SW p l e ({ frames := 2, cells := 0, slots := 0, locals := 43 } : Room) s m args below meth c D 6 A (wC cy ad) (MQ below (poI D (wC cy ad) A r X) args s 0 0 A) X [(0, .int a0), (1, .int a1)] 0 [] := by
  intro a0 a1 hJ
  unfold jRo_without at hJ
  refine sw_iconst (pc := 0) C (v := (0 : Int32)) dX6_without_0 (by decide) ?_
  refine sw_istore_n (pc := 1) C dX6_without_1 rfl (by decide) (ll2 := [(2, .int (0 : Int32)), (0, .int a0), (1, .int a1)]) rfl ?_
  refine sw_iload_n (pc := 2) C 1 dX6_without_2 rfl rfl ?_
  obtain ⟨q3, hq3, hJ⟩ := bind_some hJ
  refine sw_callS_i (pc := 3) C (st := []) (As := [.int a0]) (k_Ro_size C.2.2.2.2.2.2.1 hq3) pk_X6_size wd_15_20 ⟨Nat.le_of_ble_eq_true rfl, Nat.le_of_ble_eq_true rfl⟩ ⟨rfl, rfl⟩ rfl rfl (Nat.le_of_ble_eq_true rfl) dX6_without_3 ?_
  refine sw_istore_n (pc := 6) C dX6_without_6 rfl (by decide) (ll2 := [(3, .int q3), (2, .int (0 : Int32)), (0, .int a0), (1, .int a1)]) rfl ?_
  refine sw_iconst (pc := 7) C (v := (1 : Int32)) dX6_without_7 (by decide) ?_
  refine sw_istore (pc := 8) C dX6_without_8 (by decide) (ll2 := [(4, .int (1 : Int32)), (3, .int q3), (2, .int (0 : Int32)), (0, .int a0), (1, .int a1)]) rfl ?_
  exact sw_sub [3, 4, 2, 1, 0] (by rfl) (t_Ro_without_10 C _ _ _ _ _ _ hJ)
set_option maxHeartbeats 4000000 in
set_option maxRecDepth 100000 in
theorem k_Ro_without {l : Launch} {D : va_G} {cy : Nat → ClassId} {ad : Nat → Nat} {A : Nat → Prop} (hD : ∀ X, va_D A (wC cy ad X)) {X : St} {a0 : Int32} {a1 : Int32} {r : Int32} (hJ : jRo_without a0 a1 = some r) : Met l yX6_without (wsY yX6_without cX6_without 6 (some .int)) ({ frames := 2, cells := 0, slots := 0, locals := 43 } : Room) (prX D cy (wC cy ad) X [.int a0, .int a1]) (poI D (wC cy ad) A r X) 0 0 A := sw_met (by decide +kernel) (Nat.le_of_ble_eq_true rfl) hD (fun p e s m args below meth c C => t_Ro_without C _ _ hJ)
set_option maxHeartbeats 4000000 in
set_option maxRecDepth 100000 in
theorem t_T_letters {p : Program} {l : Launch} {e : Env} {s : State} {m : MethodId} {args : Array Value} {below : List Frame} {meth : Method} {c : Code} {D : va_G} {cy : Nat → ClassId} {ad : Nat → Nat} {A : Nat → Prop} (C : Cx p s m args meth c D cy cX9_letters 4 RX9 (some .int) A (wC cy ad)) {r : Int32 × St} : ∀ (X : St) (a1 : Int64), jT_letters X a1 = some r → SW p l e ({ frames := 2, cells := 0, slots := 0, locals := 47 } : Room) s m args below meth c D 4 A (wC cy ad) (MQ below (poI D (wC cy ad) A r.1 r.2) args s 0 0 A) X [(0, .ref (ad 0)), (1, .long a1)] 0 [] := by
  intro X a1 hJ
  unfold jT_letters at hJ
  refine sw_lload_n (pc := 0) C 1 dX9_letters_0 rfl rfl ?_
  obtain ⟨q1, hq1, hJ⟩ := bind_some hJ
  refine sw_callS_i (pc := 1) C (st := []) (As := [.long a1]) (k_Pg_lettersIn C.2.2.2.2.2.2.1 hq1) pk_X5_lettersIn wd_5_12 ⟨Nat.le_of_ble_eq_true rfl, Nat.le_of_ble_eq_true rfl⟩ ⟨rfl, rfl⟩ rfl rfl (Nat.le_of_ble_eq_true rfl) dX9_letters_1 ?_
  refine sw_istore_n (pc := 4) C dX9_letters_4 rfl (by decide) (ll2 := [(3, .int q1), (0, .ref (ad 0)), (1, .long a1)]) rfl ?_
  refine sw_iload_n (pc := 5) C 0 dX9_letters_5 rfl rfl ?_
  refine sw_iconst (pc := 6) C (v := (-1 : Int32)) dX9_letters_6 (by decide) ?_
  refine sw_icmp_ne (pc := 7) (tgt := 13) C dX9_letters_7 (by decide) (fun hb7 => ?_) (fun hb7 => ?_)
  · replace hJ := iten hb7 hJ
    refine sw_aload_n (pc := 13) C 1 dX9_letters_13 rfl rfl ?_
    refine gC_0_0 (pc := 14) C wd_1_16 dX9_letters_14 ?_
    refine sw_iload_n (pc := 17) C 0 dX9_letters_17 rfl rfl ?_
    obtain ⟨q18, hq18, hJ⟩ := bind_some hJ
    refine sw_callV_i (pc := 18) C (st := []) (As := [.int q1]) (k_Pg_hasRoomFor C.2.2.2.2.2.2.1 hq18) pk_X5_hasRoomFor wd_5_18 1 rfl rfl rfl ⟨Nat.le_of_ble_eq_true rfl, Nat.le_of_ble_eq_true rfl⟩ ⟨rfl, rfl⟩ rfl rfl (Nat.le_of_ble_eq_true rfl) dX9_letters_18 ?_
    refine sw_if_ne (pc := 21) (tgt := 27) C dX9_letters_21 (by decide) (fun hb21 => ?_) (fun hb21 => ?_)
    · replace hJ := iten hb21 hJ
      refine sw_aload_n (pc := 27) C 1 dX9_letters_27 rfl rfl ?_
      refine gC_0_0 (pc := 28) C wd_1_16 dX9_letters_28 ?_
      refine sw_lload_n (pc := 31) C 2 dX9_letters_31 rfl rfl ?_
      refine sw_iload_n (pc := 32) C 0 dX9_letters_32 rfl rfl ?_
      obtain ⟨q33, hq33, hJ⟩ := bind_some hJ
      refine sw_callV_v (pc := 33) C (st := []) (As := [.long a1, .int q1]) (k_Pg_add C.2.2.2.2.2.2.1 hq33) pk_X5_add wd_5_23 1 rfl rfl rfl ⟨Nat.le_of_ble_eq_true rfl, Nat.le_of_ble_eq_true rfl⟩ ⟨rfl, rfl⟩ rfl rfl (Nat.le_of_ble_eq_true rfl) dX9_letters_33 ?_
      refine sw_aload_n (pc := 36) C 1 dX9_letters_36 rfl rfl ?_
      refine gC_0_0 (pc := 37) C wd_1_16 dX9_letters_37 ?_
      obtain ⟨q40, hq40, hJ⟩ := bind_some hJ
      refine sw_callV_i (pc := 40) C (st := []) (As := []) (k_Pg_length C.2.2.2.2.2.2.1 hq40) pk_X5_length wd_6_3 1 rfl rfl rfl ⟨Nat.le_of_ble_eq_true rfl, Nat.le_of_ble_eq_true rfl⟩ ⟨rfl, rfl⟩ rfl rfl (Nat.le_of_ble_eq_true rfl) dX9_letters_40 ?_
      obtain rfl := Option.some.inj hJ
      exact sw_iret (pc := 43) C dX9_letters_43
    · replace hJ := itep hb21 hJ
      refine sw_bipush (pc := 24) C (v := (-104 : Int32)) dX9_letters_24 (by decide) ?_
      obtain rfl := Option.some.inj hJ
      exact sw_iret (pc := 26) C dX9_letters_26
  · replace hJ := itep hb7 hJ
    refine sw_bipush (pc := 10) C (v := (-102 : Int32)) dX9_letters_10 (by decide) ?_
    obtain rfl := Option.some.inj hJ
    exact sw_iret (pc := 12) C dX9_letters_12
set_option maxHeartbeats 4000000 in
set_option maxRecDepth 100000 in
theorem k_T_letters {l : Launch} {D : va_G} {cy : Nat → ClassId} {ad : Nat → Nat} {A : Nat → Prop} (hD : ∀ X, va_D A (wC cy ad X)) {X : St} {a1 : Int64} {r : Int32 × St} (hJ : jT_letters X a1 = some r) : Met l yX9_letters (wsY yX9_letters cX9_letters 4 (some .int)) ({ frames := 2, cells := 0, slots := 0, locals := 47 } : Room) (prX D cy (wC cy ad) X [.ref (ad 0), .long a1]) (poI D (wC cy ad) A r.1 r.2) 0 0 A := sw_met (by decide +kernel) (Nat.le_of_ble_eq_true rfl) hD (fun p e s m args below meth c C => t_T_letters C _ _ hJ)
set_option maxHeartbeats 4000000 in
set_option maxRecDepth 100000 in
theorem t_T_blank {p : Program} {l : Launch} {e : Env} {s : State} {m : MethodId} {args : Array Value} {below : List Frame} {meth : Method} {c : Code} {D : va_G} {cy : Nat → ClassId} {ad : Nat → Nat} {A : Nat → Prop} (C : Cx p s m args meth c D cy cX9_blank 2 RX9 (some .int) A (wC cy ad)) {r : Int32 × St} : ∀ (X : St), jT_blank X = some r → SW p l e ({ frames := 1, cells := 0, slots := 0, locals := 20 } : Room) s m args below meth c D 2 A (wC cy ad) (MQ below (poI D (wC cy ad) A r.1 r.2) args s 0 0 A) X [(0, .ref (ad 0))] 0 [] := by
  intro X hJ
  unfold jT_blank at hJ
  refine sw_aload_n (pc := 0) C 0 dX9_blank_0 rfl rfl ?_
  refine gC_0_0 (pc := 1) C wd_1_16 dX9_blank_1 ?_
  obtain ⟨q4, hq4, hJ⟩ := bind_some hJ
  refine sw_callV_i (pc := 4) C (st := []) (As := []) (k_Pg_length C.2.2.2.2.2.2.1 hq4) pk_X5_length wd_6_3 1 rfl rfl rfl ⟨Nat.le_of_ble_eq_true rfl, Nat.le_of_ble_eq_true rfl⟩ ⟨rfl, rfl⟩ rfl rfl (Nat.le_of_ble_eq_true rfl) dX9_blank_4 ?_
  refine sw_istore_n (pc := 7) C dX9_blank_7 rfl (by decide) (ll2 := [(1, .int q4), (0, .ref (ad 0))]) rfl ?_
  refine sw_aload_n (pc := 8) C 1 dX9_blank_8 rfl rfl ?_
  refine gC_0_0 (pc := 9) C wd_1_16 dX9_blank_9 ?_
  obtain ⟨q12, hq12, hJ⟩ := bind_some hJ
  refine sw_callV_v (pc := 12) C (st := []) (As := []) (k_Pg_clear C.2.2.2.2.2.2.1 hq12) pk_X5_clear wd_6_17 1 rfl rfl rfl ⟨Nat.le_of_ble_eq_true rfl, Nat.le_of_ble_eq_true rfl⟩ ⟨rfl, rfl⟩ rfl rfl (Nat.le_of_ble_eq_true rfl) dX9_blank_12 ?_
  refine sw_iload_n (pc := 15) C 0 dX9_blank_15 rfl rfl ?_
  obtain rfl := Option.some.inj hJ
  exact sw_iret (pc := 16) C dX9_blank_16
set_option maxHeartbeats 4000000 in
set_option maxRecDepth 100000 in
theorem k_T_blank {l : Launch} {D : va_G} {cy : Nat → ClassId} {ad : Nat → Nat} {A : Nat → Prop} (hD : ∀ X, va_D A (wC cy ad X)) {X : St}  {r : Int32 × St} (hJ : jT_blank X = some r) : Met l yX9_blank (wsY yX9_blank cX9_blank 2 (some .int)) ({ frames := 1, cells := 0, slots := 0, locals := 20 } : Room) (prX D cy (wC cy ad) X [.ref (ad 0)]) (poI D (wC cy ad) A r.1 r.2) 0 0 A := sw_met (by decide +kernel) (Nat.le_of_ble_eq_true rfl) hD (fun p e s m args below meth c C => t_T_blank C _ hJ)
set_option maxHeartbeats 4000000 in
set_option maxRecDepth 100000 in
theorem t_T_fault {p : Program} {l : Launch} {e : Env} {s : State} {m : MethodId} {args : Array Value} {below : List Frame} {meth : Method} {c : Code} {D : va_G} {cy : Nat → ClassId} {ad : Nat → Nat} {A : Nat → Prop} (C : Cx p s m args meth c D cy cX9_fault 2 RX9 (some .int) A (wC cy ad)) {r : Int32 × St} : ∀ (X : St) (a1 : Int32), jT_fault X a1 = some r → SW p l e ({ frames := 4, cells := 0, slots := 0, locals := 88 } : Room) s m args below meth c D 2 A (wC cy ad) (MQ below (poI D (wC cy ad) A r.1 r.2) args s 0 0 A) X [(0, .ref (ad 0)), (1, .int a1)] 0 [] := by
  intro X a1 hJ
  unfold jT_fault at hJ
  refine sw_iload_n (pc := 0) C 1 dX9_fault_0 rfl rfl ?_
  refine sw_if_ne (pc := 1) (tgt := 16) C dX9_fault_1 (by decide) (fun hb1 => ?_) (fun hb1 => ?_)
  · replace hJ := iten hb1 hJ
    refine sw_iload_n (pc := 16) C 1 dX9_fault_16 rfl rfl ?_
    refine sw_iconst (pc := 17) C (v := (1 : Int32)) dX9_fault_17 (by decide) ?_
    refine sw_icmp_ne (pc := 18) (tgt := 35) C dX9_fault_18 (by decide) (fun hb18 => ?_) (fun hb18 => ?_)
    · replace hJ := iten hb18 hJ
      refine sw_bipush (pc := 35) C (v := (-102 : Int32)) dX9_fault_35 (by decide) ?_
      obtain rfl := Option.some.inj hJ
      exact sw_iret (pc := 37) C dX9_fault_37
    · replace hJ := itep hb18 hJ
      refine sw_aload_n (pc := 21) C 0 dX9_fault_21 rfl rfl ?_
      refine gC_0_0 (pc := 22) C wd_1_16 dX9_fault_22 ?_
      refine sw_aload_n (pc := 25) C 0 dX9_fault_25 rfl rfl ?_
      refine gC_0_2 (pc := 26) C wd_2_0 dX9_fault_26 ?_
      obtain ⟨q29, hq29, hJ⟩ := bind_some hJ
      refine sw_callV_i (pc := 29) C (st := []) (As := [.ref (ad 4)]) (k_Pg_faultOf_d C.2.2.2.2.2.2.1 hq29) pk_X5_faultOf wd_7_5 1 rfl rfl rfl ⟨Nat.le_of_ble_eq_true rfl, Nat.le_of_ble_eq_true rfl⟩ ⟨rfl, rfl⟩ rfl rfl (Nat.le_of_ble_eq_true rfl) dX9_fault_29 ?_
      refine sw_goto (pc := 32) (tgt := 37) C dX9_fault_32 (by decide) ?_
      obtain rfl := Option.some.inj hJ
      exact sw_iret (pc := 37) C dX9_fault_37
  · replace hJ := itep hb1 hJ
    refine sw_aload_n (pc := 4) C 0 dX9_fault_4 rfl rfl ?_
    refine gC_0_0 (pc := 5) C wd_1_16 dX9_fault_5 ?_
    refine sw_aload_n (pc := 8) C 0 dX9_fault_8 rfl rfl ?_
    refine gC_0_1 (pc := 9) C wd_1_20 dX9_fault_9 ?_
    obtain ⟨q12, hq12, hJ⟩ := bind_some hJ
    refine sw_callV_i (pc := 12) C (st := []) (As := [.ref (ad 3)]) (k_Pg_faultOf_r C.2.2.2.2.2.2.1 hq12) pk_X5_faultOf wd_7_5 1 rfl rfl rfl ⟨Nat.le_of_ble_eq_true rfl, Nat.le_of_ble_eq_true rfl⟩ ⟨rfl, rfl⟩ rfl rfl (Nat.le_of_ble_eq_true rfl) dX9_fault_12 ?_
    obtain rfl := Option.some.inj hJ
    exact sw_iret (pc := 15) C dX9_fault_15
set_option maxHeartbeats 4000000 in
set_option maxRecDepth 100000 in
theorem k_T_fault {l : Launch} {D : va_G} {cy : Nat → ClassId} {ad : Nat → Nat} {A : Nat → Prop} (hD : ∀ X, va_D A (wC cy ad X)) {X : St} {a1 : Int32} {r : Int32 × St} (hJ : jT_fault X a1 = some r) : Met l yX9_fault (wsY yX9_fault cX9_fault 2 (some .int)) ({ frames := 4, cells := 0, slots := 0, locals := 88 } : Room) (prX D cy (wC cy ad) X [.ref (ad 0), .int a1]) (poI D (wC cy ad) A r.1 r.2) 0 0 A := sw_met (by decide +kernel) (Nat.le_of_ble_eq_true rfl) hD (fun p e s m args below meth c C => t_T_fault C _ _ hJ)
set_option maxHeartbeats 4000000 in
set_option maxRecDepth 100000 in
theorem t_T_rule {p : Program} {l : Launch} {e : Env} {s : State} {m : MethodId} {args : Array Value} {below : List Frame} {meth : Method} {c : Code} {D : va_G} {cy : Nat → ClassId} {ad : Nat → Nat} {A : Nat → Prop} (C : Cx p s m args meth c D cy cX9_rule 1 RX9 (some .int) A (wC cy ad)) {r : Int32 × St} : ∀ (X : St), jT_rule X = some r → SW p l e ({ frames := 5, cells := 0, slots := 0, locals := 109 } : Room) s m args below meth c D 1 A (wC cy ad) (MQ below (poI D (wC cy ad) A r.1 r.2) args s 0 0 A) X [(0, .ref (ad 0))] 0 [] := by
  intro X hJ
  unfold jT_rule at hJ
  refine sw_aload_n (pc := 0) C 0 dX9_rule_0 rfl rfl ?_
  refine gC_0_0 (pc := 1) C wd_1_16 dX9_rule_1 ?_
  refine sw_aload_n (pc := 4) C 0 dX9_rule_4 rfl rfl ?_
  refine gC_0_1 (pc := 5) C wd_1_20 dX9_rule_5 ?_
  obtain ⟨q8, hq8, hJ⟩ := bind_some hJ
  refine sw_callV_i (pc := 8) C (st := []) (As := [.ref (ad 3)]) (k_Pg_isWhole_r C.2.2.2.2.2.2.1 hq8) pk_X5_isWhole wd_10_16 1 rfl rfl rfl ⟨Nat.le_of_ble_eq_true rfl, Nat.le_of_ble_eq_true rfl⟩ ⟨rfl, rfl⟩ rfl rfl (Nat.le_of_ble_eq_true rfl) dX9_rule_8 ?_
  refine sw_if_ne (pc := 11) (tgt := 17) C dX9_rule_11 (by decide) (fun hb11 => ?_) (fun hb11 => ?_)
  · replace hJ := iten hb11 hJ
    refine sw_aload_n (pc := 17) C 0 dX9_rule_17 rfl rfl ?_
    refine gC_0_3 (pc := 18) C wd_2_4 dX9_rule_18 ?_
    refine sw_aload_n (pc := 21) C 0 dX9_rule_21 rfl rfl ?_
    refine gC_0_1 (pc := 22) C wd_1_20 dX9_rule_22 ?_
    obtain ⟨q25, hq25, hJ⟩ := bind_some hJ
    refine sw_callV_v (pc := 25) C (st := []) (As := [.ref (ad 3)]) (k_Ch_adopt C.2.2.2.2.2.2.1 hq25) pk_X1_adopt wd_11_5 5 rfl rfl rfl ⟨Nat.le_of_ble_eq_true rfl, Nat.le_of_ble_eq_true rfl⟩ ⟨rfl, rfl⟩ rfl rfl (Nat.le_of_ble_eq_true rfl) dX9_rule_25 ?_
    refine sw_aload_n (pc := 28) C 0 dX9_rule_28 rfl rfl ?_
    refine gC_0_0 (pc := 29) C wd_1_16 dX9_rule_29 ?_
    obtain ⟨q32, hq32, hJ⟩ := bind_some hJ
    refine sw_callV_v (pc := 32) C (st := []) (As := []) (k_Pg_clear C.2.2.2.2.2.2.1 hq32) pk_X5_clear wd_6_17 1 rfl rfl rfl ⟨Nat.le_of_ble_eq_true rfl, Nat.le_of_ble_eq_true rfl⟩ ⟨rfl, rfl⟩ rfl rfl (Nat.le_of_ble_eq_true rfl) dX9_rule_32 ?_
    refine sw_aload_n (pc := 35) C 0 dX9_rule_35 rfl rfl ?_
    refine gC_0_3 (pc := 36) C wd_2_4 dX9_rule_36 ?_
    obtain ⟨q39, hq39, hJ⟩ := bind_some hJ
    refine sw_callV_i (pc := 39) C (st := []) (As := []) (k_Ch_pairs C.2.2.2.2.2.2.1 hq39) pk_X1_pairs wd_11_23 5 rfl rfl rfl ⟨Nat.le_of_ble_eq_true rfl, Nat.le_of_ble_eq_true rfl⟩ ⟨rfl, rfl⟩ rfl rfl (Nat.le_of_ble_eq_true rfl) dX9_rule_39 ?_
    obtain rfl := Option.some.inj hJ
    exact sw_iret (pc := 42) C dX9_rule_42
  · replace hJ := itep hb11 hJ
    refine sw_bipush (pc := 14) C (v := (-103 : Int32)) dX9_rule_14 (by decide) ?_
    obtain rfl := Option.some.inj hJ
    exact sw_iret (pc := 16) C dX9_rule_16
set_option maxHeartbeats 4000000 in
set_option maxRecDepth 100000 in
theorem k_T_rule {l : Launch} {D : va_G} {cy : Nat → ClassId} {ad : Nat → Nat} {A : Nat → Prop} (hD : ∀ X, va_D A (wC cy ad X)) {X : St}  {r : Int32 × St} (hJ : jT_rule X = some r) : Met l yX9_rule (wsY yX9_rule cX9_rule 1 (some .int)) ({ frames := 5, cells := 0, slots := 0, locals := 109 } : Room) (prX D cy (wC cy ad) X [.ref (ad 0)]) (poI D (wC cy ad) A r.1 r.2) 0 0 A := sw_met (by decide +kernel) (Nat.le_of_ble_eq_true rfl) hD (fun p e s m args below meth c C => t_T_rule C _ hJ)
set_option maxHeartbeats 4000000 in
set_option maxRecDepth 100000 in
theorem t_T_replies {p : Program} {l : Launch} {e : Env} {s : State} {m : MethodId} {args : Array Value} {below : List Frame} {meth : Method} {c : Code} {D : va_G} {cy : Nat → ClassId} {ad : Nat → Nat} {A : Nat → Prop} (C : Cx p s m args meth c D cy cX9_replies 3 RX9 (some .int) A (wC cy ad)) {X : St} {r : Int32} : ∀ (a1 : Int32) (a2 : Int32), jT_replies X a1 a2 = some r → SW p l e ({ frames := 1, cells := 0, slots := 0, locals := 22 } : Room) s m args below meth c D 3 A (wC cy ad) (MQ below (poI D (wC cy ad) A r X) args s 0 0 A) X [(0, .ref (ad 0)), (1, .int a1), (2, .int a2)] 0 [] := by
  intro a1 a2 hJ
  unfold jT_replies at hJ
  refine sw_iload_n (pc := 0) C 1 dX9_replies_0 rfl rfl ?_
  refine sw_iconst (pc := 1) C (v := (0 : Int32)) dX9_replies_1 (by decide) ?_
  refine sw_bipush (pc := 2) C (v := (6 : Int32)) dX9_replies_2 (by decide) ?_
  obtain ⟨q4, hq4, hJ⟩ := bind_some hJ
  refine sw_callS_i (pc := 4) C (st := []) (As := [.int a1, .int (0 : Int32), .int (6 : Int32)]) (k_T_isBetween C.2.2.2.2.2.2.1 hq4) pk_X9_isBetween wd_12_12 ⟨Nat.le_of_ble_eq_true rfl, Nat.le_of_ble_eq_true rfl⟩ ⟨rfl, rfl⟩ rfl rfl (Nat.le_of_ble_eq_true rfl) dX9_replies_4 ?_
  refine sw_if_eq (pc := 7) (tgt := 20) C dX9_replies_7 (by decide) (fun hb7 => ?_) (fun hb7 => ?_)
  · replace hJ := itep hb7 hJ
    refine sw_bipush (pc := 20) C (v := (-101 : Int32)) dX9_replies_20 (by decide) ?_
    obtain rfl := Option.some.inj hJ
    exact sw_iret (pc := 22) C dX9_replies_22
  · replace hJ := iten hb7 hJ
    refine sw_iload_n (pc := 10) C 2 dX9_replies_10 rfl rfl ?_
    refine sw_iconst (pc := 11) C (v := (0 : Int32)) dX9_replies_11 (by decide) ?_
    refine sw_bipush (pc := 12) C (v := (6 : Int32)) dX9_replies_12 (by decide) ?_
    obtain ⟨q14, hq14, hJ⟩ := bind_some hJ
    refine sw_callS_i (pc := 14) C (st := []) (As := [.int a2, .int (0 : Int32), .int (6 : Int32)]) (k_T_isBetween C.2.2.2.2.2.2.1 hq14) pk_X9_isBetween wd_12_12 ⟨Nat.le_of_ble_eq_true rfl, Nat.le_of_ble_eq_true rfl⟩ ⟨rfl, rfl⟩ rfl rfl (Nat.le_of_ble_eq_true rfl) dX9_replies_14 ?_
    refine sw_if_ne (pc := 17) (tgt := 23) C dX9_replies_17 (by decide) (fun hb17 => ?_) (fun hb17 => ?_)
    · replace hJ := iten hb17 hJ
      refine sw_aload_n (pc := 23) C 0 dX9_replies_23 rfl rfl ?_
      refine gC_0_3 (pc := 24) C wd_2_4 dX9_replies_24 ?_
      refine sw_iload_n (pc := 27) C 1 dX9_replies_27 rfl rfl ?_
      obtain ⟨q28, hq28, hJ⟩ := bind_some hJ
      refine sw_callV_i (pc := 28) C (st := []) (As := [.int a1]) (k_Ch_repliesOf C.2.2.2.2.2.2.1 hq28) pk_X1_repliesOf wd_12_13 5 rfl rfl rfl ⟨Nat.le_of_ble_eq_true rfl, Nat.le_of_ble_eq_true rfl⟩ ⟨rfl, rfl⟩ rfl rfl (Nat.le_of_ble_eq_true rfl) dX9_replies_28 ?_
      refine sw_iload_n (pc := 31) C 2 dX9_replies_31 rfl rfl ?_
      refine sw_iushr (pc := 32) C dX9_replies_32 ?_
      refine sw_iconst (pc := 33) C (v := (1 : Int32)) dX9_replies_33 (by decide) ?_
      refine sw_iand (pc := 34) C dX9_replies_34 ?_
      obtain rfl := Option.some.inj hJ
      exact sw_iret (pc := 35) C dX9_replies_35
    · replace hJ := itep hb17 hJ
      refine sw_bipush (pc := 20) C (v := (-101 : Int32)) dX9_replies_20 (by decide) ?_
      obtain rfl := Option.some.inj hJ
      exact sw_iret (pc := 22) C dX9_replies_22
set_option maxHeartbeats 4000000 in
set_option maxRecDepth 100000 in
theorem k_T_replies {l : Launch} {D : va_G} {cy : Nat → ClassId} {ad : Nat → Nat} {A : Nat → Prop} (hD : ∀ X, va_D A (wC cy ad X)) {X : St} {a1 : Int32} {a2 : Int32} {r : Int32} (hJ : jT_replies X a1 a2 = some r) : Met l yX9_replies (wsY yX9_replies cX9_replies 3 (some .int)) ({ frames := 1, cells := 0, slots := 0, locals := 22 } : Room) (prX D cy (wC cy ad) X [.ref (ad 0), .int a1, .int a2]) (poI D (wC cy ad) A r X) 0 0 A := sw_met (by decide +kernel) (Nat.le_of_ble_eq_true rfl) hD (fun p e s m args below meth c C => t_T_replies C _ _ hJ)
set_option maxHeartbeats 4000000 in
set_option maxRecDepth 100000 in
theorem t_T_member {p : Program} {l : Launch} {e : Env} {s : State} {m : MethodId} {args : Array Value} {below : List Frame} {meth : Method} {c : Code} {D : va_G} {cy : Nat → ClassId} {ad : Nat → Nat} {A : Nat → Prop} (C : Cx p s m args meth c D cy cX9_member 7 RX9 (some .int) A (wC cy ad)) {r : Int32 × St} : ∀ (X : St) (a1 : Int32) (a2 : Int32) (a3 : Int32) (a4 : Int32) (a5 : Int32), jT_member X a1 a2 a3 a4 a5 = some r → SW p l e ({ frames := 2, cells := 0, slots := 0, locals := 44 } : Room) s m args below meth c D 7 A (wC cy ad) (MQ below (poI D (wC cy ad) A r.1 r.2) args s 0 0 A) X [(0, .ref (ad 0)), (1, .int a1), (2, .int a2), (3, .int a3), (4, .int a4), (5, .int a5)] 0 [] := by
  intro X a1 a2 a3 a4 a5 hJ
  unfold jT_member at hJ
  refine sw_iload_n (pc := 0) C 1 dX9_member_0 rfl rfl ?_
  refine sw_iconst (pc := 1) C (v := (0 : Int32)) dX9_member_1 (by decide) ?_
  refine sw_iconst (pc := 2) C (v := (4 : Int32)) dX9_member_2 (by decide) ?_
  obtain ⟨q3, hq3, hJ⟩ := bind_some hJ
  refine sw_callS_i (pc := 3) C (st := []) (As := [.int a1, .int (0 : Int32), .int (4 : Int32)]) (k_T_isBetween C.2.2.2.2.2.2.1 hq3) pk_X9_isBetween wd_12_12 ⟨Nat.le_of_ble_eq_true rfl, Nat.le_of_ble_eq_true rfl⟩ ⟨rfl, rfl⟩ rfl rfl (Nat.le_of_ble_eq_true rfl) dX9_member_3 ?_
  refine sw_if_eq (pc := 6) (tgt := 19) C dX9_member_6 (by decide) (fun hb6 => ?_) (fun hb6 => ?_)
  · replace hJ := itep hb6 hJ
    refine sw_bipush (pc := 19) C (v := (-102 : Int32)) dX9_member_19 (by decide) ?_
    obtain rfl := Option.some.inj hJ
    exact sw_iret (pc := 21) C dX9_member_21
  · replace hJ := iten hb6 hJ
    refine sw_iload_n (pc := 9) C 2 dX9_member_9 rfl rfl ?_
    refine sw_iconst (pc := 10) C (v := (1 : Int32)) dX9_member_10 (by decide) ?_
    refine sw_bipush (pc := 11) C (v := (9 : Int32)) dX9_member_11 (by decide) ?_
    obtain ⟨q13, hq13, hJ⟩ := bind_some hJ
    refine sw_callS_i (pc := 13) C (st := []) (As := [.int a2, .int (1 : Int32), .int (9 : Int32)]) (k_T_isBetween C.2.2.2.2.2.2.1 hq13) pk_X9_isBetween wd_12_12 ⟨Nat.le_of_ble_eq_true rfl, Nat.le_of_ble_eq_true rfl⟩ ⟨rfl, rfl⟩ rfl rfl (Nat.le_of_ble_eq_true rfl) dX9_member_13 ?_
    refine sw_if_ne (pc := 16) (tgt := 22) C dX9_member_16 (by decide) (fun hb16 => ?_) (fun hb16 => ?_)
    · replace hJ := iten hb16 hJ
      refine sw_iload_n (pc := 22) C 3 dX9_member_22 rfl rfl ?_
      refine sw_bipush (pc := 23) C (v := (-3 : Int32)) dX9_member_23 (by decide) ?_
      refine sw_iconst (pc := 25) C (v := (3 : Int32)) dX9_member_25 (by decide) ?_
      obtain ⟨q26, hq26, hJ⟩ := bind_some hJ
      refine sw_callS_i (pc := 26) C (st := []) (As := [.int a3, .int (-3 : Int32), .int (3 : Int32)]) (k_T_isBetween C.2.2.2.2.2.2.1 hq26) pk_X9_isBetween wd_12_12 ⟨Nat.le_of_ble_eq_true rfl, Nat.le_of_ble_eq_true rfl⟩ ⟨rfl, rfl⟩ rfl rfl (Nat.le_of_ble_eq_true rfl) dX9_member_26 ?_
      refine sw_if_eq (pc := 29) (tgt := 42) C dX9_member_29 (by decide) (fun hb29 => ?_) (fun hb29 => ?_)
      · replace hJ := itep hb29 hJ
        refine sw_bipush (pc := 42) C (v := (-102 : Int32)) dX9_member_42 (by decide) ?_
        obtain rfl := Option.some.inj hJ
        exact sw_iret (pc := 44) C dX9_member_44
      · replace hJ := iten hb29 hJ
        refine sw_iload (pc := 32) C 4 dX9_member_32 rfl ?_
        refine sw_iconst (pc := 34) C (v := (0 : Int32)) dX9_member_34 (by decide) ?_
        refine sw_iconst (pc := 35) C (v := (2 : Int32)) dX9_member_35 (by decide) ?_
        obtain ⟨q36, hq36, hJ⟩ := bind_some hJ
        refine sw_callS_i (pc := 36) C (st := []) (As := [.int a4, .int (0 : Int32), .int (2 : Int32)]) (k_T_isBetween C.2.2.2.2.2.2.1 hq36) pk_X9_isBetween wd_12_12 ⟨Nat.le_of_ble_eq_true rfl, Nat.le_of_ble_eq_true rfl⟩ ⟨rfl, rfl⟩ rfl rfl (Nat.le_of_ble_eq_true rfl) dX9_member_36 ?_
        refine sw_if_ne (pc := 39) (tgt := 45) C dX9_member_39 (by decide) (fun hb39 => ?_) (fun hb39 => ?_)
        · replace hJ := iten hb39 hJ
          refine sw_iload (pc := 45) C 5 dX9_member_45 rfl ?_
          refine sw_iconst (pc := 47) C (v := (0 : Int32)) dX9_member_47 (by decide) ?_
          refine sw_bipush (pc := 48) C (v := (99 : Int32)) dX9_member_48 (by decide) ?_
          obtain ⟨q50, hq50, hJ⟩ := bind_some hJ
          refine sw_callS_i (pc := 50) C (st := []) (As := [.int a5, .int (0 : Int32), .int (99 : Int32)]) (k_T_isBetween C.2.2.2.2.2.2.1 hq50) pk_X9_isBetween wd_12_12 ⟨Nat.le_of_ble_eq_true rfl, Nat.le_of_ble_eq_true rfl⟩ ⟨rfl, rfl⟩ rfl rfl (Nat.le_of_ble_eq_true rfl) dX9_member_50 ?_
          refine sw_if_ne (pc := 53) (tgt := 59) C dX9_member_53 (by decide) (fun hb53 => ?_) (fun hb53 => ?_)
          · replace hJ := iten hb53 hJ
            refine sw_aload_n (pc := 59) C 0 dX9_member_59 rfl rfl ?_
            refine gC_0_3 (pc := 60) C wd_2_4 dX9_member_60 ?_
            obtain ⟨q63, hq63, hJ⟩ := bind_some hJ
            refine sw_callV_i (pc := 63) C (st := []) (As := []) (k_Ch_size C.2.2.2.2.2.2.1 hq63) pk_X1_size wd_13_1 5 rfl rfl rfl ⟨Nat.le_of_ble_eq_true rfl, Nat.le_of_ble_eq_true rfl⟩ ⟨rfl, rfl⟩ rfl rfl (Nat.le_of_ble_eq_true rfl) dX9_member_63 ?_
            refine sw_bipush (pc := 66) C (v := (7 : Int32)) dX9_member_66 (by decide) ?_
            refine sw_icmp_lt (pc := 68) (tgt := 74) C dX9_member_68 (by decide) (fun hb68 => ?_) (fun hb68 => ?_)
            · replace hJ := itep hb68 hJ
              refine sw_aload_n (pc := 74) C 0 dX9_member_74 rfl rfl ?_
              refine gC_0_3 (pc := 75) C wd_2_4 dX9_member_75 ?_
              obtain ⟨q78, hq78, hJ⟩ := bind_some hJ
              refine sw_callV_r (pc := 78) C (st := []) (As := []) (k_Ch_seatNext C.2.2.2.2.2.2.1 hq78) pk_X1_seatNext wd_13_6 5 rfl rfl rfl ⟨Nat.le_of_ble_eq_true rfl, Nat.le_of_ble_eq_true rfl⟩ ⟨rfl, rfl⟩ rfl rfl (Nat.le_of_ble_eq_true rfl) dX9_member_78 ?_
              obtain ⟨hm78, hJ⟩ := gd hJ
              refine sw_astore (pc := 81) C dX9_member_81 (by decide) (ll2 := [(6, .ref (ad (14 + q78.1))), (0, .ref (ad 0)), (1, .int a1), (2, .int a2), (3, .int a3), (4, .int a4), (5, .int a5)]) rfl ?_
              refine sw_aload (pc := 83) C 0 dX9_member_83 rfl ?_
              refine sw_iload_n (pc := 85) C 2 dX9_member_85 rfl rfl ?_
              refine sw_iload_n (pc := 86) C 3 dX9_member_86 rfl rfl ?_
              refine sw_iload_n (pc := 87) C 4 dX9_member_87 rfl rfl ?_
              obtain ⟨q88, hq88, hJ⟩ := bind_some hJ
              refine sw_callV_v (pc := 88) C (st := []) (As := [.int a1, .int a2, .int a3]) (k_Me_become C.2.2.2.2.2.2.1 hm78 hq88) pk_X4_become wd_13_18 (14 + q78.1) (wC_mem _ hm78) rfl rfl ⟨Nat.le_of_ble_eq_true rfl, Nat.le_of_ble_eq_true rfl⟩ ⟨rfl, rfl⟩ rfl rfl (Nat.le_of_ble_eq_true rfl) dX9_member_88 ?_
              refine sw_aload (pc := 91) C 0 dX9_member_91 rfl ?_
              refine sw_iload (pc := 93) C 5 dX9_member_93 rfl ?_
              refine pC_m_3N (pc := 95) C (i := q78.1) hm78 nd_F3 dX9_member_95 ?_
              refine sw_aload (pc := 98) C 0 dX9_member_98 rfl ?_
              refine sw_iload (pc := 100) C 6 dX9_member_100 rfl ?_
              refine pC_m_4N (pc := 102) C (i := q78.1) hm78 nd_F6 dX9_member_102 ?_
              refine sw_aload_n (pc := 105) C 1 dX9_member_105 rfl rfl ?_
              refine gC_0_3 (pc := 106) C wd_2_4 dX9_member_106 ?_
              obtain ⟨q109, hq109, hJ⟩ := bind_some hJ
              refine sw_callV_i (pc := 109) C (st := []) (As := []) (k_Ch_size C.2.2.2.2.2.2.1 hq109) pk_X1_size wd_13_1 5 rfl rfl rfl ⟨Nat.le_of_ble_eq_true rfl, Nat.le_of_ble_eq_true rfl⟩ ⟨rfl, rfl⟩ rfl rfl (Nat.le_of_ble_eq_true rfl) dX9_member_109 ?_
              refine sw_iconst (pc := 112) C (v := (1 : Int32)) dX9_member_112 (by decide) ?_
              refine sw_isub (pc := 113) C dX9_member_113 ?_
              obtain rfl := Option.some.inj hJ
              exact sw_iret (pc := 114) C dX9_member_114
            · replace hJ := iten hb68 hJ
              refine sw_bipush (pc := 71) C (v := (-104 : Int32)) dX9_member_71 (by decide) ?_
              obtain rfl := Option.some.inj hJ
              exact sw_iret (pc := 73) C dX9_member_73
          · replace hJ := itep hb53 hJ
            refine sw_bipush (pc := 56) C (v := (-102 : Int32)) dX9_member_56 (by decide) ?_
            obtain rfl := Option.some.inj hJ
            exact sw_iret (pc := 58) C dX9_member_58
        · replace hJ := itep hb39 hJ
          refine sw_bipush (pc := 42) C (v := (-102 : Int32)) dX9_member_42 (by decide) ?_
          obtain rfl := Option.some.inj hJ
          exact sw_iret (pc := 44) C dX9_member_44
    · replace hJ := itep hb16 hJ
      refine sw_bipush (pc := 19) C (v := (-102 : Int32)) dX9_member_19 (by decide) ?_
      obtain rfl := Option.some.inj hJ
      exact sw_iret (pc := 21) C dX9_member_21
set_option maxHeartbeats 4000000 in
set_option maxRecDepth 100000 in
theorem k_T_member {l : Launch} {D : va_G} {cy : Nat → ClassId} {ad : Nat → Nat} {A : Nat → Prop} (hD : ∀ X, va_D A (wC cy ad X)) {X : St} {a1 : Int32} {a2 : Int32} {a3 : Int32} {a4 : Int32} {a5 : Int32} {r : Int32 × St} (hJ : jT_member X a1 a2 a3 a4 a5 = some r) : Met l yX9_member (wsY yX9_member cX9_member 7 (some .int)) ({ frames := 2, cells := 0, slots := 0, locals := 44 } : Room) (prX D cy (wC cy ad) X [.ref (ad 0), .int a1, .int a2, .int a3, .int a4, .int a5]) (poI D (wC cy ad) A r.1 r.2) 0 0 A := sw_met (by decide +kernel) (Nat.le_of_ble_eq_true rfl) hD (fun p e s m args below meth c C => t_T_member C _ _ _ _ _ _ hJ)
set_option maxHeartbeats 4000000 in
set_option maxRecDepth 100000 in
theorem t_T_speech {p : Program} {l : Launch} {e : Env} {s : State} {m : MethodId} {args : Array Value} {below : List Frame} {meth : Method} {c : Code} {D : va_G} {cy : Nat → ClassId} {ad : Nat → Nat} {A : Nat → Prop} (C : Cx p s m args meth c D cy cX9_speech 6 RX9 (some .int) A (wC cy ad)) {r : Int32 × St} : ∀ (X : St) (a1 : Int32) (a2 : Int32) (a3 : Int32), jT_speech X a1 a2 a3 = some r → SW p l e ({ frames := 1, cells := 0, slots := 0, locals := 22 } : Room) s m args below meth c D 6 A (wC cy ad) (MQ below (poI D (wC cy ad) A r.1 r.2) args s 0 0 A) X [(0, .ref (ad 0)), (1, .int a1), (2, .int a2), (3, .int a3)] 0 [] := by
  intro X a1 a2 a3 hJ
  unfold jT_speech at hJ
  refine sw_aload_n (pc := 0) C 0 dX9_speech_0 rfl rfl ?_
  refine gC_0_3 (pc := 1) C wd_2_4 dX9_speech_1 ?_
  refine sw_iload_n (pc := 4) C 1 dX9_speech_4 rfl rfl ?_
  obtain ⟨q5, hq5, hJ⟩ := bind_some hJ
  refine sw_callV_i (pc := 5) C (st := []) (As := [.int a1]) (k_Ch_has C.2.2.2.2.2.2.1 hq5) pk_X1_has wd_14_23 5 rfl rfl rfl ⟨Nat.le_of_ble_eq_true rfl, Nat.le_of_ble_eq_true rfl⟩ ⟨rfl, rfl⟩ rfl rfl (Nat.le_of_ble_eq_true rfl) dX9_speech_5 ?_
  refine sw_if_ne (pc := 8) (tgt := 14) C dX9_speech_8 (by decide) (fun hb8 => ?_) (fun hb8 => ?_)
  · replace hJ := iten hb8 hJ
    refine sw_iload_n (pc := 14) C 2 dX9_speech_14 rfl rfl ?_
    refine sw_iconst (pc := 15) C (v := (0 : Int32)) dX9_speech_15 (by decide) ?_
    refine sw_iconst (pc := 16) C (v := (4 : Int32)) dX9_speech_16 (by decide) ?_
    obtain ⟨q17, hq17, hJ⟩ := bind_some hJ
    refine sw_callS_i (pc := 17) C (st := []) (As := [.int a2, .int (0 : Int32), .int (4 : Int32)]) (k_T_isBetween C.2.2.2.2.2.2.1 hq17) pk_X9_isBetween wd_12_12 ⟨Nat.le_of_ble_eq_true rfl, Nat.le_of_ble_eq_true rfl⟩ ⟨rfl, rfl⟩ rfl rfl (Nat.le_of_ble_eq_true rfl) dX9_speech_17 ?_
    refine sw_if_eq (pc := 20) (tgt := 33) C dX9_speech_20 (by decide) (fun hb20 => ?_) (fun hb20 => ?_)
    · replace hJ := itep hb20 hJ
      refine sw_bipush (pc := 33) C (v := (-102 : Int32)) dX9_speech_33 (by decide) ?_
      obtain rfl := Option.some.inj hJ
      exact sw_iret (pc := 35) C dX9_speech_35
    · replace hJ := iten hb20 hJ
      refine sw_iload_n (pc := 23) C 3 dX9_speech_23 rfl rfl ?_
      refine sw_iconst (pc := 24) C (v := (0 : Int32)) dX9_speech_24 (by decide) ?_
      refine sw_bipush (pc := 25) C (v := (9 : Int32)) dX9_speech_25 (by decide) ?_
      obtain ⟨q27, hq27, hJ⟩ := bind_some hJ
      refine sw_callS_i (pc := 27) C (st := []) (As := [.int a3, .int (0 : Int32), .int (9 : Int32)]) (k_T_isBetween C.2.2.2.2.2.2.1 hq27) pk_X9_isBetween wd_12_12 ⟨Nat.le_of_ble_eq_true rfl, Nat.le_of_ble_eq_true rfl⟩ ⟨rfl, rfl⟩ rfl rfl (Nat.le_of_ble_eq_true rfl) dX9_speech_27 ?_
      refine sw_if_ne (pc := 30) (tgt := 36) C dX9_speech_30 (by decide) (fun hb30 => ?_) (fun hb30 => ?_)
      · replace hJ := iten hb30 hJ
        refine sw_aload_n (pc := 36) C 0 dX9_speech_36 rfl rfl ?_
        refine gC_0_3 (pc := 37) C wd_2_4 dX9_speech_37 ?_
        refine sw_iload_n (pc := 40) C 1 dX9_speech_40 rfl rfl ?_
        obtain ⟨q41, hq41, hJ⟩ := bind_some hJ
        refine sw_callV_r (pc := 41) C (st := []) (As := [.int a1]) (k_Ch_who C.2.2.2.2.2.2.1 hq41) pk_X1_who wd_15_3 5 rfl rfl rfl ⟨Nat.le_of_ble_eq_true rfl, Nat.le_of_ble_eq_true rfl⟩ ⟨rfl, rfl⟩ rfl rfl (Nat.le_of_ble_eq_true rfl) dX9_speech_41 ?_
        obtain ⟨hm41, hJ⟩ := gd hJ
        refine sw_astore (pc := 44) C dX9_speech_44 (by decide) (ll2 := [(4, .ref (ad (14 + q41))), (0, .ref (ad 0)), (1, .int a1), (2, .int a2), (3, .int a3)]) rfl ?_
        refine sw_aload (pc := 46) C 0 dX9_speech_46 rfl ?_
        refine gC_m_5N (pc := 48) C (i := q41) hm41 nd_F8 dX9_speech_48 ?_
        refine sw_istore (pc := 51) C dX9_speech_51 (by decide) (ll2 := [(5, .int (sM X q41 5)), (4, .ref (ad (14 + q41))), (0, .ref (ad 0)), (1, .int a1), (2, .int a2), (3, .int a3)]) rfl ?_
        refine sw_aload (pc := 53) C 1 dX9_speech_53 rfl ?_
        refine sw_iload_n (pc := 55) C 4 dX9_speech_55 rfl rfl ?_
        refine pC_m_5N (pc := 56) C (i := q41) hm41 nd_F8 dX9_speech_56 ?_
        refine sw_aload (pc := 59) C 1 dX9_speech_59 rfl ?_
        refine sw_iload_n (pc := 61) C 5 dX9_speech_61 rfl rfl ?_
        refine pC_m_6N (pc := 62) C (i := q41) hm41 nd_F9 dX9_speech_62 ?_
        refine sw_iload (pc := 65) C 0 dX9_speech_65 rfl ?_
        obtain rfl := Option.some.inj hJ
        exact sw_iret (pc := 67) C dX9_speech_67
      · replace hJ := itep hb30 hJ
        refine sw_bipush (pc := 33) C (v := (-102 : Int32)) dX9_speech_33 (by decide) ?_
        obtain rfl := Option.some.inj hJ
        exact sw_iret (pc := 35) C dX9_speech_35
  · replace hJ := itep hb8 hJ
    refine sw_bipush (pc := 11) C (v := (-101 : Int32)) dX9_speech_11 (by decide) ?_
    obtain rfl := Option.some.inj hJ
    exact sw_iret (pc := 13) C dX9_speech_13
set_option maxHeartbeats 4000000 in
set_option maxRecDepth 100000 in
theorem k_T_speech {l : Launch} {D : va_G} {cy : Nat → ClassId} {ad : Nat → Nat} {A : Nat → Prop} (hD : ∀ X, va_D A (wC cy ad X)) {X : St} {a1 : Int32} {a2 : Int32} {a3 : Int32} {r : Int32 × St} (hJ : jT_speech X a1 a2 a3 = some r) : Met l yX9_speech (wsY yX9_speech cX9_speech 6 (some .int)) ({ frames := 1, cells := 0, slots := 0, locals := 22 } : Room) (prX D cy (wC cy ad) X [.ref (ad 0), .int a1, .int a2, .int a3]) (poI D (wC cy ad) A r.1 r.2) 0 0 A := sw_met (by decide +kernel) (Nat.le_of_ble_eq_true rfl) hD (fun p e s m args below meth c C => t_T_speech C _ _ _ _ hJ)
set_option maxHeartbeats 4000000 in
set_option maxRecDepth 100000 in
theorem t_T_about {p : Program} {l : Launch} {e : Env} {s : State} {m : MethodId} {args : Array Value} {below : List Frame} {meth : Method} {c : Code} {D : va_G} {cy : Nat → ClassId} {ad : Nat → Nat} {A : Nat → Prop} (C : Cx p s m args meth c D cy cX9_about 4 RX9 (some .int) A (wC cy ad)) {X : St} {r : Int32} : ∀ (a1 : Int32) (a2 : Int32), jT_about X a1 a2 = some r → SW p l e ({ frames := 2, cells := 0, slots := 0, locals := 47 } : Room) s m args below meth c D 4 A (wC cy ad) (MQ below (poI D (wC cy ad) A r X) args s 0 0 A) X [(0, .ref (ad 0)), (1, .int a1), (2, .int a2)] 0 [] := by
  intro a1 a2 hJ
  unfold jT_about at hJ
  refine sw_aload_n (pc := 0) C 0 dX9_about_0 rfl rfl ?_
  refine gC_0_3 (pc := 1) C wd_2_4 dX9_about_1 ?_
  refine sw_iload_n (pc := 4) C 1 dX9_about_4 rfl rfl ?_
  obtain ⟨q5, hq5, hJ⟩ := bind_some hJ
  refine sw_callV_i (pc := 5) C (st := []) (As := [.int a1]) (k_Ch_has C.2.2.2.2.2.2.1 hq5) pk_X1_has wd_14_23 5 rfl rfl rfl ⟨Nat.le_of_ble_eq_true rfl, Nat.le_of_ble_eq_true rfl⟩ ⟨rfl, rfl⟩ rfl rfl (Nat.le_of_ble_eq_true rfl) dX9_about_5 ?_
  refine sw_if_ne (pc := 8) (tgt := 14) C dX9_about_8 (by decide) (fun hb8 => ?_) (fun hb8 => ?_)
  · replace hJ := iten hb8 hJ
    refine sw_aload_n (pc := 14) C 0 dX9_about_14 rfl rfl ?_
    refine gC_0_3 (pc := 15) C wd_2_4 dX9_about_15 ?_
    refine sw_iload_n (pc := 18) C 1 dX9_about_18 rfl rfl ?_
    obtain ⟨q19, hq19, hJ⟩ := bind_some hJ
    refine sw_callV_r (pc := 19) C (st := []) (As := [.int a1]) (k_Ch_who C.2.2.2.2.2.2.1 hq19) pk_X1_who wd_15_3 5 rfl rfl rfl ⟨Nat.le_of_ble_eq_true rfl, Nat.le_of_ble_eq_true rfl⟩ ⟨rfl, rfl⟩ rfl rfl (Nat.le_of_ble_eq_true rfl) dX9_about_19 ?_
    obtain ⟨hm19, hJ⟩ := gd hJ
    refine sw_astore_n (pc := 22) C dX9_about_22 rfl (by decide) (ll2 := [(3, .ref (ad (14 + q19))), (0, .ref (ad 0)), (1, .int a1), (2, .int a2)]) rfl ?_
    refine sw_iload_n (pc := 23) C 3 dX9_about_23 rfl rfl ?_
    by_cases hs24_0 : a2 = (0 : Int32)
    · replace hJ := itep hs24_0 hJ
      refine sw_tblIn (pc := 24) C (0 : Int32) (off := 64) (tgt := 88) dX9_about_24 hs24_0 (by decide) (by decide) rfl (by decide) ?_
      refine sw_aload_n (pc := 88) C 0 dX9_about_88 rfl rfl ?_
      refine gC_m_0N (pc := 89) C (i := q19) hm19 nd_F0 dX9_about_89 ?_
      obtain rfl := Option.some.inj hJ
      exact sw_iret (pc := 92) C dX9_about_92
    replace hJ := iten hs24_0 hJ
    by_cases hs24_1 : a2 = (1 : Int32)
    · replace hJ := itep hs24_1 hJ
      refine sw_tblIn (pc := 24) C (1 : Int32) (off := 69) (tgt := 93) dX9_about_24 hs24_1 (by decide) (by decide) rfl (by decide) ?_
      refine sw_aload_n (pc := 93) C 0 dX9_about_93 rfl rfl ?_
      refine gC_m_1N (pc := 94) C (i := q19) hm19 nd_F1 dX9_about_94 ?_
      obtain rfl := Option.some.inj hJ
      exact sw_iret (pc := 97) C dX9_about_97
    replace hJ := iten hs24_1 hJ
    by_cases hs24_2 : a2 = (2 : Int32)
    · replace hJ := itep hs24_2 hJ
      refine sw_tblIn (pc := 24) C (2 : Int32) (off := 74) (tgt := 98) dX9_about_24 hs24_2 (by decide) (by decide) rfl (by decide) ?_
      refine sw_aload_n (pc := 98) C 0 dX9_about_98 rfl rfl ?_
      refine gC_m_2N (pc := 99) C (i := q19) hm19 nd_F2 dX9_about_99 ?_
      obtain rfl := Option.some.inj hJ
      exact sw_iret (pc := 102) C dX9_about_102
    replace hJ := iten hs24_2 hJ
    by_cases hs24_3 : a2 = (3 : Int32)
    · replace hJ := itep hs24_3 hJ
      refine sw_tblIn (pc := 24) C (3 : Int32) (off := 79) (tgt := 103) dX9_about_24 hs24_3 (by decide) (by decide) rfl (by decide) ?_
      refine sw_aload_n (pc := 103) C 0 dX9_about_103 rfl rfl ?_
      refine gC_m_3N (pc := 104) C (i := q19) hm19 nd_F3 dX9_about_104 ?_
      obtain rfl := Option.some.inj hJ
      exact sw_iret (pc := 107) C dX9_about_107
    replace hJ := iten hs24_3 hJ
    by_cases hs24_4 : a2 = (4 : Int32)
    · replace hJ := itep hs24_4 hJ
      refine sw_tblIn (pc := 24) C (4 : Int32) (off := 84) (tgt := 108) dX9_about_24 hs24_4 (by decide) (by decide) rfl (by decide) ?_
      refine sw_aload_n (pc := 108) C 0 dX9_about_108 rfl rfl ?_
      refine gC_m_4N (pc := 109) C (i := q19) hm19 nd_F6 dX9_about_109 ?_
      obtain rfl := Option.some.inj hJ
      exact sw_iret (pc := 112) C dX9_about_112
    replace hJ := iten hs24_4 hJ
    by_cases hs24_5 : a2 = (5 : Int32)
    · replace hJ := itep hs24_5 hJ
      refine sw_tblIn (pc := 24) C (5 : Int32) (off := 89) (tgt := 113) dX9_about_24 hs24_5 (by decide) (by decide) rfl (by decide) ?_
      refine sw_aload_n (pc := 113) C 0 dX9_about_113 rfl rfl ?_
      refine gC_m_5N (pc := 114) C (i := q19) hm19 nd_F8 dX9_about_114 ?_
      obtain rfl := Option.some.inj hJ
      exact sw_iret (pc := 117) C dX9_about_117
    replace hJ := iten hs24_5 hJ
    by_cases hs24_6 : a2 = (6 : Int32)
    · replace hJ := itep hs24_6 hJ
      refine sw_tblIn (pc := 24) C (6 : Int32) (off := 94) (tgt := 118) dX9_about_24 hs24_6 (by decide) (by decide) rfl (by decide) ?_
      refine sw_aload_n (pc := 118) C 0 dX9_about_118 rfl rfl ?_
      refine gC_m_6N (pc := 119) C (i := q19) hm19 nd_F9 dX9_about_119 ?_
      obtain rfl := Option.some.inj hJ
      exact sw_iret (pc := 122) C dX9_about_122
    replace hJ := iten hs24_6 hJ
    by_cases hs24_7 : a2 = (7 : Int32)
    · replace hJ := itep hs24_7 hJ
      refine sw_tblIn (pc := 24) C (7 : Int32) (off := 99) (tgt := 123) dX9_about_24 hs24_7 (by decide) (by decide) rfl (by decide) ?_
      refine sw_aload_n (pc := 123) C 1 dX9_about_123 rfl rfl ?_
      refine gC_0_6 (pc := 124) C wd_15_16 dX9_about_124 ?_
      refine sw_iload_n (pc := 127) C 2 dX9_about_127 rfl rfl ?_
      obtain ⟨q128, hq128, hJ⟩ := bind_some hJ
      refine sw_callS_i (pc := 128) C (st := []) (As := [.int (sF X 6), .int a1]) (k_Ro_heightOf C.2.2.2.2.2.2.1 hq128) pk_X6_heightOf wd_15_17 ⟨Nat.le_of_ble_eq_true rfl, Nat.le_of_ble_eq_true rfl⟩ ⟨rfl, rfl⟩ rfl rfl (Nat.le_of_ble_eq_true rfl) dX9_about_128 ?_
      obtain rfl := Option.some.inj hJ
      exact sw_iret (pc := 131) C dX9_about_131
    replace hJ := iten hs24_7 hJ
    by_cases hs24_8 : a2 = (8 : Int32)
    · replace hJ := itep hs24_8 hJ
      refine sw_tblIn (pc := 24) C (8 : Int32) (off := 108) (tgt := 132) dX9_about_24 hs24_8 (by decide) (by decide) rfl (by decide) ?_
      refine sw_aload_n (pc := 132) C 0 dX9_about_132 rfl rfl ?_
      refine gC_m_7N (pc := 133) C (i := q19) hm19 nd_F11 dX9_about_133 ?_
      obtain rfl := Option.some.inj hJ
      exact sw_iret (pc := 136) C dX9_about_136
    replace hJ := iten hs24_8 hJ
    by_cases hs24_9 : a2 = (9 : Int32)
    · replace hJ := itep hs24_9 hJ
      refine sw_tblIn (pc := 24) C (9 : Int32) (off := 113) (tgt := 137) dX9_about_24 hs24_9 (by decide) (by decide) rfl (by decide) ?_
      refine sw_aload_n (pc := 137) C 0 dX9_about_137 rfl rfl ?_
      refine gC_m_9N (pc := 138) C (i := q19) hm19 nd_F13 dX9_about_138 ?_
      obtain rfl := Option.some.inj hJ
      exact sw_iret (pc := 141) C dX9_about_141
    replace hJ := iten hs24_9 hJ
    by_cases hs24_10 : a2 = (10 : Int32)
    · replace hJ := itep hs24_10 hJ
      refine sw_tblIn (pc := 24) C (10 : Int32) (off := 118) (tgt := 142) dX9_about_24 hs24_10 (by decide) (by decide) rfl (by decide) ?_
      refine sw_aload_n (pc := 142) C 0 dX9_about_142 rfl rfl ?_
      obtain ⟨q143, hq143, hJ⟩ := bind_some hJ
      refine sw_callV_i (pc := 143) C (st := []) (As := []) (k_Me_canBear C.2.2.2.2.2.2.1 hm19 hq143) pk_X4_canBear wd_16_5 (14 + q19) (wC_mem _ hm19) rfl rfl ⟨Nat.le_of_ble_eq_true rfl, Nat.le_of_ble_eq_true rfl⟩ ⟨rfl, rfl⟩ rfl rfl (Nat.le_of_ble_eq_true rfl) dX9_about_143 ?_
      obtain rfl := Option.some.inj hJ
      exact sw_iret (pc := 146) C dX9_about_146
    replace hJ := iten hs24_10 hJ
    by_cases hs24_11 : a2 = (11 : Int32)
    · replace hJ := itep hs24_11 hJ
      refine sw_tblIn (pc := 24) C (11 : Int32) (off := 123) (tgt := 147) dX9_about_24 hs24_11 (by decide) (by decide) rfl (by decide) ?_
      refine sw_aload_n (pc := 147) C 1 dX9_about_147 rfl rfl ?_
      refine gC_0_3 (pc := 148) C wd_2_4 dX9_about_148 ?_
      refine sw_aload_n (pc := 151) C 1 dX9_about_151 rfl rfl ?_
      refine gC_0_6 (pc := 152) C wd_15_16 dX9_about_152 ?_
      refine sw_iload_n (pc := 155) C 2 dX9_about_155 rfl rfl ?_
      obtain ⟨q156, hq156, hJ⟩ := bind_some hJ
      refine sw_callV_i (pc := 156) C (st := []) (As := [.int (sF X 6), .int a1]) (k_Ch_loadOn C.2.2.2.2.2.2.1 hq156) pk_X1_loadOn wd_16_10 5 rfl rfl rfl ⟨Nat.le_of_ble_eq_true rfl, Nat.le_of_ble_eq_true rfl⟩ ⟨rfl, rfl⟩ rfl rfl (Nat.le_of_ble_eq_true rfl) dX9_about_156 ?_
      obtain rfl := Option.some.inj hJ
      exact sw_iret (pc := 159) C dX9_about_159
    replace hJ := iten hs24_11 hJ
    have e24_0 := tbl_ne (0 : Int32) (a := 0) hs24_0 (by decide)
    have e24_1 := tbl_ne (1 : Int32) (a := 1) hs24_1 (by decide)
    have e24_2 := tbl_ne (2 : Int32) (a := 2) hs24_2 (by decide)
    have e24_3 := tbl_ne (3 : Int32) (a := 3) hs24_3 (by decide)
    have e24_4 := tbl_ne (4 : Int32) (a := 4) hs24_4 (by decide)
    have e24_5 := tbl_ne (5 : Int32) (a := 5) hs24_5 (by decide)
    have e24_6 := tbl_ne (6 : Int32) (a := 6) hs24_6 (by decide)
    have e24_7 := tbl_ne (7 : Int32) (a := 7) hs24_7 (by decide)
    have e24_8 := tbl_ne (8 : Int32) (a := 8) hs24_8 (by decide)
    have e24_9 := tbl_ne (9 : Int32) (a := 9) hs24_9 (by decide)
    have e24_10 := tbl_ne (10 : Int32) (a := 10) hs24_10 (by decide)
    have e24_11 := tbl_ne (11 : Int32) (a := 11) hs24_11 (by decide)
    refine sw_tblOut (pc := 24) (tgt := 160) C dX9_about_24 (by omega) (by decide) ?_
    refine sw_bipush (pc := 160) C (v := (-102 : Int32)) dX9_about_160 (by decide) ?_
    obtain rfl := Option.some.inj hJ
    exact sw_iret (pc := 162) C dX9_about_162
  · replace hJ := itep hb8 hJ
    refine sw_bipush (pc := 11) C (v := (-101 : Int32)) dX9_about_11 (by decide) ?_
    obtain rfl := Option.some.inj hJ
    exact sw_iret (pc := 13) C dX9_about_13
set_option maxHeartbeats 4000000 in
set_option maxRecDepth 100000 in
theorem k_T_about {l : Launch} {D : va_G} {cy : Nat → ClassId} {ad : Nat → Nat} {A : Nat → Prop} (hD : ∀ X, va_D A (wC cy ad X)) {X : St} {a1 : Int32} {a2 : Int32} {r : Int32} (hJ : jT_about X a1 a2 = some r) : Met l yX9_about (wsY yX9_about cX9_about 4 (some .int)) ({ frames := 2, cells := 0, slots := 0, locals := 47 } : Room) (prX D cy (wC cy ad) X [.ref (ad 0), .int a1, .int a2]) (poI D (wC cy ad) A r X) 0 0 A := sw_met (by decide +kernel) (Nat.le_of_ble_eq_true rfl) hD (fun p e s m args below meth c C => t_T_about C _ _ hJ)
set_option maxHeartbeats 4000000 in
set_option maxRecDepth 100000 in
theorem t_T_as {p : Program} {l : Launch} {e : Env} {s : State} {m : MethodId} {args : Array Value} {below : List Frame} {meth : Method} {c : Code} {D : va_G} {cy : Nat → ClassId} {ad : Nat → Nat} {A : Nat → Prop} (C : Cx p s m args meth c D cy cX9_as 3 RX9 (some .int) A (wC cy ad)) {X : St} {r : Int32} : ∀ (a1 : Int32) (a2 : Int32), jT_as X a1 a2 = some r → SW p l e ({ frames := 1, cells := 0, slots := 0, locals := 22 } : Room) s m args below meth c D 3 A (wC cy ad) (MQ below (poI D (wC cy ad) A r X) args s 0 0 A) X [(0, .ref (ad 0)), (1, .int a1), (2, .int a2)] 0 [] := by
  intro a1 a2 hJ
  unfold jT_as at hJ
  refine sw_aload_n (pc := 0) C 0 dX9_as_0 rfl rfl ?_
  refine gC_0_3 (pc := 1) C wd_2_4 dX9_as_1 ?_
  refine sw_iload_n (pc := 4) C 1 dX9_as_4 rfl rfl ?_
  obtain ⟨q5, hq5, hJ⟩ := bind_some hJ
  refine sw_callV_i (pc := 5) C (st := []) (As := [.int a1]) (k_Ch_has C.2.2.2.2.2.2.1 hq5) pk_X1_has wd_14_23 5 rfl rfl rfl ⟨Nat.le_of_ble_eq_true rfl, Nat.le_of_ble_eq_true rfl⟩ ⟨rfl, rfl⟩ rfl rfl (Nat.le_of_ble_eq_true rfl) dX9_as_5 ?_
  refine sw_if_ne (pc := 8) (tgt := 14) C dX9_as_8 (by decide) (fun hb8 => ?_) (fun hb8 => ?_)
  · replace hJ := iten hb8 hJ
    refine sw_iload_n (pc := 14) C 2 dX9_as_14 rfl rfl ?_
    refine sw_iconst (pc := 15) C (v := (0 : Int32)) dX9_as_15 (by decide) ?_
    refine sw_iconst (pc := 16) C (v := (4 : Int32)) dX9_as_16 (by decide) ?_
    obtain ⟨q17, hq17, hJ⟩ := bind_some hJ
    refine sw_callS_i (pc := 17) C (st := []) (As := [.int a2, .int (0 : Int32), .int (4 : Int32)]) (k_T_isBetween C.2.2.2.2.2.2.1 hq17) pk_X9_isBetween wd_12_12 ⟨Nat.le_of_ble_eq_true rfl, Nat.le_of_ble_eq_true rfl⟩ ⟨rfl, rfl⟩ rfl rfl (Nat.le_of_ble_eq_true rfl) dX9_as_17 ?_
    refine sw_if_ne (pc := 20) (tgt := 26) C dX9_as_20 (by decide) (fun hb20 => ?_) (fun hb20 => ?_)
    · replace hJ := iten hb20 hJ
      refine sw_aload_n (pc := 26) C 0 dX9_as_26 rfl rfl ?_
      refine gC_0_3 (pc := 27) C wd_2_4 dX9_as_27 ?_
      refine sw_iload_n (pc := 30) C 1 dX9_as_30 rfl rfl ?_
      obtain ⟨q31, hq31, hJ⟩ := bind_some hJ
      refine sw_callV_r (pc := 31) C (st := []) (As := [.int a1]) (k_Ch_who C.2.2.2.2.2.2.1 hq31) pk_X1_who wd_15_3 5 rfl rfl rfl ⟨Nat.le_of_ble_eq_true rfl, Nat.le_of_ble_eq_true rfl⟩ ⟨rfl, rfl⟩ rfl rfl (Nat.le_of_ble_eq_true rfl) dX9_as_31 ?_
      obtain ⟨hm31, hJ⟩ := gd hJ
      refine sw_iload_n (pc := 34) C 2 dX9_as_34 rfl rfl ?_
      obtain ⟨q35, hq35, hJ⟩ := bind_some hJ
      refine sw_callV_i (pc := 35) C (st := []) (As := [.int a2]) (k_Me_isA C.2.2.2.2.2.2.1 hm31 hq35) pk_X4_isA wd_18_1 (14 + q31) (wC_mem _ hm31) rfl rfl ⟨Nat.le_of_ble_eq_true rfl, Nat.le_of_ble_eq_true rfl⟩ ⟨rfl, rfl⟩ rfl rfl (Nat.le_of_ble_eq_true rfl) dX9_as_35 ?_
      refine sw_if_eq (pc := 38) (tgt := 45) C dX9_as_38 (by decide) (fun hb38 => ?_) (fun hb38 => ?_)
      · replace hJ := itep hb38 hJ
        refine sw_iconst (pc := 45) C (v := (-1 : Int32)) dX9_as_45 (by decide) ?_
        obtain rfl := Option.some.inj hJ
        exact sw_iret (pc := 46) C dX9_as_46
      · replace hJ := iten hb38 hJ
        refine sw_iload_n (pc := 41) C 1 dX9_as_41 rfl rfl ?_
        refine sw_goto (pc := 42) (tgt := 46) C dX9_as_42 (by decide) ?_
        obtain rfl := Option.some.inj hJ
        exact sw_iret (pc := 46) C dX9_as_46
    · replace hJ := itep hb20 hJ
      refine sw_bipush (pc := 23) C (v := (-102 : Int32)) dX9_as_23 (by decide) ?_
      obtain rfl := Option.some.inj hJ
      exact sw_iret (pc := 25) C dX9_as_25
  · replace hJ := itep hb8 hJ
    refine sw_bipush (pc := 11) C (v := (-101 : Int32)) dX9_as_11 (by decide) ?_
    obtain rfl := Option.some.inj hJ
    exact sw_iret (pc := 13) C dX9_as_13
set_option maxHeartbeats 4000000 in
set_option maxRecDepth 100000 in
theorem k_T_as {l : Launch} {D : va_G} {cy : Nat → ClassId} {ad : Nat → Nat} {A : Nat → Prop} (hD : ∀ X, va_D A (wC cy ad X)) {X : St} {a1 : Int32} {a2 : Int32} {r : Int32} (hJ : jT_as X a1 a2 = some r) : Met l yX9_as (wsY yX9_as cX9_as 3 (some .int)) ({ frames := 1, cells := 0, slots := 0, locals := 22 } : Room) (prX D cy (wC cy ad) X [.ref (ad 0), .int a1, .int a2]) (poI D (wC cy ad) A r X) 0 0 A := sw_met (by decide +kernel) (Nat.le_of_ble_eq_true rfl) hD (fun p e s m args below meth c C => t_T_as C _ _ hJ)
set_option maxHeartbeats 4000000 in
set_option maxRecDepth 100000 in
theorem t_T_chair {p : Program} {l : Launch} {e : Env} {s : State} {m : MethodId} {args : Array Value} {below : List Frame} {meth : Method} {c : Code} {D : va_G} {cy : Nat → ClassId} {ad : Nat → Nat} {A : Nat → Prop} (C : Cx p s m args meth c D cy cX9_chair 5 RX9 (some .int) A (wC cy ad)) {r : Int32 × St} : ∀ (X : St) (a1 : Int32) (a2 : Int32), jT_chair X a1 a2 = some r → SW p l e ({ frames := 2, cells := 0, slots := 0, locals := 44 } : Room) s m args below meth c D 5 A (wC cy ad) (MQ below (poI D (wC cy ad) A r.1 r.2) args s 0 0 A) X [(0, .ref (ad 0)), (1, .int a1), (2, .int a2)] 0 [] := by
  intro X a1 a2 hJ
  unfold jT_chair at hJ
  refine sw_aload_n (pc := 0) C 0 dX9_chair_0 rfl rfl ?_
  refine gC_0_3 (pc := 1) C wd_2_4 dX9_chair_1 ?_
  refine sw_iload_n (pc := 4) C 1 dX9_chair_4 rfl rfl ?_
  obtain ⟨q5, hq5, hJ⟩ := bind_some hJ
  refine sw_callV_i (pc := 5) C (st := []) (As := [.int a1]) (k_Ch_has C.2.2.2.2.2.2.1 hq5) pk_X1_has wd_14_23 5 rfl rfl rfl ⟨Nat.le_of_ble_eq_true rfl, Nat.le_of_ble_eq_true rfl⟩ ⟨rfl, rfl⟩ rfl rfl (Nat.le_of_ble_eq_true rfl) dX9_chair_5 ?_
  refine sw_if_ne (pc := 8) (tgt := 14) C dX9_chair_8 (by decide) (fun hb8 => ?_) (fun hb8 => ?_)
  · replace hJ := iten hb8 hJ
    refine sw_iload_n (pc := 14) C 2 dX9_chair_14 rfl rfl ?_
    refine sw_iconst (pc := 15) C (v := (0 : Int32)) dX9_chair_15 (by decide) ?_
    refine sw_bipush (pc := 16) C (v := (99 : Int32)) dX9_chair_16 (by decide) ?_
    obtain ⟨q18, hq18, hJ⟩ := bind_some hJ
    refine sw_callS_i (pc := 18) C (st := []) (As := [.int a2, .int (0 : Int32), .int (99 : Int32)]) (k_T_isBetween C.2.2.2.2.2.2.1 hq18) pk_X9_isBetween wd_12_12 ⟨Nat.le_of_ble_eq_true rfl, Nat.le_of_ble_eq_true rfl⟩ ⟨rfl, rfl⟩ rfl rfl (Nat.le_of_ble_eq_true rfl) dX9_chair_18 ?_
    refine sw_if_ne (pc := 21) (tgt := 27) C dX9_chair_21 (by decide) (fun hb21 => ?_) (fun hb21 => ?_)
    · replace hJ := iten hb21 hJ
      refine sw_aload_n (pc := 27) C 0 dX9_chair_27 rfl rfl ?_
      refine gC_0_6 (pc := 28) C wd_15_16 dX9_chair_28 ?_
      refine sw_iload_n (pc := 31) C 1 dX9_chair_31 rfl rfl ?_
      obtain ⟨q32, hq32, hJ⟩ := bind_some hJ
      refine sw_callS_i (pc := 32) C (st := []) (As := [.int (sF X 6), .int a1]) (k_Ro_heightOf C.2.2.2.2.2.2.1 hq32) pk_X6_heightOf wd_15_17 ⟨Nat.le_of_ble_eq_true rfl, Nat.le_of_ble_eq_true rfl⟩ ⟨rfl, rfl⟩ rfl rfl (Nat.le_of_ble_eq_true rfl) dX9_chair_32 ?_
      refine sw_if_le (pc := 35) (tgt := 41) C dX9_chair_35 (by decide) (fun hb35 => ?_) (fun hb35 => ?_)
      · replace hJ := itep hb35 hJ
        refine sw_aload_n (pc := 41) C 0 dX9_chair_41 rfl rfl ?_
        refine gC_0_3 (pc := 42) C wd_2_4 dX9_chair_42 ?_
        refine sw_iload_n (pc := 45) C 1 dX9_chair_45 rfl rfl ?_
        obtain ⟨q46, hq46, hJ⟩ := bind_some hJ
        refine sw_callV_r (pc := 46) C (st := []) (As := [.int a1]) (k_Ch_who C.2.2.2.2.2.2.1 hq46) pk_X1_who wd_15_3 5 rfl rfl rfl ⟨Nat.le_of_ble_eq_true rfl, Nat.le_of_ble_eq_true rfl⟩ ⟨rfl, rfl⟩ rfl rfl (Nat.le_of_ble_eq_true rfl) dX9_chair_46 ?_
        obtain ⟨hm46, hJ⟩ := gd hJ
        refine sw_astore_n (pc := 49) C dX9_chair_49 rfl (by decide) (ll2 := [(3, .ref (ad (14 + q46))), (0, .ref (ad 0)), (1, .int a1), (2, .int a2)]) rfl ?_
        refine sw_aload_n (pc := 50) C 0 dX9_chair_50 rfl rfl ?_
        refine gC_m_4N (pc := 51) C (i := q46) hm46 nd_F6 dX9_chair_51 ?_
        refine sw_istore (pc := 54) C dX9_chair_54 (by decide) (ll2 := [(4, .int (sM X q46 4)), (3, .ref (ad (14 + q46))), (0, .ref (ad 0)), (1, .int a1), (2, .int a2)]) rfl ?_
        refine sw_aload_n (pc := 56) C 1 dX9_chair_56 rfl rfl ?_
        refine sw_iload_n (pc := 57) C 4 dX9_chair_57 rfl rfl ?_
        refine pC_m_4N (pc := 58) C (i := q46) hm46 nd_F6 dX9_chair_58 ?_
        refine sw_iload (pc := 61) C 0 dX9_chair_61 rfl ?_
        obtain rfl := Option.some.inj hJ
        exact sw_iret (pc := 63) C dX9_chair_63
      · replace hJ := iten hb35 hJ
        refine sw_bipush (pc := 38) C (v := (-103 : Int32)) dX9_chair_38 (by decide) ?_
        obtain rfl := Option.some.inj hJ
        exact sw_iret (pc := 40) C dX9_chair_40
    · replace hJ := itep hb21 hJ
      refine sw_bipush (pc := 24) C (v := (-102 : Int32)) dX9_chair_24 (by decide) ?_
      obtain rfl := Option.some.inj hJ
      exact sw_iret (pc := 26) C dX9_chair_26
  · replace hJ := itep hb8 hJ
    refine sw_bipush (pc := 11) C (v := (-101 : Int32)) dX9_chair_11 (by decide) ?_
    obtain rfl := Option.some.inj hJ
    exact sw_iret (pc := 13) C dX9_chair_13
set_option maxHeartbeats 4000000 in
set_option maxRecDepth 100000 in
theorem k_T_chair {l : Launch} {D : va_G} {cy : Nat → ClassId} {ad : Nat → Nat} {A : Nat → Prop} (hD : ∀ X, va_D A (wC cy ad X)) {X : St} {a1 : Int32} {a2 : Int32} {r : Int32 × St} (hJ : jT_chair X a1 a2 = some r) : Met l yX9_chair (wsY yX9_chair cX9_chair 5 (some .int)) ({ frames := 2, cells := 0, slots := 0, locals := 44 } : Room) (prX D cy (wC cy ad) X [.ref (ad 0), .int a1, .int a2]) (poI D (wC cy ad) A r.1 r.2) 0 0 A := sw_met (by decide +kernel) (Nat.le_of_ble_eq_true rfl) hD (fun p e s m args below meth c C => t_T_chair C _ _ _ hJ)
set_option maxHeartbeats 4000000 in
set_option maxRecDepth 100000 in
theorem t_T_may {p : Program} {l : Launch} {e : Env} {s : State} {m : MethodId} {args : Array Value} {below : List Frame} {meth : Method} {c : Code} {D : va_G} {cy : Nat → ClassId} {ad : Nat → Nat} {A : Nat → Prop} (C : Cx p s m args meth c D cy cX9_may 2 RX9 (some .int) A (wC cy ad)) {X : St} {r : Int32} : ∀ (a1 : Int32), jT_may X a1 = some r → SW p l e ({ frames := 3, cells := 0, slots := 0, locals := 67 } : Room) s m args below meth c D 2 A (wC cy ad) (MQ below (poI D (wC cy ad) A r X) args s 0 0 A) X [(0, .ref (ad 0)), (1, .int a1)] 0 [] := by
  intro a1 hJ
  unfold jT_may at hJ
  refine sw_aload_n (pc := 0) C 0 dX9_may_0 rfl rfl ?_
  refine gC_0_3 (pc := 1) C wd_2_4 dX9_may_1 ?_
  refine sw_iload_n (pc := 4) C 1 dX9_may_4 rfl rfl ?_
  obtain ⟨q5, hq5, hJ⟩ := bind_some hJ
  refine sw_callV_i (pc := 5) C (st := []) (As := [.int a1]) (k_Ch_has C.2.2.2.2.2.2.1 hq5) pk_X1_has wd_14_23 5 rfl rfl rfl ⟨Nat.le_of_ble_eq_true rfl, Nat.le_of_ble_eq_true rfl⟩ ⟨rfl, rfl⟩ rfl rfl (Nat.le_of_ble_eq_true rfl) dX9_may_5 ?_
  refine sw_if_ne (pc := 8) (tgt := 14) C dX9_may_8 (by decide) (fun hb8 => ?_) (fun hb8 => ?_)
  · replace hJ := iten hb8 hJ
    refine sw_aload_n (pc := 14) C 0 dX9_may_14 rfl rfl ?_
    refine gC_0_3 (pc := 15) C wd_2_4 dX9_may_15 ?_
    refine sw_aload_n (pc := 18) C 0 dX9_may_18 rfl rfl ?_
    refine gC_0_6 (pc := 19) C wd_15_16 dX9_may_19 ?_
    refine sw_iload_n (pc := 22) C 1 dX9_may_22 rfl rfl ?_
    obtain ⟨q23, hq23, hJ⟩ := bind_some hJ
    refine sw_callV_i (pc := 23) C (st := []) (As := [.int (sF X 6), .int a1]) (k_Ch_canRise C.2.2.2.2.2.2.1 hq23) pk_X1_canRise wd_18_18 5 rfl rfl rfl ⟨Nat.le_of_ble_eq_true rfl, Nat.le_of_ble_eq_true rfl⟩ ⟨rfl, rfl⟩ rfl rfl (Nat.le_of_ble_eq_true rfl) dX9_may_23 ?_
    refine sw_if_eq (pc := 26) (tgt := 33) C dX9_may_26 (by decide) (fun hb26 => ?_) (fun hb26 => ?_)
    · replace hJ := itep hb26 hJ
      refine sw_iconst (pc := 33) C (v := (0 : Int32)) dX9_may_33 (by decide) ?_
      obtain rfl := Option.some.inj hJ
      exact sw_iret (pc := 34) C dX9_may_34
    · replace hJ := iten hb26 hJ
      refine sw_iconst (pc := 29) C (v := (1 : Int32)) dX9_may_29 (by decide) ?_
      refine sw_goto (pc := 30) (tgt := 34) C dX9_may_30 (by decide) ?_
      obtain rfl := Option.some.inj hJ
      exact sw_iret (pc := 34) C dX9_may_34
  · replace hJ := itep hb8 hJ
    refine sw_bipush (pc := 11) C (v := (-101 : Int32)) dX9_may_11 (by decide) ?_
    obtain rfl := Option.some.inj hJ
    exact sw_iret (pc := 13) C dX9_may_13
set_option maxHeartbeats 4000000 in
set_option maxRecDepth 100000 in
theorem k_T_may {l : Launch} {D : va_G} {cy : Nat → ClassId} {ad : Nat → Nat} {A : Nat → Prop} (hD : ∀ X, va_D A (wC cy ad X)) {X : St} {a1 : Int32} {r : Int32} (hJ : jT_may X a1 = some r) : Met l yX9_may (wsY yX9_may cX9_may 2 (some .int)) ({ frames := 3, cells := 0, slots := 0, locals := 67 } : Room) (prX D cy (wC cy ad) X [.ref (ad 0), .int a1]) (poI D (wC cy ad) A r X) 0 0 A := sw_met (by decide +kernel) (Nat.le_of_ble_eq_true rfl) hD (fun p e s m args below meth c C => t_T_may C _ hJ)
set_option maxHeartbeats 4000000 in
set_option maxRecDepth 100000 in
theorem t_T_rise_74 {p : Program} {l : Launch} {e : Env} {s : State} {m : MethodId} {args : Array Value} {below : List Frame} {meth : Method} {c : Code} {D : va_G} {cy : Nat → ClassId} {ad : Nat → Nat} {A : Nat → Prop} (C : Cx p s m args meth c D cy cX9_rise 3 RX9 (some .int) A (wC cy ad)) {r : Int32 × St} : ∀ (X : St) (v2 : Int32), jT_rise_74 X v2 = some r → SW p l e ({ frames := 3, cells := 0, slots := 0, locals := 70 } : Room) s m args below meth c D 3 A (wC cy ad) (MQ below (poI D (wC cy ad) A r.1 r.2) args s 0 0 A) X [(0, .ref (ad 0)), (2, .int v2)] 74 [] := by
  intro X v2 hJ
  unfold jT_rise_74 at hJ
  refine sw_aload_n (pc := 74) C 0 dX9_rise_74 rfl rfl ?_
  refine sw_iload_n (pc := 75) C 1 dX9_rise_75 rfl rfl ?_
  refine pC_0_6 (pc := 76) C wd_15_16 dX9_rise_76 ?_
  refine sw_aload_n (pc := 79) C 0 dX9_rise_79 rfl rfl ?_
  refine gC_0_6 (pc := 80) C wd_15_16 dX9_rise_80 ?_
  obtain ⟨q83, hq83, hJ⟩ := bind_some hJ
  refine sw_callS_i (pc := 83) C (st := []) (As := [.int (sF (pF X 6 v2) 6)]) (k_Ro_size C.2.2.2.2.2.2.1 hq83) pk_X6_size wd_20_13 ⟨Nat.le_of_ble_eq_true rfl, Nat.le_of_ble_eq_true rfl⟩ ⟨rfl, rfl⟩ rfl rfl (Nat.le_of_ble_eq_true rfl) dX9_rise_83 ?_
  obtain rfl := Option.some.inj hJ
  exact sw_iret (pc := 86) C dX9_rise_86
set_option maxHeartbeats 4000000 in
set_option maxRecDepth 100000 in
theorem t_T_rise {p : Program} {l : Launch} {e : Env} {s : State} {m : MethodId} {args : Array Value} {below : List Frame} {meth : Method} {c : Code} {D : va_G} {cy : Nat → ClassId} {ad : Nat → Nat} {A : Nat → Prop} (C : Cx p s m args meth c D cy cX9_rise 3 RX9 (some .int) A (wC cy ad)) {r : Int32 × St} : ∀ (X : St) (a1 : Int32), jT_rise X a1 = some r → SW p l e ({ frames := 3, cells := 0, slots := 0, locals := 70 } : Room) s m args below meth c D 3 A (wC cy ad) (MQ below (poI D (wC cy ad) A r.1 r.2) args s 0 0 A) X [(0, .ref (ad 0)), (1, .int a1)] 0 [] := by
  intro X a1 hJ
  unfold jT_rise at hJ
  refine sw_aload_n (pc := 0) C 0 dX9_rise_0 rfl rfl ?_
  refine gC_0_3 (pc := 1) C wd_2_4 dX9_rise_1 ?_
  refine sw_iload_n (pc := 4) C 1 dX9_rise_4 rfl rfl ?_
  obtain ⟨q5, hq5, hJ⟩ := bind_some hJ
  refine sw_callV_i (pc := 5) C (st := []) (As := [.int a1]) (k_Ch_has C.2.2.2.2.2.2.1 hq5) pk_X1_has wd_14_23 5 rfl rfl rfl ⟨Nat.le_of_ble_eq_true rfl, Nat.le_of_ble_eq_true rfl⟩ ⟨rfl, rfl⟩ rfl rfl (Nat.le_of_ble_eq_true rfl) dX9_rise_5 ?_
  refine sw_if_ne (pc := 8) (tgt := 14) C dX9_rise_8 (by decide) (fun hb8 => ?_) (fun hb8 => ?_)
  · replace hJ := iten hb8 hJ
    refine sw_aload_n (pc := 14) C 0 dX9_rise_14 rfl rfl ?_
    refine gC_0_3 (pc := 15) C wd_2_4 dX9_rise_15 ?_
    refine sw_aload_n (pc := 18) C 0 dX9_rise_18 rfl rfl ?_
    refine gC_0_6 (pc := 19) C wd_15_16 dX9_rise_19 ?_
    refine sw_iload_n (pc := 22) C 1 dX9_rise_22 rfl rfl ?_
    obtain ⟨q23, hq23, hJ⟩ := bind_some hJ
    refine sw_callV_i (pc := 23) C (st := []) (As := [.int (sF X 6), .int a1]) (k_Ch_canRise C.2.2.2.2.2.2.1 hq23) pk_X1_canRise wd_18_18 5 rfl rfl rfl ⟨Nat.le_of_ble_eq_true rfl, Nat.le_of_ble_eq_true rfl⟩ ⟨rfl, rfl⟩ rfl rfl (Nat.le_of_ble_eq_true rfl) dX9_rise_23 ?_
    refine sw_if_ne (pc := 26) (tgt := 32) C dX9_rise_26 (by decide) (fun hb26 => ?_) (fun hb26 => ?_)
    · replace hJ := iten hb26 hJ
      refine sw_aload_n (pc := 32) C 0 dX9_rise_32 rfl rfl ?_
      refine gC_0_3 (pc := 33) C wd_2_4 dX9_rise_33 ?_
      refine sw_aload_n (pc := 36) C 0 dX9_rise_36 rfl rfl ?_
      refine gC_0_6 (pc := 37) C wd_15_16 dX9_rise_37 ?_
      refine sw_iload_n (pc := 40) C 1 dX9_rise_40 rfl rfl ?_
      obtain ⟨q41, hq41, hJ⟩ := bind_some hJ
      refine sw_callV_i (pc := 41) C (st := []) (As := [.int (sF X 6), .int a1]) (k_Ch_risen C.2.2.2.2.2.2.1 hq41) pk_X1_risen wd_19_19 5 rfl rfl rfl ⟨Nat.le_of_ble_eq_true rfl, Nat.le_of_ble_eq_true rfl⟩ ⟨rfl, rfl⟩ rfl rfl (Nat.le_of_ble_eq_true rfl) dX9_rise_41 ?_
      refine sw_istore_n (pc := 44) C dX9_rise_44 rfl (by decide) (ll2 := [(2, .int q41), (0, .ref (ad 0)), (1, .int a1)]) rfl ?_
      refine sw_iload_n (pc := 45) C 0 dX9_rise_45 rfl rfl ?_
      refine sw_if_ne (pc := 46) (tgt := 74) C dX9_rise_46 (by decide) (fun hb46 => ?_) (fun hb46 => ?_)
      · replace hJ := iten hb46 hJ
        exact sw_sub [1, 0] (by rfl) (t_T_rise_74 C _ _ hJ)
      · replace hJ := itep hb46 hJ
        refine sw_aload_n (pc := 49) C 1 dX9_rise_49 rfl rfl ?_
        refine sw_dup (pc := 50) C dX9_rise_50 rfl ?_
        refine gC_0_7 (pc := 51) C wd_19_18 dX9_rise_51 ?_
        refine sw_iconst (pc := 54) C (v := (1 : Int32)) dX9_rise_54 (by decide) ?_
        refine sw_iadd (pc := 55) C dX9_rise_55 ?_
        refine pC_0_7 (pc := 56) C wd_19_18 dX9_rise_56 ?_
        refine sw_aload_n (pc := 59) C 1 dX9_rise_59 rfl rfl ?_
        refine gC_0_3 (pc := 60) C wd_2_4 dX9_rise_60 ?_
        refine sw_aload_n (pc := 63) C 1 dX9_rise_63 rfl rfl ?_
        refine gC_0_6 (pc := 64) C wd_15_16 dX9_rise_64 ?_
        refine sw_iload_n (pc := 67) C 2 dX9_rise_67 rfl rfl ?_
        obtain ⟨q68, hq68, hJ⟩ := bind_some hJ
        refine sw_callS_i (pc := 68) C (st := [.ref (ad 5)]) (As := [.int (sF (pF X 7 ((sF X 7) + (1 : Int32))) 6), .int a1]) (k_Ro_with C.2.2.2.2.2.2.1 hq68) pk_X6_with wd_20_8 ⟨Nat.le_of_ble_eq_true rfl, Nat.le_of_ble_eq_true rfl⟩ ⟨rfl, rfl⟩ rfl rfl (Nat.le_of_ble_eq_true rfl) dX9_rise_68 ?_
        obtain ⟨q71, hq71, hJ⟩ := bind_some hJ
        refine sw_callV_v (pc := 71) C (st := []) (As := [.int q68]) (k_Ch_bruise C.2.2.2.2.2.2.1 hq71) pk_X1_bruise wd_20_9 5 rfl rfl rfl ⟨Nat.le_of_ble_eq_true rfl, Nat.le_of_ble_eq_true rfl⟩ ⟨rfl, rfl⟩ rfl rfl (Nat.le_of_ble_eq_true rfl) dX9_rise_71 ?_
        exact sw_sub [1, 0] (by rfl) (t_T_rise_74 C _ _ hJ)
    · replace hJ := itep hb26 hJ
      refine sw_bipush (pc := 29) C (v := (-103 : Int32)) dX9_rise_29 (by decide) ?_
      obtain rfl := Option.some.inj hJ
      exact sw_iret (pc := 31) C dX9_rise_31
  · replace hJ := itep hb8 hJ
    refine sw_bipush (pc := 11) C (v := (-101 : Int32)) dX9_rise_11 (by decide) ?_
    obtain rfl := Option.some.inj hJ
    exact sw_iret (pc := 13) C dX9_rise_13
set_option maxHeartbeats 4000000 in
set_option maxRecDepth 100000 in
theorem k_T_rise {l : Launch} {D : va_G} {cy : Nat → ClassId} {ad : Nat → Nat} {A : Nat → Prop} (hD : ∀ X, va_D A (wC cy ad X)) {X : St} {a1 : Int32} {r : Int32 × St} (hJ : jT_rise X a1 = some r) : Met l yX9_rise (wsY yX9_rise cX9_rise 3 (some .int)) ({ frames := 3, cells := 0, slots := 0, locals := 70 } : Room) (prX D cy (wC cy ad) X [.ref (ad 0), .int a1]) (poI D (wC cy ad) A r.1 r.2) 0 0 A := sw_met (by decide +kernel) (Nat.le_of_ble_eq_true rfl) hD (fun p e s m args below meth c C => t_T_rise C _ _ hJ)
set_option maxHeartbeats 4000000 in
set_option maxRecDepth 100000 in
theorem t_T_down {p : Program} {l : Launch} {e : Env} {s : State} {m : MethodId} {args : Array Value} {below : List Frame} {meth : Method} {c : Code} {D : va_G} {cy : Nat → ClassId} {ad : Nat → Nat} {A : Nat → Prop} (C : Cx p s m args meth c D cy cX9_down 2 RX9 (some .int) A (wC cy ad)) {r : Int32 × St} : ∀ (X : St), jT_down X = some r → SW p l e ({ frames := 1, cells := 0, slots := 0, locals := 21 } : Room) s m args below meth c D 2 A (wC cy ad) (MQ below (poI D (wC cy ad) A r.1 r.2) args s 0 0 A) X [(0, .ref (ad 0))] 0 [] := by
  intro X hJ
  unfold jT_down at hJ
  refine sw_aload_n (pc := 0) C 0 dX9_down_0 rfl rfl ?_
  refine gC_0_6 (pc := 1) C wd_15_16 dX9_down_1 ?_
  obtain ⟨q4, hq4, hJ⟩ := bind_some hJ
  refine sw_callS_i (pc := 4) C (st := []) (As := [.int (sF X 6)]) (k_Ro_size C.2.2.2.2.2.2.1 hq4) pk_X6_size wd_20_13 ⟨Nat.le_of_ble_eq_true rfl, Nat.le_of_ble_eq_true rfl⟩ ⟨rfl, rfl⟩ rfl rfl (Nat.le_of_ble_eq_true rfl) dX9_down_4 ?_
  refine sw_istore_n (pc := 7) C dX9_down_7 rfl (by decide) (ll2 := [(1, .int q4), (0, .ref (ad 0))]) rfl ?_
  refine sw_aload_n (pc := 8) C 1 dX9_down_8 rfl rfl ?_
  refine sw_iconst (pc := 9) C (v := (0 : Int32)) dX9_down_9 (by decide) ?_
  refine pC_0_6 (pc := 10) C wd_15_16 dX9_down_10 ?_
  refine sw_iload_n (pc := 13) C 0 dX9_down_13 rfl rfl ?_
  obtain rfl := Option.some.inj hJ
  exact sw_iret (pc := 14) C dX9_down_14
set_option maxHeartbeats 4000000 in
set_option maxRecDepth 100000 in
theorem k_T_down {l : Launch} {D : va_G} {cy : Nat → ClassId} {ad : Nat → Nat} {A : Nat → Prop} (hD : ∀ X, va_D A (wC cy ad X)) {X : St}  {r : Int32 × St} (hJ : jT_down X = some r) : Met l yX9_down (wsY yX9_down cX9_down 2 (some .int)) ({ frames := 1, cells := 0, slots := 0, locals := 21 } : Room) (prX D cy (wC cy ad) X [.ref (ad 0)]) (poI D (wC cy ad) A r.1 r.2) 0 0 A := sw_met (by decide +kernel) (Nat.le_of_ble_eq_true rfl) hD (fun p e s m args below meth c C => t_T_down C _ hJ)
set_option maxHeartbeats 4000000 in
set_option maxRecDepth 100000 in
theorem t_T_at {p : Program} {l : Launch} {e : Env} {s : State} {m : MethodId} {args : Array Value} {below : List Frame} {meth : Method} {c : Code} {D : va_G} {cy : Nat → ClassId} {ad : Nat → Nat} {A : Nat → Prop} (C : Cx p s m args meth c D cy cX9_at 3 RX9 (some .int) A (wC cy ad)) {X : St} {r : Int32} : ∀ (a1 : Int32), jT_at X a1 = some r → SW p l e ({ frames := 2, cells := 0, slots := 0, locals := 43 } : Room) s m args below meth c D 3 A (wC cy ad) (MQ below (poI D (wC cy ad) A r X) args s 0 0 A) X [(0, .ref (ad 0)), (1, .int a1)] 0 [] := by
  intro a1 hJ
  unfold jT_at at hJ
  refine sw_aload_n (pc := 0) C 0 dX9_at_0 rfl rfl ?_
  refine gC_0_6 (pc := 1) C wd_15_16 dX9_at_1 ?_
  refine sw_iload_n (pc := 4) C 1 dX9_at_4 rfl rfl ?_
  obtain ⟨q5, hq5, hJ⟩ := bind_some hJ
  refine sw_callS_i (pc := 5) C (st := []) (As := [.int (sF X 6), .int a1]) (k_Ro_memberAt C.2.2.2.2.2.2.1 hq5) pk_X6_memberAt wd_21_19 ⟨Nat.le_of_ble_eq_true rfl, Nat.le_of_ble_eq_true rfl⟩ ⟨rfl, rfl⟩ rfl rfl (Nat.le_of_ble_eq_true rfl) dX9_at_5 ?_
  refine sw_istore_n (pc := 8) C dX9_at_8 rfl (by decide) (ll2 := [(2, .int q5), (0, .ref (ad 0)), (1, .int a1)]) rfl ?_
  refine sw_iload_n (pc := 9) C 0 dX9_at_9 rfl rfl ?_
  refine sw_iconst (pc := 10) C (v := (-1 : Int32)) dX9_at_10 (by decide) ?_
  refine sw_icmp_ne (pc := 11) (tgt := 19) C dX9_at_11 (by decide) (fun hb11 => ?_) (fun hb11 => ?_)
  · replace hJ := iten hb11 hJ
    refine sw_iload_n (pc := 19) C 0 dX9_at_19 rfl rfl ?_
    obtain rfl := Option.some.inj hJ
    exact sw_iret (pc := 20) C dX9_at_20
  · replace hJ := itep hb11 hJ
    refine sw_bipush (pc := 14) C (v := (-101 : Int32)) dX9_at_14 (by decide) ?_
    refine sw_goto (pc := 16) (tgt := 20) C dX9_at_16 (by decide) ?_
    obtain rfl := Option.some.inj hJ
    exact sw_iret (pc := 20) C dX9_at_20
set_option maxHeartbeats 4000000 in
set_option maxRecDepth 100000 in
theorem k_T_at {l : Launch} {D : va_G} {cy : Nat → ClassId} {ad : Nat → Nat} {A : Nat → Prop} (hD : ∀ X, va_D A (wC cy ad X)) {X : St} {a1 : Int32} {r : Int32} (hJ : jT_at X a1 = some r) : Met l yX9_at (wsY yX9_at cX9_at 3 (some .int)) ({ frames := 2, cells := 0, slots := 0, locals := 43 } : Room) (prX D cy (wC cy ad) X [.ref (ad 0), .int a1]) (poI D (wC cy ad) A r X) 0 0 A := sw_met (by decide +kernel) (Nat.le_of_ble_eq_true rfl) hD (fun p e s m args below meth c C => t_T_at C _ hJ)
set_option maxHeartbeats 4000000 in
set_option maxRecDepth 100000 in
theorem t_T_bill {p : Program} {l : Launch} {e : Env} {s : State} {m : MethodId} {args : Array Value} {below : List Frame} {meth : Method} {c : Code} {D : va_G} {cy : Nat → ClassId} {ad : Nat → Nat} {A : Nat → Prop} (C : Cx p s m args meth c D cy cX9_bill 1 RX9 (some .int) A (wC cy ad)) {X : St} {r : Int32} : jT_bill X = some r → SW p l e ({ frames := 3, cells := 0, slots := 0, locals := 68 } : Room) s m args below meth c D 1 A (wC cy ad) (MQ below (poI D (wC cy ad) A r X) args s 0 0 A) X [(0, .ref (ad 0))] 0 [] := by
  intro  hJ
  unfold jT_bill at hJ
  refine sw_aload_n (pc := 0) C 0 dX9_bill_0 rfl rfl ?_
  refine gC_0_3 (pc := 1) C wd_2_4 dX9_bill_1 ?_
  refine sw_aload_n (pc := 4) C 0 dX9_bill_4 rfl rfl ?_
  refine gC_0_6 (pc := 5) C wd_15_16 dX9_bill_5 ?_
  obtain ⟨q8, hq8, hJ⟩ := bind_some hJ
  refine sw_callV_i (pc := 8) C (st := []) (As := [.int (sF X 6)]) (k_Ch_billOf C.2.2.2.2.2.2.1 hq8) pk_X1_billOf wd_22_6 5 rfl rfl rfl ⟨Nat.le_of_ble_eq_true rfl, Nat.le_of_ble_eq_true rfl⟩ ⟨rfl, rfl⟩ rfl rfl (Nat.le_of_ble_eq_true rfl) dX9_bill_8 ?_
  obtain rfl := Option.some.inj hJ
  exact sw_iret (pc := 11) C dX9_bill_11
set_option maxHeartbeats 4000000 in
set_option maxRecDepth 100000 in
theorem k_T_bill {l : Launch} {D : va_G} {cy : Nat → ClassId} {ad : Nat → Nat} {A : Nat → Prop} (hD : ∀ X, va_D A (wC cy ad X)) {X : St}  {r : Int32} (hJ : jT_bill X = some r) : Met l yX9_bill (wsY yX9_bill cX9_bill 1 (some .int)) ({ frames := 3, cells := 0, slots := 0, locals := 68 } : Room) (prX D cy (wC cy ad) X [.ref (ad 0)]) (poI D (wC cy ad) A r X) 0 0 A := sw_met (by decide +kernel) (Nat.le_of_ble_eq_true rfl) hD (fun p e s m args below meth c C => t_T_bill C hJ)
set_option maxHeartbeats 4000000 in
set_option maxRecDepth 100000 in
theorem t_T_debateRow_40 {p : Program} {l : Launch} {e : Env} {s : State} {m : MethodId} {args : Array Value} {below : List Frame} {meth : Method} {c : Code} {D : va_G} {cy : Nat → ClassId} {ad : Nat → Nat} {A : Nat → Prop} (C : Cx p s m args meth c D cy cX9_debateRow 2 RX9 (some .int) A (wC cy ad)) {r : Int32 × St} : ∀ (X : St) (s0 : Int32), jT_debateRow_40 X s0 = some r → SW p l e ({ frames := 4, cells := 0, slots := 0, locals := 87 } : Room) s m args below meth c D 2 A (wC cy ad) (MQ below (poI D (wC cy ad) A r.1 r.2) args s 0 0 A) X [(0, .ref (ad 0))] 40 [.int s0] := by
  intro X s0 hJ
  unfold jT_debateRow_40 at hJ
  refine sw_istore_n (pc := 40) C dX9_debateRow_40 rfl (by decide) (ll2 := [(1, .int s0), (0, .ref (ad 0))]) rfl ?_
  refine sw_iload_n (pc := 41) C 0 dX9_debateRow_41 rfl rfl ?_
  refine sw_if_eq (pc := 42) (tgt := 55) C dX9_debateRow_42 (by decide) (fun hb42 => ?_) (fun hb42 => ?_)
  · replace hJ := itep hb42 hJ
    refine sw_iconst (pc := 55) C (v := (0 : Int32)) dX9_debateRow_55 (by decide) ?_
    obtain rfl := Option.some.inj hJ
    exact sw_iret (pc := 56) C dX9_debateRow_56
  · replace hJ := iten hb42 hJ
    refine sw_aload_n (pc := 45) C 1 dX9_debateRow_45 rfl rfl ?_
    refine gC_0_2 (pc := 46) C wd_2_0 dX9_debateRow_46 ?_
    obtain ⟨q49, hq49, hJ⟩ := bind_some hJ
    refine sw_callV_i (pc := 49) C (st := []) (As := []) (k_Dt_row C.2.2.2.2.2.2.1 hq49) pk_X2_row wd_23_20 4 rfl rfl rfl ⟨Nat.le_of_ble_eq_true rfl, Nat.le_of_ble_eq_true rfl⟩ ⟨rfl, rfl⟩ rfl rfl (Nat.le_of_ble_eq_true rfl) dX9_debateRow_49 ?_
    refine sw_goto (pc := 52) (tgt := 56) C dX9_debateRow_52 (by decide) ?_
    obtain rfl := Option.some.inj hJ
    exact sw_iret (pc := 56) C dX9_debateRow_56
set_option maxHeartbeats 4000000 in
set_option maxRecDepth 100000 in
theorem t_T_debateRow {p : Program} {l : Launch} {e : Env} {s : State} {m : MethodId} {args : Array Value} {below : List Frame} {meth : Method} {c : Code} {D : va_G} {cy : Nat → ClassId} {ad : Nat → Nat} {A : Nat → Prop} (C : Cx p s m args meth c D cy cX9_debateRow 2 RX9 (some .int) A (wC cy ad)) {r : Int32 × St} : ∀ (X : St), jT_debateRow X = some r → SW p l e ({ frames := 4, cells := 0, slots := 0, locals := 87 } : Room) s m args below meth c D 2 A (wC cy ad) (MQ below (poI D (wC cy ad) A r.1 r.2) args s 0 0 A) X [(0, .ref (ad 0))] 0 [] := by
  intro X hJ
  unfold jT_debateRow at hJ
  refine sw_aload_n (pc := 0) C 0 dX9_debateRow_0 rfl rfl ?_
  refine gC_0_0 (pc := 1) C wd_1_16 dX9_debateRow_1 ?_
  refine sw_aload_n (pc := 4) C 0 dX9_debateRow_4 rfl rfl ?_
  refine gC_0_2 (pc := 5) C wd_2_0 dX9_debateRow_5 ?_
  obtain ⟨q8, hq8, hJ⟩ := bind_some hJ
  refine sw_callV_i (pc := 8) C (st := []) (As := [.ref (ad 4)]) (k_Pg_isWhole_d C.2.2.2.2.2.2.1 hq8) pk_X5_isWhole wd_10_16 1 rfl rfl rfl ⟨Nat.le_of_ble_eq_true rfl, Nat.le_of_ble_eq_true rfl⟩ ⟨rfl, rfl⟩ rfl rfl (Nat.le_of_ble_eq_true rfl) dX9_debateRow_8 ?_
  refine sw_if_ne (pc := 11) (tgt := 16) C dX9_debateRow_11 (by decide) (fun hb11 => ?_) (fun hb11 => ?_)
  · replace hJ := iten hb11 hJ
    refine sw_aload_n (pc := 16) C 0 dX9_debateRow_16 rfl rfl ?_
    refine gC_0_2 (pc := 17) C wd_2_0 dX9_debateRow_17 ?_
    obtain ⟨q20, hq20, hJ⟩ := bind_some hJ
    refine sw_callV_i (pc := 20) C (st := []) (As := []) (k_Dt_said C.2.2.2.2.2.2.1 hq20) pk_X2_said wd_23_16 4 rfl rfl rfl ⟨Nat.le_of_ble_eq_true rfl, Nat.le_of_ble_eq_true rfl⟩ ⟨rfl, rfl⟩ rfl rfl (Nat.le_of_ble_eq_true rfl) dX9_debateRow_20 ?_
    refine sw_iconst (pc := 23) C (v := (1 : Int32)) dX9_debateRow_23 (by decide) ?_
    refine sw_aload_n (pc := 24) C 0 dX9_debateRow_24 rfl rfl ?_
    refine gC_0_3 (pc := 25) C wd_2_4 dX9_debateRow_25 ?_
    obtain ⟨q28, hq28, hJ⟩ := bind_some hJ
    refine sw_callV_i (pc := 28) C (st := [.int (1 : Int32), .int q20]) (As := []) (k_Ch_size C.2.2.2.2.2.2.1 hq28) pk_X1_size wd_13_1 5 rfl rfl rfl ⟨Nat.le_of_ble_eq_true rfl, Nat.le_of_ble_eq_true rfl⟩ ⟨rfl, rfl⟩ rfl rfl (Nat.le_of_ble_eq_true rfl) dX9_debateRow_28 ?_
    refine sw_ishl (pc := 31) C dX9_debateRow_31 ?_
    refine sw_icmp_ge (pc := 32) (tgt := 39) C dX9_debateRow_32 (by decide) (fun hb32 => ?_) (fun hb32 => ?_)
    · replace hJ := itep hb32 hJ
      refine sw_iconst (pc := 39) C (v := (0 : Int32)) dX9_debateRow_39 (by decide) ?_
      exact sw_sub [0] (by rfl) (t_T_debateRow_40 C _ _ hJ)
    · replace hJ := iten hb32 hJ
      refine sw_iconst (pc := 35) C (v := (1 : Int32)) dX9_debateRow_35 (by decide) ?_
      refine sw_goto (pc := 36) (tgt := 40) C dX9_debateRow_36 (by decide) ?_
      exact sw_sub [0] (by rfl) (t_T_debateRow_40 C _ _ hJ)
  · replace hJ := itep hb11 hJ
    refine sw_iconst (pc := 14) C (v := (0 : Int32)) dX9_debateRow_14 (by decide) ?_
    obtain rfl := Option.some.inj hJ
    exact sw_iret (pc := 15) C dX9_debateRow_15
set_option maxHeartbeats 4000000 in
set_option maxRecDepth 100000 in
theorem k_T_debateRow {l : Launch} {D : va_G} {cy : Nat → ClassId} {ad : Nat → Nat} {A : Nat → Prop} (hD : ∀ X, va_D A (wC cy ad X)) {X : St}  {r : Int32 × St} (hJ : jT_debateRow X = some r) : Met l yX9_debateRow (wsY yX9_debateRow cX9_debateRow 2 (some .int)) ({ frames := 4, cells := 0, slots := 0, locals := 87 } : Room) (prX D cy (wC cy ad) X [.ref (ad 0)]) (poI D (wC cy ad) A r.1 r.2) 0 0 A := sw_met (by decide +kernel) (Nat.le_of_ble_eq_true rfl) hD (fun p e s m args below meth c C => t_T_debateRow C _ hJ)
set_option maxHeartbeats 4000000 in
set_option maxRecDepth 100000 in
theorem t_T_debate_85 {p : Program} {l : Launch} {e : Env} {s : State} {m : MethodId} {args : Array Value} {below : List Frame} {meth : Method} {c : Code} {D : va_G} {cy : Nat → ClassId} {ad : Nat → Nat} {A : Nat → Prop} (C : Cx p s m args meth c D cy cX9_debate 6 RX9 (some .int) A (wC cy ad)) {k29 : St → Int32 → Int32 → Int32 → Int32 → Option (Int32 × St)} {r : Int32 × St} (h29 : ∀ (X : St) (v1 : Int32) (v2 : Int32) (v3 : Int32) (v4 : Int32), k29 X v1 v2 v3 v4 = some r → SW p l e ({ frames := 5, cells := 0, slots := 0, locals := 108 } : Room) s m args below meth c D 6 A (wC cy ad) (MQ below (poI D (wC cy ad) A r.1 r.2) args s 0 0 A) X [(0, .ref (ad 0)), (1, .int v1), (2, .int v2), (3, .int v3), (4, .int v4)] 29 []) : ∀ (X : St) (v1 : Int32) (v2 : Int32) (v3 : Int32) (v4 : Int32), jT_debate_85 k29 X v1 v2 v3 v4 = some r → SW p l e ({ frames := 5, cells := 0, slots := 0, locals := 108 } : Room) s m args below meth c D 6 A (wC cy ad) (MQ below (poI D (wC cy ad) A r.1 r.2) args s 0 0 A) X [(0, .ref (ad 0)), (1, .int v1), (2, .int v2), (3, .int v3), (4, .int v4)] 85 [] := by
  intro X v1 v2 v3 v4 hJ
  unfold jT_debate_85 at hJ
  refine sw_iinc (pc := 85) C 4 dX9_debate_85 rfl (v := (v4 + (1 : Int32))) (congrArg (fun z => v4 + z) (by decide)) (by decide) (ll2 := [(4, .int (v4 + (1 : Int32))), (0, .ref (ad 0)), (1, .int v1), (2, .int v2), (3, .int v3)]) rfl ?_
  refine sw_goto (pc := 88) (tgt := 29) C dX9_debate_88 (by decide) ?_
  exact sw_sub [1, 2, 3, 4, 0] (by rfl) (h29 _ _ _ _ _ hJ)
set_option maxHeartbeats 4000000 in
set_option maxRecDepth 100000 in
theorem t_T_debate_29 {p : Program} {l : Launch} {e : Env} {s : State} {m : MethodId} {args : Array Value} {below : List Frame} {meth : Method} {c : Code} {D : va_G} {cy : Nat → ClassId} {ad : Nat → Nat} {A : Nat → Prop} (C : Cx p s m args meth c D cy cX9_debate 6 RX9 (some .int) A (wC cy ad)) {r : Int32 × St} : ∀ (n : Nat) (X : St) (v1 : Int32) (v2 : Int32) (v3 : Int32) (v4 : Int32), jT_debate_29 n X v1 v2 v3 v4 = some r → SW p l e ({ frames := 5, cells := 0, slots := 0, locals := 108 } : Room) s m args below meth c D 6 A (wC cy ad) (MQ below (poI D (wC cy ad) A r.1 r.2) args s 0 0 A) X [(0, .ref (ad 0)), (1, .int v1), (2, .int v2), (3, .int v3), (4, .int v4)] 29 [] := by
  intro n
  induction n with
  | zero => intro X v1 v2 v3 v4 hJ; exact absurd (show (none : Option (Int32 × St)) = some r from hJ) (fun h => by cases h)
  | succ n ih =>
    intro X v1 v2 v3 v4 hJ
    rw [jT_debate_29] at hJ
    refine sw_iload (pc := 29) C 4 dX9_debate_29 rfl ?_
    refine sw_iload_n (pc := 31) C 2 dX9_debate_31 rfl rfl ?_
    obtain ⟨q32, hq32, hJ⟩ := bind_some hJ
    refine sw_callS_i (pc := 32) C (st := [.int v4]) (As := [.int v2]) (k_Ro_size C.2.2.2.2.2.2.1 hq32) pk_X6_size wd_20_13 ⟨Nat.le_of_ble_eq_true rfl, Nat.le_of_ble_eq_true rfl⟩ ⟨rfl, rfl⟩ rfl rfl (Nat.le_of_ble_eq_true rfl) dX9_debate_32 ?_
    refine sw_icmp_gt (pc := 35) (tgt := 91) C dX9_debate_35 (by decide) (fun hb35 => ?_) (fun hb35 => ?_)
    · replace hJ := itep hb35 hJ
      refine sw_iload_n (pc := 91) C 1 dX9_debate_91 rfl rfl ?_
      refine sw_if_ne (pc := 92) (tgt := 99) C dX9_debate_92 (by decide) (fun hb92 => ?_) (fun hb92 => ?_)
      · replace hJ := iten hb92 hJ
        refine sw_aload_n (pc := 99) C 0 dX9_debate_99 rfl rfl ?_
        refine gC_0_3 (pc := 100) C wd_2_4 dX9_debate_100 ?_
        refine sw_iload_n (pc := 103) C 3 dX9_debate_103 rfl rfl ?_
        obtain ⟨q104, hq104, hJ⟩ := bind_some hJ
        refine sw_callV_i (pc := 104) C (st := []) (As := [.int v3]) (k_Ch_billOf C.2.2.2.2.2.2.1 hq104) pk_X1_billOf wd_22_6 5 rfl rfl rfl ⟨Nat.le_of_ble_eq_true rfl, Nat.le_of_ble_eq_true rfl⟩ ⟨rfl, rfl⟩ rfl rfl (Nat.le_of_ble_eq_true rfl) dX9_debate_104 ?_
        obtain rfl := Option.some.inj hJ
        exact sw_iret (pc := 107) C dX9_debate_107
      · replace hJ := itep hb92 hJ
        refine sw_iconst (pc := 95) C (v := (0 : Int32)) dX9_debate_95 (by decide) ?_
        refine sw_goto (pc := 96) (tgt := 107) C dX9_debate_96 (by decide) ?_
        obtain rfl := Option.some.inj hJ
        exact sw_iret (pc := 107) C dX9_debate_107
    · replace hJ := iten hb35 hJ
      refine sw_iload_n (pc := 38) C 2 dX9_debate_38 rfl rfl ?_
      refine sw_iload (pc := 39) C 4 dX9_debate_39 rfl ?_
      obtain ⟨q41, hq41, hJ⟩ := bind_some hJ
      refine sw_callS_i (pc := 41) C (st := []) (As := [.int v2, .int v4]) (k_Ro_memberAt C.2.2.2.2.2.2.1 hq41) pk_X6_memberAt wd_21_19 ⟨Nat.le_of_ble_eq_true rfl, Nat.le_of_ble_eq_true rfl⟩ ⟨rfl, rfl⟩ rfl rfl (Nat.le_of_ble_eq_true rfl) dX9_debate_41 ?_
      refine sw_istore (pc := 44) C dX9_debate_44 (by decide) (ll2 := [(5, .int q41), (0, .ref (ad 0)), (1, .int v1), (2, .int v2), (3, .int v3), (4, .int v4)]) rfl ?_
      refine sw_aload_n (pc := 46) C 1 dX9_debate_46 rfl rfl ?_
      refine gC_0_3 (pc := 47) C wd_2_4 dX9_debate_47 ?_
      refine sw_iload_n (pc := 50) C 4 dX9_debate_50 rfl rfl ?_
      refine sw_iload (pc := 51) C 0 dX9_debate_51 rfl ?_
      obtain ⟨q53, hq53, hJ⟩ := bind_some hJ
      refine sw_callV_i (pc := 53) C (st := []) (As := [.int v3, .int q41]) (k_Ch_canRise C.2.2.2.2.2.2.1 hq53) pk_X1_canRise wd_18_18 5 rfl rfl rfl ⟨Nat.le_of_ble_eq_true rfl, Nat.le_of_ble_eq_true rfl⟩ ⟨rfl, rfl⟩ rfl rfl (Nat.le_of_ble_eq_true rfl) dX9_debate_53 ?_
      refine sw_if_eq (pc := 56) (tgt := 85) C dX9_debate_56 (by decide) (fun hb56 => ?_) (fun hb56 => ?_)
      · replace hJ := itep hb56 hJ
        exact sw_sub [1, 2, 3, 4, 5] (by rfl) (t_T_debate_85 C ih _ _ _ _ _ hJ)
      · replace hJ := iten hb56 hJ
        refine sw_aload_n (pc := 59) C 1 dX9_debate_59 rfl rfl ?_
        refine gC_0_3 (pc := 60) C wd_2_4 dX9_debate_60 ?_
        refine sw_iload_n (pc := 63) C 4 dX9_debate_63 rfl rfl ?_
        refine sw_iload (pc := 64) C 0 dX9_debate_64 rfl ?_
        obtain ⟨q66, hq66, hJ⟩ := bind_some hJ
        refine sw_callV_i (pc := 66) C (st := []) (As := [.int v3, .int q41]) (k_Ch_risen C.2.2.2.2.2.2.1 hq66) pk_X1_risen wd_19_19 5 rfl rfl rfl ⟨Nat.le_of_ble_eq_true rfl, Nat.le_of_ble_eq_true rfl⟩ ⟨rfl, rfl⟩ rfl rfl (Nat.le_of_ble_eq_true rfl) dX9_debate_66 ?_
        refine sw_istore_n (pc := 69) C dX9_debate_69 rfl (by decide) (ll2 := [(3, .int q66), (5, .int q41), (0, .ref (ad 0)), (1, .int v1), (2, .int v2), (4, .int v4)]) rfl ?_
        refine sw_iload_n (pc := 70) C 0 dX9_debate_70 rfl rfl ?_
        refine sw_if_ne (pc := 71) (tgt := 85) C dX9_debate_71 (by decide) (fun hb71 => ?_) (fun hb71 => ?_)
        · replace hJ := iten hb71 hJ
          exact sw_sub [2, 3, 4, 0, 5] (by rfl) (t_T_debate_85 C ih _ _ _ _ _ hJ)
        · replace hJ := itep hb71 hJ
          refine sw_iload_n (pc := 74) C 3 dX9_debate_74 rfl rfl ?_
          refine sw_if_ne (pc := 75) (tgt := 83) C dX9_debate_75 (by decide) (fun hb75 => ?_) (fun hb75 => ?_)
          · replace hJ := iten hb75 hJ
            refine sw_iconst (pc := 83) C (v := (0 : Int32)) dX9_debate_83 (by decide) ?_
            obtain rfl := Option.some.inj hJ
            exact sw_iret (pc := 84) C dX9_debate_84
          · replace hJ := itep hb75 hJ
            refine sw_iload (pc := 78) C 5 dX9_debate_78 rfl ?_
            refine sw_goto (pc := 80) (tgt := 84) C dX9_debate_80 (by decide) ?_
            obtain rfl := Option.some.inj hJ
            exact sw_iret (pc := 84) C dX9_debate_84
set_option maxHeartbeats 4000000 in
set_option maxRecDepth 100000 in
theorem t_T_debate {p : Program} {l : Launch} {e : Env} {s : State} {m : MethodId} {args : Array Value} {below : List Frame} {meth : Method} {c : Code} {D : va_G} {cy : Nat → ClassId} {ad : Nat → Nat} {A : Nat → Prop} (C : Cx p s m args meth c D cy cX9_debate 6 RX9 (some .int) A (wC cy ad)) {r : Int32 × St} : ∀ (X : St) (a1 : Int32), jT_debate X a1 = some r → SW p l e ({ frames := 5, cells := 0, slots := 0, locals := 108 } : Room) s m args below meth c D 6 A (wC cy ad) (MQ below (poI D (wC cy ad) A r.1 r.2) args s 0 0 A) X [(0, .ref (ad 0)), (1, .int a1)] 0 [] := by
  intro X a1 hJ
  unfold jT_debate at hJ
  refine sw_iload_n (pc := 0) C 1 dX9_debate_0 rfl rfl ?_
  refine sw_iconst (pc := 1) C (v := (0 : Int32)) dX9_debate_1 (by decide) ?_
  refine sw_iconst (pc := 2) C (v := (1 : Int32)) dX9_debate_2 (by decide) ?_
  obtain ⟨q3, hq3, hJ⟩ := bind_some hJ
  refine sw_callS_i (pc := 3) C (st := []) (As := [.int a1, .int (0 : Int32), .int (1 : Int32)]) (k_T_isBetween C.2.2.2.2.2.2.1 hq3) pk_X9_isBetween wd_12_12 ⟨Nat.le_of_ble_eq_true rfl, Nat.le_of_ble_eq_true rfl⟩ ⟨rfl, rfl⟩ rfl rfl (Nat.le_of_ble_eq_true rfl) dX9_debate_3 ?_
  refine sw_if_ne (pc := 6) (tgt := 12) C dX9_debate_6 (by decide) (fun hb6 => ?_) (fun hb6 => ?_)
  · replace hJ := iten hb6 hJ
    refine sw_aload_n (pc := 12) C 0 dX9_debate_12 rfl rfl ?_
    obtain ⟨q13, hq13, hJ⟩ := bind_some hJ
    refine sw_callV_i (pc := 13) C (st := []) (As := []) (k_T_debateRow C.2.2.2.2.2.2.1 hq13) pk_X9_debateRow wd_23_12 0 rfl rfl rfl ⟨Nat.le_of_ble_eq_true rfl, Nat.le_of_ble_eq_true rfl⟩ ⟨rfl, rfl⟩ rfl rfl (Nat.le_of_ble_eq_true rfl) dX9_debate_13 ?_
    refine sw_istore_n (pc := 16) C dX9_debate_16 rfl (by decide) (ll2 := [(2, .int q13.1), (0, .ref (ad 0)), (1, .int a1)]) rfl ?_
    refine sw_iload_n (pc := 17) C 0 dX9_debate_17 rfl rfl ?_
    refine sw_if_ne (pc := 18) (tgt := 24) C dX9_debate_18 (by decide) (fun hb18 => ?_) (fun hb18 => ?_)
    · replace hJ := iten hb18 hJ
      refine sw_iconst (pc := 24) C (v := (0 : Int32)) dX9_debate_24 (by decide) ?_
      refine sw_istore_n (pc := 25) C dX9_debate_25 rfl (by decide) (ll2 := [(3, .int (0 : Int32)), (2, .int q13.1), (0, .ref (ad 0)), (1, .int a1)]) rfl ?_
      refine sw_iconst (pc := 26) C (v := (1 : Int32)) dX9_debate_26 (by decide) ?_
      refine sw_istore (pc := 27) C dX9_debate_27 (by decide) (ll2 := [(4, .int (1 : Int32)), (3, .int (0 : Int32)), (2, .int q13.1), (0, .ref (ad 0)), (1, .int a1)]) rfl ?_
      exact sw_sub [3, 4, 2, 1, 0] (by rfl) (t_T_debate_29 C _ _ _ _ _ _ hJ)
    · replace hJ := itep hb18 hJ
      refine sw_bipush (pc := 21) C (v := (-103 : Int32)) dX9_debate_21 (by decide) ?_
      obtain rfl := Option.some.inj hJ
      exact sw_iret (pc := 23) C dX9_debate_23
  · replace hJ := itep hb6 hJ
    refine sw_bipush (pc := 9) C (v := (-102 : Int32)) dX9_debate_9 (by decide) ?_
    obtain rfl := Option.some.inj hJ
    exact sw_iret (pc := 11) C dX9_debate_11
set_option maxHeartbeats 4000000 in
set_option maxRecDepth 100000 in
theorem k_T_debate {l : Launch} {D : va_G} {cy : Nat → ClassId} {ad : Nat → Nat} {A : Nat → Prop} (hD : ∀ X, va_D A (wC cy ad X)) {X : St} {a1 : Int32} {r : Int32 × St} (hJ : jT_debate X a1 = some r) : Met l yX9_debate (wsY yX9_debate cX9_debate 6 (some .int)) ({ frames := 5, cells := 0, slots := 0, locals := 108 } : Room) (prX D cy (wC cy ad) X [.ref (ad 0), .int a1]) (poI D (wC cy ad) A r.1 r.2) 0 0 A := sw_met (by decide +kernel) (Nat.le_of_ble_eq_true rfl) hD (fun p e s m args below meth c C => t_T_debate C _ _ hJ)
set_option maxHeartbeats 4000000 in
set_option maxRecDepth 100000 in
theorem t_T_nails {p : Program} {l : Launch} {e : Env} {s : State} {m : MethodId} {args : Array Value} {below : List Frame} {meth : Method} {c : Code} {D : va_G} {cy : Nat → ClassId} {ad : Nat → Nat} {A : Nat → Prop} (C : Cx p s m args meth c D cy cX9_nails 2 RX9 (some .int) A (wC cy ad)) {r : Int32 × St} : ∀ (X : St), jT_nails X = some r → SW p l e ({ frames := 5, cells := 0, slots := 0, locals := 108 } : Room) s m args below meth c D 2 A (wC cy ad) (MQ below (poI D (wC cy ad) A r.1 r.2) args s 0 0 A) X [(0, .ref (ad 0))] 0 [] := by
  intro X hJ
  unfold jT_nails at hJ
  refine sw_aload_n (pc := 0) C 0 dX9_nails_0 rfl rfl ?_
  obtain ⟨q1, hq1, hJ⟩ := bind_some hJ
  refine sw_callV_i (pc := 1) C (st := []) (As := []) (k_T_debateRow C.2.2.2.2.2.2.1 hq1) pk_X9_debateRow wd_23_12 0 rfl rfl rfl ⟨Nat.le_of_ble_eq_true rfl, Nat.le_of_ble_eq_true rfl⟩ ⟨rfl, rfl⟩ rfl rfl (Nat.le_of_ble_eq_true rfl) dX9_nails_1 ?_
  refine sw_istore_n (pc := 4) C dX9_nails_4 rfl (by decide) (ll2 := [(1, .int q1.1), (0, .ref (ad 0))]) rfl ?_
  refine sw_iload_n (pc := 5) C 0 dX9_nails_5 rfl rfl ?_
  refine sw_if_ne (pc := 6) (tgt := 12) C dX9_nails_6 (by decide) (fun hb6 => ?_) (fun hb6 => ?_)
  · replace hJ := iten hb6 hJ
    refine sw_aload_n (pc := 12) C 1 dX9_nails_12 rfl rfl ?_
    refine gC_0_3 (pc := 13) C wd_2_4 dX9_nails_13 ?_
    refine sw_iload_n (pc := 16) C 0 dX9_nails_16 rfl rfl ?_
    obtain ⟨q17, hq17, hJ⟩ := bind_some hJ
    refine sw_callV_i (pc := 17) C (st := []) (As := [.int q1.1]) (k_Ch_leansTooMuch C.2.2.2.2.2.2.1 hq17) pk_X1_leansTooMuch wd_24_17 5 rfl rfl rfl ⟨Nat.le_of_ble_eq_true rfl, Nat.le_of_ble_eq_true rfl⟩ ⟨rfl, rfl⟩ rfl rfl (Nat.le_of_ble_eq_true rfl) dX9_nails_17 ?_
    refine sw_if_eq (pc := 20) (tgt := 27) C dX9_nails_20 (by decide) (fun hb20 => ?_) (fun hb20 => ?_)
    · replace hJ := itep hb20 hJ
      refine sw_aload_n (pc := 27) C 1 dX9_nails_27 rfl rfl ?_
      refine gC_0_3 (pc := 28) C wd_2_4 dX9_nails_28 ?_
      refine sw_iload_n (pc := 31) C 0 dX9_nails_31 rfl rfl ?_
      obtain ⟨q32, hq32, hJ⟩ := bind_some hJ
      refine sw_callV_i (pc := 32) C (st := []) (As := [.int q1.1]) (k_Ch_nailsFor C.2.2.2.2.2.2.1 hq32) pk_X1_nailsFor wd_24_21 5 rfl rfl rfl ⟨Nat.le_of_ble_eq_true rfl, Nat.le_of_ble_eq_true rfl⟩ ⟨rfl, rfl⟩ rfl rfl (Nat.le_of_ble_eq_true rfl) dX9_nails_32 ?_
      obtain rfl := Option.some.inj hJ
      exact sw_iret (pc := 35) C dX9_nails_35
    · replace hJ := iten hb20 hJ
      refine sw_iconst (pc := 23) C (v := (-1 : Int32)) dX9_nails_23 (by decide) ?_
      refine sw_goto (pc := 24) (tgt := 35) C dX9_nails_24 (by decide) ?_
      obtain rfl := Option.some.inj hJ
      exact sw_iret (pc := 35) C dX9_nails_35
  · replace hJ := itep hb6 hJ
    refine sw_bipush (pc := 9) C (v := (-103 : Int32)) dX9_nails_9 (by decide) ?_
    obtain rfl := Option.some.inj hJ
    exact sw_iret (pc := 11) C dX9_nails_11
set_option maxHeartbeats 4000000 in
set_option maxRecDepth 100000 in
theorem k_T_nails {l : Launch} {D : va_G} {cy : Nat → ClassId} {ad : Nat → Nat} {A : Nat → Prop} (hD : ∀ X, va_D A (wC cy ad X)) {X : St}  {r : Int32 × St} (hJ : jT_nails X = some r) : Met l yX9_nails (wsY yX9_nails cX9_nails 2 (some .int)) ({ frames := 5, cells := 0, slots := 0, locals := 108 } : Room) (prX D cy (wC cy ad) X [.ref (ad 0)]) (poI D (wC cy ad) A r.1 r.2) 0 0 A := sw_met (by decide +kernel) (Nat.le_of_ble_eq_true rfl) hD (fun p e s m args below meth c C => t_T_nails C _ hJ)
set_option maxHeartbeats 4000000 in
set_option maxRecDepth 100000 in
theorem t_T_shook_67 {p : Program} {l : Launch} {e : Env} {s : State} {m : MethodId} {args : Array Value} {below : List Frame} {meth : Method} {c : Code} {D : va_G} {cy : Nat → ClassId} {ad : Nat → Nat} {A : Nat → Prop} (C : Cx p s m args meth c D cy cX9_shook 4 RX9 (some .int) A (wC cy ad)) {k27 : St → Int32 → Int32 → Int32 → Option (Int32 × St)} {r : Int32 × St} (h27 : ∀ (X : St) (v1 : Int32) (v2 : Int32) (v3 : Int32), k27 X v1 v2 v3 = some r → SW p l e ({ frames := 5, cells := 0, slots := 0, locals := 108 } : Room) s m args below meth c D 4 A (wC cy ad) (MQ below (poI D (wC cy ad) A r.1 r.2) args s 0 0 A) X [(0, .ref (ad 0)), (1, .int v1), (2, .int v2), (3, .int v3)] 27 []) : ∀ (X : St) (v1 : Int32) (v2 : Int32) (v3 : Int32), jT_shook_67 k27 X v1 v2 v3 = some r → SW p l e ({ frames := 5, cells := 0, slots := 0, locals := 108 } : Room) s m args below meth c D 4 A (wC cy ad) (MQ below (poI D (wC cy ad) A r.1 r.2) args s 0 0 A) X [(0, .ref (ad 0)), (1, .int v1), (2, .int v2), (3, .int v3)] 67 [] := by
  intro X v1 v2 v3 hJ
  unfold jT_shook_67 at hJ
  refine sw_iinc (pc := 67) C 3 dX9_shook_67 rfl (v := (v3 + (1 : Int32))) (congrArg (fun z => v3 + z) (by decide)) (by decide) (ll2 := [(3, .int (v3 + (1 : Int32))), (0, .ref (ad 0)), (1, .int v1), (2, .int v2)]) rfl ?_
  refine sw_goto (pc := 70) (tgt := 27) C dX9_shook_70 (by decide) ?_
  exact sw_sub [1, 2, 3, 0] (by rfl) (h27 _ _ _ _ hJ)
set_option maxHeartbeats 4000000 in
set_option maxRecDepth 100000 in
theorem t_T_shook_27 {p : Program} {l : Launch} {e : Env} {s : State} {m : MethodId} {args : Array Value} {below : List Frame} {meth : Method} {c : Code} {D : va_G} {cy : Nat → ClassId} {ad : Nat → Nat} {A : Nat → Prop} (C : Cx p s m args meth c D cy cX9_shook 4 RX9 (some .int) A (wC cy ad)) {r : Int32 × St} : ∀ (n : Nat) (X : St) (v1 : Int32) (v2 : Int32) (v3 : Int32), jT_shook_27 n X v1 v2 v3 = some r → SW p l e ({ frames := 5, cells := 0, slots := 0, locals := 108 } : Room) s m args below meth c D 4 A (wC cy ad) (MQ below (poI D (wC cy ad) A r.1 r.2) args s 0 0 A) X [(0, .ref (ad 0)), (1, .int v1), (2, .int v2), (3, .int v3)] 27 [] := by
  intro n
  induction n with
  | zero => intro X v1 v2 v3 hJ; exact absurd (show (none : Option (Int32 × St)) = some r from hJ) (fun h => by cases h)
  | succ n ih =>
    intro X v1 v2 v3 hJ
    rw [jT_shook_27] at hJ
    refine sw_iload_n (pc := 27) C 3 dX9_shook_27 rfl rfl ?_
    refine sw_aload_n (pc := 28) C 0 dX9_shook_28 rfl rfl ?_
    refine gC_0_3 (pc := 29) C wd_2_4 dX9_shook_29 ?_
    obtain ⟨q32, hq32, hJ⟩ := bind_some hJ
    refine sw_callV_i (pc := 32) C (st := [.int v3]) (As := []) (k_Ch_size C.2.2.2.2.2.2.1 hq32) pk_X1_size wd_13_1 5 rfl rfl rfl ⟨Nat.le_of_ble_eq_true rfl, Nat.le_of_ble_eq_true rfl⟩ ⟨rfl, rfl⟩ rfl rfl (Nat.le_of_ble_eq_true rfl) dX9_shook_32 ?_
    refine sw_icmp_ge (pc := 35) (tgt := 73) C dX9_shook_35 (by decide) (fun hb35 => ?_) (fun hb35 => ?_)
    · replace hJ := itep hb35 hJ
      refine sw_iload_n (pc := 73) C 2 dX9_shook_73 rfl rfl ?_
      obtain rfl := Option.some.inj hJ
      exact sw_iret (pc := 74) C dX9_shook_74
    · replace hJ := iten hb35 hJ
      refine sw_iload_n (pc := 38) C 1 dX9_shook_38 rfl rfl ?_
      refine sw_iload_n (pc := 39) C 3 dX9_shook_39 rfl rfl ?_
      obtain ⟨q40, hq40, hJ⟩ := bind_some hJ
      refine sw_callS_i (pc := 40) C (st := []) (As := [.int v1, .int v3]) (k_Ro_heightOf C.2.2.2.2.2.2.1 hq40) pk_X6_heightOf wd_15_17 ⟨Nat.le_of_ble_eq_true rfl, Nat.le_of_ble_eq_true rfl⟩ ⟨rfl, rfl⟩ rfl rfl (Nat.le_of_ble_eq_true rfl) dX9_shook_40 ?_
      refine sw_if_le (pc := 43) (tgt := 67) C dX9_shook_43 (by decide) (fun hb43 => ?_) (fun hb43 => ?_)
      · replace hJ := itep hb43 hJ
        exact sw_sub [0, 1, 2, 3] (by rfl) (t_T_shook_67 C ih _ _ _ _ hJ)
      · replace hJ := iten hb43 hJ
        refine sw_aload_n (pc := 46) C 0 dX9_shook_46 rfl rfl ?_
        refine gC_0_3 (pc := 47) C wd_2_4 dX9_shook_47 ?_
        refine sw_iload_n (pc := 50) C 1 dX9_shook_50 rfl rfl ?_
        refine sw_iload_n (pc := 51) C 3 dX9_shook_51 rfl rfl ?_
        obtain ⟨q52, hq52, hJ⟩ := bind_some hJ
        refine sw_callS_i (pc := 52) C (st := [.ref (ad 5)]) (As := [.int v1, .int v3]) (k_Ro_without C.2.2.2.2.2.2.1 hq52) pk_X6_without wd_25_10 ⟨Nat.le_of_ble_eq_true rfl, Nat.le_of_ble_eq_true rfl⟩ ⟨rfl, rfl⟩ rfl rfl (Nat.le_of_ble_eq_true rfl) dX9_shook_52 ?_
        obtain ⟨q55, hq55, hJ⟩ := bind_some hJ
        refine sw_callV_i (pc := 55) C (st := []) (As := [.int q52]) (k_Ch_holds C.2.2.2.2.2.2.1 hq55) pk_X1_holds wd_25_9 5 rfl rfl rfl ⟨Nat.le_of_ble_eq_true rfl, Nat.le_of_ble_eq_true rfl⟩ ⟨rfl, rfl⟩ rfl rfl (Nat.le_of_ble_eq_true rfl) dX9_shook_55 ?_
        refine sw_if_eq (pc := 58) (tgt := 67) C dX9_shook_58 (by decide) (fun hb58 => ?_) (fun hb58 => ?_)
        · replace hJ := itep hb58 hJ
          exact sw_sub [0, 1, 2, 3] (by rfl) (t_T_shook_67 C ih _ _ _ _ hJ)
        · replace hJ := iten hb58 hJ
          refine sw_iload_n (pc := 61) C 2 dX9_shook_61 rfl rfl ?_
          refine sw_iconst (pc := 62) C (v := (1 : Int32)) dX9_shook_62 (by decide) ?_
          refine sw_iload_n (pc := 63) C 3 dX9_shook_63 rfl rfl ?_
          refine sw_ishl (pc := 64) C dX9_shook_64 ?_
          refine sw_ior (pc := 65) C dX9_shook_65 ?_
          refine sw_istore_n (pc := 66) C dX9_shook_66 rfl (by decide) (ll2 := [(2, .int (v2 ||| ((1 : Int32) <<< (v3 &&& 31)))), (0, .ref (ad 0)), (1, .int v1), (3, .int v3)]) rfl ?_
          exact sw_sub [1, 2, 0, 3] (by rfl) (t_T_shook_67 C ih _ _ _ _ hJ)
set_option maxHeartbeats 4000000 in
set_option maxRecDepth 100000 in
theorem t_T_shook {p : Program} {l : Launch} {e : Env} {s : State} {m : MethodId} {args : Array Value} {below : List Frame} {meth : Method} {c : Code} {D : va_G} {cy : Nat → ClassId} {ad : Nat → Nat} {A : Nat → Prop} (C : Cx p s m args meth c D cy cX9_shook 4 RX9 (some .int) A (wC cy ad)) {r : Int32 × St} : ∀ (X : St), jT_shook X = some r → SW p l e ({ frames := 5, cells := 0, slots := 0, locals := 108 } : Room) s m args below meth c D 4 A (wC cy ad) (MQ below (poI D (wC cy ad) A r.1 r.2) args s 0 0 A) X [(0, .ref (ad 0))] 0 [] := by
  intro X hJ
  unfold jT_shook at hJ
  refine sw_aload_n (pc := 0) C 0 dX9_shook_0 rfl rfl ?_
  obtain ⟨q1, hq1, hJ⟩ := bind_some hJ
  refine sw_callV_i (pc := 1) C (st := []) (As := []) (k_T_debateRow C.2.2.2.2.2.2.1 hq1) pk_X9_debateRow wd_23_12 0 rfl rfl rfl ⟨Nat.le_of_ble_eq_true rfl, Nat.le_of_ble_eq_true rfl⟩ ⟨rfl, rfl⟩ rfl rfl (Nat.le_of_ble_eq_true rfl) dX9_shook_1 ?_
  refine sw_istore_n (pc := 4) C dX9_shook_4 rfl (by decide) (ll2 := [(1, .int q1.1), (0, .ref (ad 0))]) rfl ?_
  refine sw_iload_n (pc := 5) C 0 dX9_shook_5 rfl rfl ?_
  refine sw_if_ne (pc := 6) (tgt := 12) C dX9_shook_6 (by decide) (fun hb6 => ?_) (fun hb6 => ?_)
  · replace hJ := iten hb6 hJ
    refine sw_iconst (pc := 12) C (v := (0 : Int32)) dX9_shook_12 (by decide) ?_
    refine sw_istore_n (pc := 13) C dX9_shook_13 rfl (by decide) (ll2 := [(2, .int (0 : Int32)), (1, .int q1.1), (0, .ref (ad 0))]) rfl ?_
    refine sw_aload_n (pc := 14) C 2 dX9_shook_14 rfl rfl ?_
    refine gC_0_3 (pc := 15) C wd_2_4 dX9_shook_15 ?_
    refine sw_iload_n (pc := 18) C 1 dX9_shook_18 rfl rfl ?_
    obtain ⟨q19, hq19, hJ⟩ := bind_some hJ
    refine sw_callV_i (pc := 19) C (st := []) (As := [.int q1.1]) (k_Ch_holds C.2.2.2.2.2.2.1 hq19) pk_X1_holds wd_25_9 5 rfl rfl rfl ⟨Nat.le_of_ble_eq_true rfl, Nat.le_of_ble_eq_true rfl⟩ ⟨rfl, rfl⟩ rfl rfl (Nat.le_of_ble_eq_true rfl) dX9_shook_19 ?_
    refine sw_if_ne (pc := 22) (tgt := 73) C dX9_shook_22 (by decide) (fun hb22 => ?_) (fun hb22 => ?_)
    · replace hJ := iten hb22 hJ
      refine sw_iload_n (pc := 73) C 0 dX9_shook_73 rfl rfl ?_
      obtain rfl := Option.some.inj hJ
      exact sw_iret (pc := 74) C dX9_shook_74
    · replace hJ := itep hb22 hJ
      refine sw_iconst (pc := 25) C (v := (0 : Int32)) dX9_shook_25 (by decide) ?_
      refine sw_istore_n (pc := 26) C dX9_shook_26 rfl (by decide) (ll2 := [(3, .int (0 : Int32)), (2, .int (0 : Int32)), (1, .int q1.1), (0, .ref (ad 0))]) rfl ?_
      exact sw_sub [3, 2, 1, 0] (by rfl) (t_T_shook_27 C _ _ _ _ _ hJ)
  · replace hJ := itep hb6 hJ
    refine sw_bipush (pc := 9) C (v := (-103 : Int32)) dX9_shook_9 (by decide) ?_
    obtain rfl := Option.some.inj hJ
    exact sw_iret (pc := 11) C dX9_shook_11
set_option maxHeartbeats 4000000 in
set_option maxRecDepth 100000 in
theorem k_T_shook {l : Launch} {D : va_G} {cy : Nat → ClassId} {ad : Nat → Nat} {A : Nat → Prop} (hD : ∀ X, va_D A (wC cy ad X)) {X : St}  {r : Int32 × St} (hJ : jT_shook X = some r) : Met l yX9_shook (wsY yX9_shook cX9_shook 4 (some .int)) ({ frames := 5, cells := 0, slots := 0, locals := 108 } : Room) (prX D cy (wC cy ad) X [.ref (ad 0)]) (poI D (wC cy ad) A r.1 r.2) 0 0 A := sw_met (by decide +kernel) (Nat.le_of_ble_eq_true rfl) hD (fun p e s m args below meth c C => t_T_shook C _ hJ)
set_option maxHeartbeats 4000000 in
set_option maxRecDepth 100000 in
theorem t_T_isSet {p : Program} {l : Launch} {e : Env} {s : State} {m : MethodId} {args : Array Value} {below : List Frame} {meth : Method} {c : Code} {D : va_G} {cy : Nat → ClassId} {ad : Nat → Nat} {A : Nat → Prop} (C : Cx p s m args meth c D cy cX9_isSet 2 RX9 (some .boolean) A (wC cy ad)) {X : St} {r : Int32} : ∀ (a1 : Int32), jT_isSet X a1 = some r → SW p l e ({ frames := 1, cells := 0, slots := 0, locals := 22 } : Room) s m args below meth c D 2 A (wC cy ad) (MQ below (poI D (wC cy ad) A r X) args s 0 0 A) X [(0, .ref (ad 0)), (1, .int a1)] 0 [] := by
  intro a1 hJ
  unfold jT_isSet at hJ
  refine sw_iload_n (pc := 0) C 1 dX9_isSet_0 rfl rfl ?_
  refine sw_iconst (pc := 1) C (v := (0 : Int32)) dX9_isSet_1 (by decide) ?_
  refine sw_iconst (pc := 2) C (v := (1 : Int32)) dX9_isSet_2 (by decide) ?_
  refine sw_aload_n (pc := 3) C 0 dX9_isSet_3 rfl rfl ?_
  refine gC_0_3 (pc := 4) C wd_2_4 dX9_isSet_4 ?_
  obtain ⟨q7, hq7, hJ⟩ := bind_some hJ
  refine sw_callV_i (pc := 7) C (st := [.int (1 : Int32), .int (0 : Int32), .int a1]) (As := []) (k_Ch_size C.2.2.2.2.2.2.1 hq7) pk_X1_size wd_13_1 5 rfl rfl rfl ⟨Nat.le_of_ble_eq_true rfl, Nat.le_of_ble_eq_true rfl⟩ ⟨rfl, rfl⟩ rfl rfl (Nat.le_of_ble_eq_true rfl) dX9_isSet_7 ?_
  refine sw_ishl (pc := 10) C dX9_isSet_10 ?_
  refine sw_iconst (pc := 11) C (v := (1 : Int32)) dX9_isSet_11 (by decide) ?_
  refine sw_isub (pc := 12) C dX9_isSet_12 ?_
  obtain ⟨q13, hq13, hJ⟩ := bind_some hJ
  refine sw_callS_i (pc := 13) C (st := []) (As := [.int a1, .int (0 : Int32), .int (((1 : Int32) <<< (q7 &&& 31)) - (1 : Int32))]) (k_T_isBetween C.2.2.2.2.2.2.1 hq13) pk_X9_isBetween wd_12_12 ⟨Nat.le_of_ble_eq_true rfl, Nat.le_of_ble_eq_true rfl⟩ ⟨rfl, rfl⟩ rfl rfl (Nat.le_of_ble_eq_true rfl) dX9_isSet_13 ?_
  obtain ⟨hz16, hJ⟩ := gd hJ
  obtain rfl := Option.some.inj hJ
  exact sw_zret (pc := 16) (v := q13) C hz16 dX9_isSet_16
set_option maxHeartbeats 4000000 in
set_option maxRecDepth 100000 in
theorem k_T_isSet {l : Launch} {D : va_G} {cy : Nat → ClassId} {ad : Nat → Nat} {A : Nat → Prop} (hD : ∀ X, va_D A (wC cy ad X)) {X : St} {a1 : Int32} {r : Int32} (hJ : jT_isSet X a1 = some r) : Met l yX9_isSet (wsY yX9_isSet cX9_isSet 2 (some .boolean)) ({ frames := 1, cells := 0, slots := 0, locals := 22 } : Room) (prX D cy (wC cy ad) X [.ref (ad 0), .int a1]) (poI D (wC cy ad) A r X) 0 0 A := sw_met (by decide +kernel) (Nat.le_of_ble_eq_true rfl) hD (fun p e s m args below meth c C => t_T_isSet C _ hJ)
set_option maxHeartbeats 4000000 in
set_option maxRecDepth 100000 in
theorem t_T_firstTower_10 {p : Program} {l : Launch} {e : Env} {s : State} {m : MethodId} {args : Array Value} {below : List Frame} {meth : Method} {c : Code} {D : va_G} {cy : Nat → ClassId} {ad : Nat → Nat} {A : Nat → Prop} (C : Cx p s m args meth c D cy cX9_firstTower 7 RX9 (some .int) A (wC cy ad)) {X : St} {d : Nat} {rc : St → Int32 → Int32 → Int32 → Option (Int32)} {r : Int32} (hrc : ∀ {X : St} {a1 : Int32} {a2 : Int32} {a3 : Int32} {r2 : Int32}, rc X a1 a2 a3 = some r2 → Met l yX9_firstTower (wsY yX9_firstTower cX9_firstTower 7 (some .int)) ({ frames := 3 + d, cells := 0, slots := 0, locals := 70 + d * 26 } : Room) (prX D cy (wC cy ad) X [.ref (ad 5), .int a1, .int a2, .int a3]) (poI D (wC cy ad) A r2 X) 0 0 A) : ∀ (v1 : Int32) (v2 : Int32), jT_firstTower_10 X rc v1 v2 = some r → SW p l e ({ frames := 3 + (d + 1), cells := 0, slots := 0, locals := 70 + (d + 1) * 26 } : Room) s m args below meth c D 7 A (wC cy ad) (MQ below (poI D (wC cy ad) A r X) args s 0 0 A) X [(1, .int v1), (2, .int v2)] 10 [] := by
  intro v1 v2 hJ
  unfold jT_firstTower_10 at hJ
  refine sw_iload_n (pc := 10) C 1 dX9_firstTower_10 rfl rfl ?_
  refine sw_if_ne (pc := 11) (tgt := 18) C dX9_firstTower_11 (by decide) (fun hb11 => ?_) (fun hb11 => ?_)
  · replace hJ := iten hb11 hJ
    refine sw_iconst (pc := 18) C (v := (-1 : Int32)) dX9_firstTower_18 (by decide) ?_
    obtain rfl := Option.some.inj hJ
    exact sw_iret (pc := 19) C dX9_firstTower_19
  · replace hJ := itep hb11 hJ
    refine sw_iload_n (pc := 14) C 0 dX9_firstTower_14 rfl rfl ?_
    refine sw_goto (pc := 15) (tgt := 19) C dX9_firstTower_15 (by decide) ?_
    obtain rfl := Option.some.inj hJ
    exact sw_iret (pc := 19) C dX9_firstTower_19
set_option maxHeartbeats 4000000 in
set_option maxRecDepth 100000 in
theorem t_T_firstTower_92 {p : Program} {l : Launch} {e : Env} {s : State} {m : MethodId} {args : Array Value} {below : List Frame} {meth : Method} {c : Code} {D : va_G} {cy : Nat → ClassId} {ad : Nat → Nat} {A : Nat → Prop} (C : Cx p s m args meth c D cy cX9_firstTower 7 RX9 (some .int) A (wC cy ad)) {X : St} {d : Nat} {rc : St → Int32 → Int32 → Int32 → Option (Int32)} {k23 : Int32 → Int32 → Int32 → Int32 → Option (Int32)} {r : Int32} (hrc : ∀ {X : St} {a1 : Int32} {a2 : Int32} {a3 : Int32} {r2 : Int32}, rc X a1 a2 a3 = some r2 → Met l yX9_firstTower (wsY yX9_firstTower cX9_firstTower 7 (some .int)) ({ frames := 3 + d, cells := 0, slots := 0, locals := 70 + d * 26 } : Room) (prX D cy (wC cy ad) X [.ref (ad 5), .int a1, .int a2, .int a3]) (poI D (wC cy ad) A r2 X) 0 0 A) (h23 : ∀ (v1 : Int32) (v2 : Int32) (v3 : Int32) (v4 : Int32), k23 v1 v2 v3 v4 = some r → SW p l e ({ frames := 3 + (d + 1), cells := 0, slots := 0, locals := 70 + (d + 1) * 26 } : Room) s m args below meth c D 7 A (wC cy ad) (MQ below (poI D (wC cy ad) A r X) args s 0 0 A) X [(0, .ref (ad 5)), (1, .int v1), (2, .int v2), (3, .int v3), (4, .int v4)] 23 []) : ∀ (v1 : Int32) (v2 : Int32) (v3 : Int32) (v4 : Int32), jT_firstTower_92 X rc k23 v1 v2 v3 v4 = some r → SW p l e ({ frames := 3 + (d + 1), cells := 0, slots := 0, locals := 70 + (d + 1) * 26 } : Room) s m args below meth c D 7 A (wC cy ad) (MQ below (poI D (wC cy ad) A r X) args s 0 0 A) X [(0, .ref (ad 5)), (1, .int v1), (2, .int v2), (3, .int v3), (4, .int v4)] 92 [] := by
  intro v1 v2 v3 v4 hJ
  unfold jT_firstTower_92 at hJ
  refine sw_iinc (pc := 92) C 4 dX9_firstTower_92 rfl (v := (v4 + (1 : Int32))) (congrArg (fun z => v4 + z) (by decide)) (by decide) (ll2 := [(4, .int (v4 + (1 : Int32))), (0, .ref (ad 5)), (1, .int v1), (2, .int v2), (3, .int v3)]) rfl ?_
  refine sw_goto (pc := 95) (tgt := 23) C dX9_firstTower_95 (by decide) ?_
  exact sw_sub [1, 2, 3, 4, 0] (by rfl) (h23 _ _ _ _ hJ)
set_option maxHeartbeats 4000000 in
set_option maxRecDepth 100000 in
theorem t_T_firstTower_23 {p : Program} {l : Launch} {e : Env} {s : State} {m : MethodId} {args : Array Value} {below : List Frame} {meth : Method} {c : Code} {D : va_G} {cy : Nat → ClassId} {ad : Nat → Nat} {A : Nat → Prop} (C : Cx p s m args meth c D cy cX9_firstTower 7 RX9 (some .int) A (wC cy ad)) {X : St} {d : Nat} {rc : St → Int32 → Int32 → Int32 → Option (Int32)} {r : Int32} (hrc : ∀ {X : St} {a1 : Int32} {a2 : Int32} {a3 : Int32} {r2 : Int32}, rc X a1 a2 a3 = some r2 → Met l yX9_firstTower (wsY yX9_firstTower cX9_firstTower 7 (some .int)) ({ frames := 3 + d, cells := 0, slots := 0, locals := 70 + d * 26 } : Room) (prX D cy (wC cy ad) X [.ref (ad 5), .int a1, .int a2, .int a3]) (poI D (wC cy ad) A r2 X) 0 0 A) : ∀ (n : Nat) (v1 : Int32) (v2 : Int32) (v3 : Int32) (v4 : Int32), jT_firstTower_23 X rc n v1 v2 v3 v4 = some r → SW p l e ({ frames := 3 + (d + 1), cells := 0, slots := 0, locals := 70 + (d + 1) * 26 } : Room) s m args below meth c D 7 A (wC cy ad) (MQ below (poI D (wC cy ad) A r X) args s 0 0 A) X [(0, .ref (ad 5)), (1, .int v1), (2, .int v2), (3, .int v3), (4, .int v4)] 23 [] := by
  intro n
  induction n with
  | zero => intro v1 v2 v3 v4 hJ; exact absurd (show (none : Option (Int32)) = some r from hJ) (fun h => by cases h)
  | succ n ih =>
    intro v1 v2 v3 v4 hJ
    rw [jT_firstTower_23] at hJ
    refine sw_iload (pc := 23) C 4 dX9_firstTower_23 rfl ?_
    refine sw_bipush (pc := 25) C (v := (7 : Int32)) dX9_firstTower_25 (by decide) ?_
    refine sw_icmp_ge (pc := 27) (tgt := 98) C dX9_firstTower_27 (by decide) (fun hb27 => ?_) (fun hb27 => ?_)
    · replace hJ := itep hb27 hJ
      refine sw_iconst (pc := 98) C (v := (-1 : Int32)) dX9_firstTower_98 (by decide) ?_
      obtain rfl := Option.some.inj hJ
      exact sw_iret (pc := 99) C dX9_firstTower_99
    · replace hJ := iten hb27 hJ
      refine sw_iload_n (pc := 30) C 2 dX9_firstTower_30 rfl rfl ?_
      refine sw_iload (pc := 31) C 4 dX9_firstTower_31 rfl ?_
      refine sw_iushr (pc := 33) C dX9_firstTower_33 ?_
      refine sw_iconst (pc := 34) C (v := (1 : Int32)) dX9_firstTower_34 (by decide) ?_
      refine sw_iand (pc := 35) C dX9_firstTower_35 ?_
      refine sw_iconst (pc := 36) C (v := (1 : Int32)) dX9_firstTower_36 (by decide) ?_
      refine sw_icmp_ne (pc := 37) (tgt := 92) C dX9_firstTower_37 (by decide) (fun hb37 => ?_) (fun hb37 => ?_)
      · replace hJ := iten hb37 hJ
        exact sw_sub [0, 1, 2, 3, 4] (by rfl) (t_T_firstTower_92 C hrc ih _ _ _ _ hJ)
      · replace hJ := itep hb37 hJ
        refine sw_aload_n (pc := 40) C 0 dX9_firstTower_40 rfl rfl ?_
        refine sw_iload_n (pc := 41) C 1 dX9_firstTower_41 rfl rfl ?_
        refine sw_iload (pc := 42) C 4 dX9_firstTower_42 rfl ?_
        obtain ⟨q44, hq44, hJ⟩ := bind_some hJ
        refine sw_callV_i (pc := 44) C (st := []) (As := [.int v1, .int v4]) (k_Ch_canRise C.2.2.2.2.2.2.1 hq44) pk_X1_canRise wd_18_18 5 rfl rfl rfl ⟨by dsimp only; omega, by dsimp only; omega⟩ ⟨rfl, rfl⟩ rfl rfl (Nat.le_of_ble_eq_true rfl) dX9_firstTower_44 ?_
        refine sw_if_eq (pc := 47) (tgt := 92) C dX9_firstTower_47 (by decide) (fun hb47 => ?_) (fun hb47 => ?_)
        · replace hJ := itep hb47 hJ
          exact sw_sub [0, 1, 2, 3, 4] (by rfl) (t_T_firstTower_92 C hrc ih _ _ _ _ hJ)
        · replace hJ := iten hb47 hJ
          refine sw_aload_n (pc := 50) C 0 dX9_firstTower_50 rfl rfl ?_
          refine sw_iload_n (pc := 51) C 1 dX9_firstTower_51 rfl rfl ?_
          refine sw_iload (pc := 52) C 4 dX9_firstTower_52 rfl ?_
          obtain ⟨q54, hq54, hJ⟩ := bind_some hJ
          refine sw_callV_i (pc := 54) C (st := []) (As := [.int v1, .int v4]) (k_Ch_risen C.2.2.2.2.2.2.1 hq54) pk_X1_risen wd_19_19 5 rfl rfl rfl ⟨by dsimp only; omega, by dsimp only; omega⟩ ⟨rfl, rfl⟩ rfl rfl (Nat.le_of_ble_eq_true rfl) dX9_firstTower_54 ?_
          refine sw_istore (pc := 57) C dX9_firstTower_57 (by decide) (ll2 := [(5, .int q54), (0, .ref (ad 5)), (1, .int v1), (2, .int v2), (3, .int v3), (4, .int v4)]) rfl ?_
          refine sw_iload (pc := 59) C 0 dX9_firstTower_59 rfl ?_
          refine sw_if_eq (pc := 61) (tgt := 92) C dX9_firstTower_61 (by decide) (fun hb61 => ?_) (fun hb61 => ?_)
          · replace hJ := itep hb61 hJ
            exact sw_sub [1, 2, 3, 4, 5] (by rfl) (t_T_firstTower_92 C hrc ih _ _ _ _ hJ)
          · replace hJ := iten hb61 hJ
            refine sw_aload_n (pc := 64) C 1 dX9_firstTower_64 rfl rfl ?_
            refine sw_iload (pc := 65) C 0 dX9_firstTower_65 rfl ?_
            refine sw_iload_n (pc := 67) C 3 dX9_firstTower_67 rfl rfl ?_
            refine sw_iconst (pc := 68) C (v := (1 : Int32)) dX9_firstTower_68 (by decide) ?_
            refine sw_iload (pc := 69) C 5 dX9_firstTower_69 rfl ?_
            refine sw_ishl (pc := 71) C dX9_firstTower_71 ?_
            refine sw_iconst (pc := 72) C (v := (-1 : Int32)) dX9_firstTower_72 (by decide) ?_
            refine sw_ixor (pc := 73) C dX9_firstTower_73 ?_
            refine sw_iand (pc := 74) C dX9_firstTower_74 ?_
            refine sw_iload_n (pc := 75) C 4 dX9_firstTower_75 rfl rfl ?_
            refine sw_iconst (pc := 76) C (v := (1 : Int32)) dX9_firstTower_76 (by decide) ?_
            refine sw_iadd (pc := 77) C dX9_firstTower_77 ?_
            obtain ⟨q78, hq78, hJ⟩ := bind_some hJ
            refine sw_callS_i (pc := 78) C (st := []) (As := [.ref (ad 5), .int q54, .int (v2 &&& (((1 : Int32) <<< (v4 &&& 31)) ^^^ (-1 : Int32))), .int (v3 + (1 : Int32))]) (hrc hq78) pk_X9_firstTower wd_26_3 ⟨by dsimp only; omega, by dsimp only; omega⟩ ⟨rfl, rfl⟩ rfl rfl (Nat.le_of_ble_eq_true rfl) dX9_firstTower_78 ?_
            refine sw_istore (pc := 81) C dX9_firstTower_81 (by decide) (ll2 := [(6, .int q78), (5, .int q54), (0, .ref (ad 5)), (1, .int v1), (2, .int v2), (3, .int v3), (4, .int v4)]) rfl ?_
            refine sw_iload (pc := 83) C 0 dX9_firstTower_83 rfl ?_
            refine sw_iconst (pc := 85) C (v := (-1 : Int32)) dX9_firstTower_85 (by decide) ?_
            refine sw_icmp_eq (pc := 86) (tgt := 92) C dX9_firstTower_86 (by decide) (fun hb86 => ?_) (fun hb86 => ?_)
            · replace hJ := itep hb86 hJ
              exact sw_sub [2, 3, 4, 5, 6] (by rfl) (t_T_firstTower_92 C hrc ih _ _ _ _ hJ)
            · replace hJ := iten hb86 hJ
              refine sw_iload (pc := 89) C 0 dX9_firstTower_89 rfl ?_
              obtain rfl := Option.some.inj hJ
              exact sw_iret (pc := 91) C dX9_firstTower_91
set_option maxHeartbeats 4000000 in
set_option maxRecDepth 100000 in
theorem t_T_firstTower_0 {p : Program} {l : Launch} {e : Env} {s : State} {m : MethodId} {args : Array Value} {below : List Frame} {meth : Method} {c : Code} {D : va_G} {cy : Nat → ClassId} {ad : Nat → Nat} {A : Nat → Prop} (C : Cx p s m args meth c D cy cX9_firstTower 7 RX9 (some .int) A (wC cy ad)) {X : St} {d : Nat} {rc : St → Int32 → Int32 → Int32 → Option (Int32)} {r : Int32} (hrc : ∀ {X : St} {a1 : Int32} {a2 : Int32} {a3 : Int32} {r2 : Int32}, rc X a1 a2 a3 = some r2 → Met l yX9_firstTower (wsY yX9_firstTower cX9_firstTower 7 (some .int)) ({ frames := 3 + d, cells := 0, slots := 0, locals := 70 + d * 26 } : Room) (prX D cy (wC cy ad) X [.ref (ad 5), .int a1, .int a2, .int a3]) (poI D (wC cy ad) A r2 X) 0 0 A) : ∀ (a1 : Int32) (a2 : Int32) (a3 : Int32), jT_firstTower_0 X rc a1 a2 a3 = some r → SW p l e ({ frames := 3 + (d + 1), cells := 0, slots := 0, locals := 70 + (d + 1) * 26 } : Room) s m args below meth c D 7 A (wC cy ad) (MQ below (poI D (wC cy ad) A r X) args s 0 0 A) X [(0, .ref (ad 5)), (1, .int a1), (2, .int a2), (3, .int a3)] 0 [] := by
  intro a1 a2 a3 hJ
  unfold jT_firstTower_0 at hJ
  refine sw_iload_n (pc := 0) C 2 dX9_firstTower_0 rfl rfl ?_
  refine sw_if_eq (pc := 1) (tgt := 10) C dX9_firstTower_1 (by decide) (fun hb1 => ?_) (fun hb1 => ?_)
  · replace hJ := itep hb1 hJ
    exact sw_sub [1, 2] (by rfl) (t_T_firstTower_10 C hrc _ _ hJ)
  · replace hJ := iten hb1 hJ
    refine sw_iload_n (pc := 4) C 3 dX9_firstTower_4 rfl rfl ?_
    refine sw_bipush (pc := 5) C (v := (7 : Int32)) dX9_firstTower_5 (by decide) ?_
    refine sw_icmp_le (pc := 7) (tgt := 20) C dX9_firstTower_7 (by decide) (fun hb7 => ?_) (fun hb7 => ?_)
    · replace hJ := itep hb7 hJ
      refine sw_iconst (pc := 20) C (v := (0 : Int32)) dX9_firstTower_20 (by decide) ?_
      refine sw_istore (pc := 21) C dX9_firstTower_21 (by decide) (ll2 := [(4, .int (0 : Int32)), (0, .ref (ad 5)), (1, .int a1), (2, .int a2), (3, .int a3)]) rfl ?_
      exact sw_sub [1, 2, 3, 4, 0] (by rfl) (t_T_firstTower_23 C hrc _ _ _ _ _ hJ)
    · replace hJ := iten hb7 hJ
      exact sw_sub [1, 2] (by rfl) (t_T_firstTower_10 C hrc _ _ hJ)
set_option maxHeartbeats 4000000 in
set_option maxRecDepth 100000 in
theorem k_T_firstTower {l : Launch} {D : va_G} {cy : Nat → ClassId} {ad : Nat → Nat} {A : Nat → Prop} (hD : ∀ X, va_D A (wC cy ad X)) : ∀ (d : Nat) {X : St} {a1 : Int32} {a2 : Int32} {a3 : Int32} {r : Int32}, jT_firstTower d X a1 a2 a3 = some r → Met l yX9_firstTower (wsY yX9_firstTower cX9_firstTower 7 (some .int)) ({ frames := 3 + d, cells := 0, slots := 0, locals := 70 + d * 26 } : Room) (prX D cy (wC cy ad) X [.ref (ad 5), .int a1, .int a2, .int a3]) (poI D (wC cy ad) A r X) 0 0 A := by
  intro d
  induction d with
  | zero => intro X a1 a2 a3 r hJ; exact absurd (show (none : Option (Int32)) = some r from hJ) (fun h => by cases h)
  | succ d ih =>
    intro X a1 a2 a3 r hJ
    rw [jT_firstTower] at hJ
    exact sw_met (by decide +kernel) (Nat.le_of_ble_eq_true rfl) hD (fun p e s m args below meth c C => t_T_firstTower_0 C ih _ _ _ hJ)
set_option maxHeartbeats 4000000 in
set_option maxRecDepth 100000 in
theorem t_T_order {p : Program} {l : Launch} {e : Env} {s : State} {m : MethodId} {args : Array Value} {below : List Frame} {meth : Method} {c : Code} {D : va_G} {cy : Nat → ClassId} {ad : Nat → Nat} {A : Nat → Prop} (C : Cx p s m args meth c D cy cX9_order 4 RX9 (some .int) A (wC cy ad)) {r : Int32 × St} : ∀ (X : St) (a1 : Int32) (a2 : Int32), jT_order X a1 a2 = some r → SW p l e ({ frames := 14, cells := 0, slots := 0, locals := 356 } : Room) s m args below meth c D 4 A (wC cy ad) (MQ below (poI D (wC cy ad) A r.1 r.2) args s 0 0 A) X [(0, .ref (ad 0)), (1, .int a1), (2, .int a2)] 0 [] := by
  intro X a1 a2 hJ
  unfold jT_order at hJ
  refine sw_aload_n (pc := 0) C 0 dX9_order_0 rfl rfl ?_
  refine sw_iload_n (pc := 1) C 1 dX9_order_1 rfl rfl ?_
  obtain ⟨q2, hq2, hJ⟩ := bind_some hJ
  refine sw_callV_i (pc := 2) C (st := []) (As := [.int a1]) (k_T_isSet C.2.2.2.2.2.2.1 hq2) pk_X9_isSet wd_25_23 0 rfl rfl rfl ⟨Nat.le_of_ble_eq_true rfl, Nat.le_of_ble_eq_true rfl⟩ ⟨rfl, rfl⟩ rfl rfl (Nat.le_of_ble_eq_true rfl) dX9_order_2 ?_
  refine sw_if_eq (pc := 5) (tgt := 18) C dX9_order_5 (by decide) (fun hb5 => ?_) (fun hb5 => ?_)
  · replace hJ := itep hb5 hJ
    refine sw_bipush (pc := 18) C (v := (-102 : Int32)) dX9_order_18 (by decide) ?_
    obtain rfl := Option.some.inj hJ
    exact sw_iret (pc := 20) C dX9_order_20
  · replace hJ := iten hb5 hJ
    refine sw_iload_n (pc := 8) C 2 dX9_order_8 rfl rfl ?_
    refine sw_iconst (pc := 9) C (v := (0 : Int32)) dX9_order_9 (by decide) ?_
    refine sw_bipush (pc := 10) C (v := (6 : Int32)) dX9_order_10 (by decide) ?_
    obtain ⟨q12, hq12, hJ⟩ := bind_some hJ
    refine sw_callS_i (pc := 12) C (st := []) (As := [.int a2, .int (0 : Int32), .int (6 : Int32)]) (k_T_isBetween C.2.2.2.2.2.2.1 hq12) pk_X9_isBetween wd_12_12 ⟨Nat.le_of_ble_eq_true rfl, Nat.le_of_ble_eq_true rfl⟩ ⟨rfl, rfl⟩ rfl rfl (Nat.le_of_ble_eq_true rfl) dX9_order_12 ?_
    refine sw_if_ne (pc := 15) (tgt := 21) C dX9_order_15 (by decide) (fun hb15 => ?_) (fun hb15 => ?_)
    · replace hJ := iten hb15 hJ
      refine sw_aload_n (pc := 21) C 0 dX9_order_21 rfl rfl ?_
      refine gC_0_8 (pc := 22) C wd_25_22 dX9_order_22 ?_
      refine sw_bipush (pc := 25) C (v := (40 : Int32)) dX9_order_25 (by decide) ?_
      refine sw_icmp_lt (pc := 27) (tgt := 33) C dX9_order_27 (by decide) (fun hb27 => ?_) (fun hb27 => ?_)
      · replace hJ := itep hb27 hJ
        refine sw_aload_n (pc := 33) C 0 dX9_order_33 rfl rfl ?_
        refine sw_dup (pc := 34) C dX9_order_34 rfl ?_
        refine gC_0_8 (pc := 35) C wd_25_22 dX9_order_35 ?_
        refine sw_iconst (pc := 38) C (v := (1 : Int32)) dX9_order_38 (by decide) ?_
        refine sw_iadd (pc := 39) C dX9_order_39 ?_
        refine pC_0_8 (pc := 40) C wd_25_22 dX9_order_40 ?_
        refine sw_aload_n (pc := 43) C 0 dX9_order_43 rfl rfl ?_
        refine gC_0_3 (pc := 44) C wd_2_4 dX9_order_44 ?_
        refine sw_aload_n (pc := 47) C 0 dX9_order_47 rfl rfl ?_
        refine gC_0_6 (pc := 48) C wd_15_16 dX9_order_48 ?_
        refine sw_iload_n (pc := 51) C 1 dX9_order_51 rfl rfl ?_
        refine sw_iconst (pc := 52) C (v := (0 : Int32)) dX9_order_52 (by decide) ?_
        obtain ⟨q53, hq53, hJ⟩ := bind_some hJ
        refine sw_callS_i (pc := 53) C (st := []) (As := [.ref (ad 5), .int (sF (pF X 8 ((sF X 8) + (1 : Int32))) 6), .int a1, .int (0 : Int32)]) (k_T_firstTower C.2.2.2.2.2.2.1 10 hq53) pk_X9_firstTower wd_26_3 ⟨Nat.le_of_ble_eq_true rfl, Nat.le_of_ble_eq_true rfl⟩ ⟨rfl, rfl⟩ rfl rfl (Nat.le_of_ble_eq_true rfl) dX9_order_53 ?_
        refine sw_istore_n (pc := 56) C dX9_order_56 rfl (by decide) (ll2 := [(3, .int q53), (0, .ref (ad 0)), (1, .int a1), (2, .int a2)]) rfl ?_
        refine sw_iload_n (pc := 57) C 0 dX9_order_57 rfl rfl ?_
        refine sw_iconst (pc := 58) C (v := (-1 : Int32)) dX9_order_58 (by decide) ?_
        refine sw_icmp_ne (pc := 59) (tgt := 66) C dX9_order_59 (by decide) (fun hb59 => ?_) (fun hb59 => ?_)
        · replace hJ := iten hb59 hJ
          refine sw_iload_n (pc := 66) C 0 dX9_order_66 rfl rfl ?_
          refine sw_aload_n (pc := 67) C 1 dX9_order_67 rfl rfl ?_
          refine gC_0_6 (pc := 68) C wd_15_16 dX9_order_68 ?_
          obtain ⟨q71, hq71, hJ⟩ := bind_some hJ
          refine sw_callS_i (pc := 71) C (st := [.int q53]) (As := [.int (sF (pF X 8 ((sF X 8) + (1 : Int32))) 6)]) (k_Ro_size C.2.2.2.2.2.2.1 hq71) pk_X6_size wd_20_13 ⟨Nat.le_of_ble_eq_true rfl, Nat.le_of_ble_eq_true rfl⟩ ⟨rfl, rfl⟩ rfl rfl (Nat.le_of_ble_eq_true rfl) dX9_order_71 ?_
          refine sw_iconst (pc := 74) C (v := (1 : Int32)) dX9_order_74 (by decide) ?_
          refine sw_iadd (pc := 75) C dX9_order_75 ?_
          refine sw_iload_n (pc := 76) C 3 dX9_order_76 rfl rfl ?_
          refine sw_iadd (pc := 77) C dX9_order_77 ?_
          obtain ⟨q78, hq78, hJ⟩ := bind_some hJ
          refine sw_callS_i (pc := 78) C (st := []) (As := [.int q53, .int ((q71 + (1 : Int32)) + a2)]) (k_Ro_memberAt C.2.2.2.2.2.2.1 hq78) pk_X6_memberAt wd_21_19 ⟨Nat.le_of_ble_eq_true rfl, Nat.le_of_ble_eq_true rfl⟩ ⟨rfl, rfl⟩ rfl rfl (Nat.le_of_ble_eq_true rfl) dX9_order_78 ?_
          obtain rfl := Option.some.inj hJ
          exact sw_iret (pc := 81) C dX9_order_81
        · replace hJ := itep hb59 hJ
          refine sw_iconst (pc := 62) C (v := (-1 : Int32)) dX9_order_62 (by decide) ?_
          refine sw_goto (pc := 63) (tgt := 81) C dX9_order_63 (by decide) ?_
          obtain rfl := Option.some.inj hJ
          exact sw_iret (pc := 81) C dX9_order_81
      · replace hJ := iten hb27 hJ
        refine sw_bipush (pc := 30) C (v := (-103 : Int32)) dX9_order_30 (by decide) ?_
        obtain rfl := Option.some.inj hJ
        exact sw_iret (pc := 32) C dX9_order_32
    · replace hJ := itep hb15 hJ
      refine sw_bipush (pc := 18) C (v := (-102 : Int32)) dX9_order_18 (by decide) ?_
      obtain rfl := Option.some.inj hJ
      exact sw_iret (pc := 20) C dX9_order_20
set_option maxHeartbeats 4000000 in
set_option maxRecDepth 100000 in
theorem k_T_order {l : Launch} {D : va_G} {cy : Nat → ClassId} {ad : Nat → Nat} {A : Nat → Prop} (hD : ∀ X, va_D A (wC cy ad X)) {X : St} {a1 : Int32} {a2 : Int32} {r : Int32 × St} (hJ : jT_order X a1 a2 = some r) : Met l yX9_order (wsY yX9_order cX9_order 4 (some .int)) ({ frames := 14, cells := 0, slots := 0, locals := 356 } : Room) (prX D cy (wC cy ad) X [.ref (ad 0), .int a1, .int a2]) (poI D (wC cy ad) A r.1 r.2) 0 0 A := sw_met (by decide +kernel) (Nat.le_of_ble_eq_true rfl) hD (fun p e s m args below meth c C => t_T_order C _ _ _ hJ)
set_option maxHeartbeats 4000000 in
set_option maxRecDepth 100000 in
theorem t_T_hearBills_96 {p : Program} {l : Launch} {e : Env} {s : State} {m : MethodId} {args : Array Value} {below : List Frame} {meth : Method} {c : Code} {D : va_G} {cy : Nat → ClassId} {ad : Nat → Nat} {A : Nat → Prop} (C : Cx p s m args meth c D cy cX9_hearBills 9 RX9 none A (wC cy ad)) {d : Nat} {rc : St → Int32 → Int32 → Int32 → Int32 → Option (St)} {k14 : St → Int32 → Int32 → Int32 → Int32 → Int32 → Option (St)} {r : St} (hrc : ∀ {X : St} {a1 : Int32} {a2 : Int32} {a3 : Int32} {a4 : Int32} {r2 : St}, rc X a1 a2 a3 a4 = some r2 → Met l yX9_hearBills (wsY yX9_hearBills cX9_hearBills 9 none) ({ frames := 3 + d, cells := 0, slots := 0, locals := 70 + d * 28 } : Room) (prX D cy (wC cy ad) X [.ref (ad 5), .int a1, .int a2, .int a3, .int a4, .ref (ad 12)]) (poV D (wC cy ad) A r2) 0 0 A) (h14 : ∀ (X : St) (v1 : Int32) (v2 : Int32) (v3 : Int32) (v4 : Int32) (v6 : Int32), k14 X v1 v2 v3 v4 v6 = some r → SW p l e ({ frames := 3 + (d + 1), cells := 0, slots := 0, locals := 70 + (d + 1) * 28 } : Room) s m args below meth c D 9 A (wC cy ad) (MQ below (poV D (wC cy ad) A r) args s 0 0 A) X [(0, .ref (ad 5)), (1, .int v1), (2, .int v2), (3, .int v3), (4, .int v4), (5, .ref (ad 12)), (6, .int v6)] 14 []) : ∀ (X : St) (v1 : Int32) (v2 : Int32) (v3 : Int32) (v4 : Int32) (v6 : Int32), jT_hearBills_96 rc k14 X v1 v2 v3 v4 v6 = some r → SW p l e ({ frames := 3 + (d + 1), cells := 0, slots := 0, locals := 70 + (d + 1) * 28 } : Room) s m args below meth c D 9 A (wC cy ad) (MQ below (poV D (wC cy ad) A r) args s 0 0 A) X [(0, .ref (ad 5)), (1, .int v1), (2, .int v2), (3, .int v3), (4, .int v4), (5, .ref (ad 12)), (6, .int v6)] 96 [] := by
  intro X v1 v2 v3 v4 v6 hJ
  unfold jT_hearBills_96 at hJ
  refine sw_iinc (pc := 96) C 6 dX9_hearBills_96 rfl (v := (v6 + (1 : Int32))) (congrArg (fun z => v6 + z) (by decide)) (by decide) (ll2 := [(6, .int (v6 + (1 : Int32))), (0, .ref (ad 5)), (1, .int v1), (2, .int v2), (3, .int v3), (4, .int v4), (5, .ref (ad 12))]) rfl ?_
  refine sw_goto (pc := 99) (tgt := 14) C dX9_hearBills_99 (by decide) ?_
  exact sw_sub [1, 2, 3, 4, 5, 6, 0] (by rfl) (h14 _ _ _ _ _ _ hJ)
set_option maxHeartbeats 4000000 in
set_option maxRecDepth 100000 in
theorem t_T_hearBills_14 {p : Program} {l : Launch} {e : Env} {s : State} {m : MethodId} {args : Array Value} {below : List Frame} {meth : Method} {c : Code} {D : va_G} {cy : Nat → ClassId} {ad : Nat → Nat} {A : Nat → Prop} (C : Cx p s m args meth c D cy cX9_hearBills 9 RX9 none A (wC cy ad)) {d : Nat} {rc : St → Int32 → Int32 → Int32 → Int32 → Option (St)} {r : St} (hrc : ∀ {X : St} {a1 : Int32} {a2 : Int32} {a3 : Int32} {a4 : Int32} {r2 : St}, rc X a1 a2 a3 a4 = some r2 → Met l yX9_hearBills (wsY yX9_hearBills cX9_hearBills 9 none) ({ frames := 3 + d, cells := 0, slots := 0, locals := 70 + d * 28 } : Room) (prX D cy (wC cy ad) X [.ref (ad 5), .int a1, .int a2, .int a3, .int a4, .ref (ad 12)]) (poV D (wC cy ad) A r2) 0 0 A) : ∀ (n : Nat) (X : St) (v1 : Int32) (v2 : Int32) (v3 : Int32) (v4 : Int32) (v6 : Int32), jT_hearBills_14 rc n X v1 v2 v3 v4 v6 = some r → SW p l e ({ frames := 3 + (d + 1), cells := 0, slots := 0, locals := 70 + (d + 1) * 28 } : Room) s m args below meth c D 9 A (wC cy ad) (MQ below (poV D (wC cy ad) A r) args s 0 0 A) X [(0, .ref (ad 5)), (1, .int v1), (2, .int v2), (3, .int v3), (4, .int v4), (5, .ref (ad 12)), (6, .int v6)] 14 [] := by
  intro n
  induction n with
  | zero => intro X v1 v2 v3 v4 v6 hJ; exact absurd (show (none : Option (St)) = some r from hJ) (fun h => by cases h)
  | succ n ih =>
    intro X v1 v2 v3 v4 v6 hJ
    rw [jT_hearBills_14] at hJ
    refine sw_iload (pc := 14) C 6 dX9_hearBills_14 rfl ?_
    refine sw_bipush (pc := 16) C (v := (7 : Int32)) dX9_hearBills_16 (by decide) ?_
    refine sw_icmp_ge (pc := 18) (tgt := 102) C dX9_hearBills_18 (by decide) (fun hb18 => ?_) (fun hb18 => ?_)
    · replace hJ := itep hb18 hJ
      obtain rfl := Option.some.inj hJ
      exact sw_vret (pc := 102) C dX9_hearBills_102
    · replace hJ := iten hb18 hJ
      refine sw_iload (pc := 21) C 4 dX9_hearBills_21 rfl ?_
      refine sw_bipush (pc := 23) C (v := (7 : Int32)) dX9_hearBills_23 (by decide) ?_
      refine sw_icmp_gt (pc := 25) (tgt := 102) C dX9_hearBills_25 (by decide) (fun hb25 => ?_) (fun hb25 => ?_)
      · replace hJ := itep hb25 hJ
        obtain rfl := Option.some.inj hJ
        exact sw_vret (pc := 102) C dX9_hearBills_102
      · replace hJ := iten hb25 hJ
        refine sw_iload_n (pc := 28) C 2 dX9_hearBills_28 rfl rfl ?_
        refine sw_iload (pc := 29) C 6 dX9_hearBills_29 rfl ?_
        refine sw_iushr (pc := 31) C dX9_hearBills_31 ?_
        refine sw_iconst (pc := 32) C (v := (1 : Int32)) dX9_hearBills_32 (by decide) ?_
        refine sw_iand (pc := 33) C dX9_hearBills_33 ?_
        refine sw_iconst (pc := 34) C (v := (1 : Int32)) dX9_hearBills_34 (by decide) ?_
        refine sw_icmp_ne (pc := 35) (tgt := 96) C dX9_hearBills_35 (by decide) (fun hb35 => ?_) (fun hb35 => ?_)
        · replace hJ := iten hb35 hJ
          exact sw_sub [0, 1, 2, 3, 4, 5, 6] (by rfl) (t_T_hearBills_96 C hrc ih _ _ _ _ _ _ hJ)
        · replace hJ := itep hb35 hJ
          refine sw_aload_n (pc := 38) C 0 dX9_hearBills_38 rfl rfl ?_
          refine sw_iload_n (pc := 39) C 1 dX9_hearBills_39 rfl rfl ?_
          refine sw_iload (pc := 40) C 6 dX9_hearBills_40 rfl ?_
          obtain ⟨q42, hq42, hJ⟩ := bind_some hJ
          refine sw_callV_i (pc := 42) C (st := []) (As := [.int v1, .int v6]) (k_Ch_canRise C.2.2.2.2.2.2.1 hq42) pk_X1_canRise wd_18_18 5 rfl rfl rfl ⟨by dsimp only; omega, by dsimp only; omega⟩ ⟨rfl, rfl⟩ rfl rfl (Nat.le_of_ble_eq_true rfl) dX9_hearBills_42 ?_
          refine sw_if_eq (pc := 45) (tgt := 96) C dX9_hearBills_45 (by decide) (fun hb45 => ?_) (fun hb45 => ?_)
          · replace hJ := itep hb45 hJ
            exact sw_sub [0, 1, 2, 3, 4, 5, 6] (by rfl) (t_T_hearBills_96 C hrc ih _ _ _ _ _ _ hJ)
          · replace hJ := iten hb45 hJ
            refine sw_aload_n (pc := 48) C 0 dX9_hearBills_48 rfl rfl ?_
            refine sw_iload_n (pc := 49) C 1 dX9_hearBills_49 rfl rfl ?_
            refine sw_iload (pc := 50) C 6 dX9_hearBills_50 rfl ?_
            obtain ⟨q52, hq52, hJ⟩ := bind_some hJ
            refine sw_callV_i (pc := 52) C (st := []) (As := [.int v1, .int v6]) (k_Ch_risen C.2.2.2.2.2.2.1 hq52) pk_X1_risen wd_19_19 5 rfl rfl rfl ⟨by dsimp only; omega, by dsimp only; omega⟩ ⟨rfl, rfl⟩ rfl rfl (Nat.le_of_ble_eq_true rfl) dX9_hearBills_52 ?_
            refine sw_istore (pc := 55) C dX9_hearBills_55 (by decide) (ll2 := [(7, .int q52), (0, .ref (ad 5)), (1, .int v1), (2, .int v2), (3, .int v3), (4, .int v4), (5, .ref (ad 12)), (6, .int v6)]) rfl ?_
            refine sw_iload (pc := 57) C 0 dX9_hearBills_57 rfl ?_
            refine sw_if_eq (pc := 59) (tgt := 96) C dX9_hearBills_59 (by decide) (fun hb59 => ?_) (fun hb59 => ?_)
            · replace hJ := itep hb59 hJ
              exact sw_sub [1, 2, 3, 4, 5, 6, 7] (by rfl) (t_T_hearBills_96 C hrc ih _ _ _ _ _ _ hJ)
            · replace hJ := iten hb59 hJ
              refine sw_aload_n (pc := 62) C 1 dX9_hearBills_62 rfl rfl ?_
              refine sw_iload (pc := 63) C 7 dX9_hearBills_63 rfl ?_
              obtain ⟨q65, hq65, hJ⟩ := bind_some hJ
              refine sw_callV_r (pc := 65) C (st := []) (As := [.int v6]) (k_Ch_who C.2.2.2.2.2.2.1 hq65) pk_X1_who wd_15_3 5 rfl rfl rfl ⟨by dsimp only; omega, by dsimp only; omega⟩ ⟨rfl, rfl⟩ rfl rfl (Nat.le_of_ble_eq_true rfl) dX9_hearBills_65 ?_
              obtain ⟨hm65, hJ⟩ := gd hJ
              refine sw_iload_n (pc := 68) C 4 dX9_hearBills_68 rfl rfl ?_
              obtain ⟨q69, hq69, hJ⟩ := bind_some hJ
              refine sw_callV_i (pc := 69) C (st := []) (As := [.int v3]) (k_Me_speak C.2.2.2.2.2.2.1 hm65 hq69) pk_X4_speak wd_27_18 (14 + q65) (wC_mem _ hm65) rfl rfl ⟨by dsimp only; omega, by dsimp only; omega⟩ ⟨rfl, rfl⟩ rfl rfl (Nat.le_of_ble_eq_true rfl) dX9_hearBills_69 ?_
              refine sw_istore (pc := 72) C dX9_hearBills_72 (by decide) (ll2 := [(8, .int q69), (7, .int q52), (0, .ref (ad 5)), (1, .int v1), (2, .int v2), (3, .int v3), (4, .int v4), (5, .ref (ad 12)), (6, .int v6)]) rfl ?_
              refine sw_aload_n (pc := 74) C 2 dX9_hearBills_74 rfl rfl ?_
              refine sw_iload (pc := 75) C 1 dX9_hearBills_75 rfl ?_
              refine sw_iload_n (pc := 77) C 4 dX9_hearBills_77 rfl rfl ?_
              refine sw_iconst (pc := 78) C (v := (1 : Int32)) dX9_hearBills_78 (by decide) ?_
              refine sw_iload (pc := 79) C 8 dX9_hearBills_79 rfl ?_
              refine sw_ishl (pc := 81) C dX9_hearBills_81 ?_
              refine sw_iconst (pc := 82) C (v := (-1 : Int32)) dX9_hearBills_82 (by decide) ?_
              refine sw_ixor (pc := 83) C dX9_hearBills_83 ?_
              refine sw_iand (pc := 84) C dX9_hearBills_84 ?_
              refine sw_iload (pc := 85) C 0 dX9_hearBills_85 rfl ?_
              refine sw_iload (pc := 87) C 6 dX9_hearBills_87 rfl ?_
              refine sw_iconst (pc := 89) C (v := (1 : Int32)) dX9_hearBills_89 (by decide) ?_
              refine sw_iadd (pc := 90) C dX9_hearBills_90 ?_
              refine sw_aload (pc := 91) C 7 dX9_hearBills_91 rfl ?_
              obtain ⟨q93, hq93, hJ⟩ := bind_some hJ
              refine sw_callS_v (pc := 93) C (st := []) (As := [.ref (ad 5), .int q52, .int (v2 &&& (((1 : Int32) <<< (v6 &&& 31)) ^^^ (-1 : Int32))), .int q69, .int (v4 + (1 : Int32)), .ref (ad 12)]) (hrc hq93) pk_X9_hearBills wd_27_11 ⟨by dsimp only; omega, by dsimp only; omega⟩ ⟨rfl, rfl⟩ rfl rfl (Nat.le_of_ble_eq_true rfl) dX9_hearBills_93 ?_
              exact sw_sub [2, 3, 4, 5, 6, 7, 8] (by rfl) (t_T_hearBills_96 C hrc ih _ _ _ _ _ _ hJ)
set_option maxHeartbeats 4000000 in
set_option maxRecDepth 100000 in
theorem t_T_hearBills_0 {p : Program} {l : Launch} {e : Env} {s : State} {m : MethodId} {args : Array Value} {below : List Frame} {meth : Method} {c : Code} {D : va_G} {cy : Nat → ClassId} {ad : Nat → Nat} {A : Nat → Prop} (C : Cx p s m args meth c D cy cX9_hearBills 9 RX9 none A (wC cy ad)) {d : Nat} {rc : St → Int32 → Int32 → Int32 → Int32 → Option (St)} {r : St} (hrc : ∀ {X : St} {a1 : Int32} {a2 : Int32} {a3 : Int32} {a4 : Int32} {r2 : St}, rc X a1 a2 a3 a4 = some r2 → Met l yX9_hearBills (wsY yX9_hearBills cX9_hearBills 9 none) ({ frames := 3 + d, cells := 0, slots := 0, locals := 70 + d * 28 } : Room) (prX D cy (wC cy ad) X [.ref (ad 5), .int a1, .int a2, .int a3, .int a4, .ref (ad 12)]) (poV D (wC cy ad) A r2) 0 0 A) : ∀ (X : St) (a1 : Int32) (a2 : Int32) (a3 : Int32) (a4 : Int32), jT_hearBills_0 rc X a1 a2 a3 a4 = some r → SW p l e ({ frames := 3 + (d + 1), cells := 0, slots := 0, locals := 70 + (d + 1) * 28 } : Room) s m args below meth c D 9 A (wC cy ad) (MQ below (poV D (wC cy ad) A r) args s 0 0 A) X [(0, .ref (ad 5)), (1, .int a1), (2, .int a2), (3, .int a3), (4, .int a4), (5, .ref (ad 12))] 0 [] := by
  intro X a1 a2 a3 a4 hJ
  unfold jT_hearBills_0 at hJ
  refine sw_iload_n (pc := 0) C 2 dX9_hearBills_0 rfl rfl ?_
  refine sw_if_ne (pc := 1) (tgt := 11) C dX9_hearBills_1 (by decide) (fun hb1 => ?_) (fun hb1 => ?_)
  · replace hJ := iten hb1 hJ
    refine sw_iconst (pc := 11) C (v := (0 : Int32)) dX9_hearBills_11 (by decide) ?_
    refine sw_istore (pc := 12) C dX9_hearBills_12 (by decide) (ll2 := [(6, .int (0 : Int32)), (0, .ref (ad 5)), (1, .int a1), (2, .int a2), (3, .int a3), (4, .int a4), (5, .ref (ad 12))]) rfl ?_
    exact sw_sub [1, 2, 3, 4, 5, 6, 0] (by rfl) (t_T_hearBills_14 C hrc _ _ _ _ _ _ _ hJ)
  · replace hJ := itep hb1 hJ
    refine sw_aload (pc := 4) C 5 dX9_hearBills_4 rfl ?_
    refine sw_iload_n (pc := 6) C 3 dX9_hearBills_6 rfl rfl ?_
    obtain ⟨q7, hq7, hJ⟩ := bind_some hJ
    refine sw_callV_v (pc := 7) C (st := []) (As := [.int a3]) (k_Bi_add C.2.2.2.2.2.2.1 hq7) pk_X0_add wd_27_14 12 rfl rfl rfl ⟨by dsimp only; omega, by dsimp only; omega⟩ ⟨rfl, rfl⟩ rfl rfl (Nat.le_of_ble_eq_true rfl) dX9_hearBills_7 ?_
    obtain rfl := Option.some.inj hJ
    exact sw_vret (pc := 10) C dX9_hearBills_10
set_option maxHeartbeats 4000000 in
set_option maxRecDepth 100000 in
theorem k_T_hearBills {l : Launch} {D : va_G} {cy : Nat → ClassId} {ad : Nat → Nat} {A : Nat → Prop} (hD : ∀ X, va_D A (wC cy ad X)) : ∀ (d : Nat) {X : St} {a1 : Int32} {a2 : Int32} {a3 : Int32} {a4 : Int32} {r : St}, jT_hearBills d X a1 a2 a3 a4 = some r → Met l yX9_hearBills (wsY yX9_hearBills cX9_hearBills 9 none) ({ frames := 3 + d, cells := 0, slots := 0, locals := 70 + d * 28 } : Room) (prX D cy (wC cy ad) X [.ref (ad 5), .int a1, .int a2, .int a3, .int a4, .ref (ad 12)]) (poV D (wC cy ad) A r) 0 0 A := by
  intro d
  induction d with
  | zero => intro X a1 a2 a3 a4 r hJ; exact absurd (show (none : Option (St)) = some r from hJ) (fun h => by cases h)
  | succ d ih =>
    intro X a1 a2 a3 a4 r hJ
    rw [jT_hearBills] at hJ
    exact sw_met (by decide +kernel) (Nat.le_of_ble_eq_true rfl) hD (fun p e s m args below meth c C => t_T_hearBills_0 C ih _ _ _ _ _ hJ)
set_option maxHeartbeats 4000000 in
set_option maxRecDepth 100000 in
theorem t_T_laws {p : Program} {l : Launch} {e : Env} {s : State} {m : MethodId} {args : Array Value} {below : List Frame} {meth : Method} {c : Code} {D : va_G} {cy : Nat → ClassId} {ad : Nat → Nat} {A : Nat → Prop} (C : Cx p s m args meth c D cy cX9_laws 3 RX9 (some .int) A (wC cy ad)) {r : Int32 × St} : ∀ (X : St) (a1 : Int32) (a2 : Int32), jT_laws X a1 a2 = some r → SW p l e ({ frames := 14, cells := 0, slots := 0, locals := 378 } : Room) s m args below meth c D 3 A (wC cy ad) (MQ below (poI D (wC cy ad) A r.1 r.2) args s 0 0 A) X [(0, .ref (ad 0)), (1, .int a1), (2, .int a2)] 0 [] := by
  intro X a1 a2 hJ
  unfold jT_laws at hJ
  refine sw_aload_n (pc := 0) C 0 dX9_laws_0 rfl rfl ?_
  refine sw_iload_n (pc := 1) C 1 dX9_laws_1 rfl rfl ?_
  obtain ⟨q2, hq2, hJ⟩ := bind_some hJ
  refine sw_callV_i (pc := 2) C (st := []) (As := [.int a1]) (k_T_isSet C.2.2.2.2.2.2.1 hq2) pk_X9_isSet wd_25_23 0 rfl rfl rfl ⟨Nat.le_of_ble_eq_true rfl, Nat.le_of_ble_eq_true rfl⟩ ⟨rfl, rfl⟩ rfl rfl (Nat.le_of_ble_eq_true rfl) dX9_laws_2 ?_
  refine sw_if_eq (pc := 5) (tgt := 17) C dX9_laws_5 (by decide) (fun hb5 => ?_) (fun hb5 => ?_)
  · replace hJ := itep hb5 hJ
    refine sw_bipush (pc := 17) C (v := (-102 : Int32)) dX9_laws_17 (by decide) ?_
    obtain rfl := Option.some.inj hJ
    exact sw_iret (pc := 19) C dX9_laws_19
  · replace hJ := iten hb5 hJ
    refine sw_iload_n (pc := 8) C 2 dX9_laws_8 rfl rfl ?_
    refine sw_iconst (pc := 9) C (v := (0 : Int32)) dX9_laws_9 (by decide) ?_
    refine sw_iconst (pc := 10) C (v := (1 : Int32)) dX9_laws_10 (by decide) ?_
    obtain ⟨q11, hq11, hJ⟩ := bind_some hJ
    refine sw_callS_i (pc := 11) C (st := []) (As := [.int a2, .int (0 : Int32), .int (1 : Int32)]) (k_T_isBetween C.2.2.2.2.2.2.1 hq11) pk_X9_isBetween wd_12_12 ⟨Nat.le_of_ble_eq_true rfl, Nat.le_of_ble_eq_true rfl⟩ ⟨rfl, rfl⟩ rfl rfl (Nat.le_of_ble_eq_true rfl) dX9_laws_11 ?_
    refine sw_if_ne (pc := 14) (tgt := 20) C dX9_laws_14 (by decide) (fun hb14 => ?_) (fun hb14 => ?_)
    · replace hJ := iten hb14 hJ
      refine sw_aload_n (pc := 20) C 0 dX9_laws_20 rfl rfl ?_
      refine gC_0_8 (pc := 21) C wd_25_22 dX9_laws_21 ?_
      refine sw_bipush (pc := 24) C (v := (40 : Int32)) dX9_laws_24 (by decide) ?_
      refine sw_icmp_lt (pc := 26) (tgt := 32) C dX9_laws_26 (by decide) (fun hb26 => ?_) (fun hb26 => ?_)
      · replace hJ := itep hb26 hJ
        refine sw_aload_n (pc := 32) C 0 dX9_laws_32 rfl rfl ?_
        refine sw_dup (pc := 33) C dX9_laws_33 rfl ?_
        refine gC_0_8 (pc := 34) C wd_25_22 dX9_laws_34 ?_
        refine sw_iconst (pc := 37) C (v := (1 : Int32)) dX9_laws_37 (by decide) ?_
        refine sw_iadd (pc := 38) C dX9_laws_38 ?_
        refine pC_0_8 (pc := 39) C wd_25_22 dX9_laws_39 ?_
        refine sw_aload_n (pc := 42) C 0 dX9_laws_42 rfl rfl ?_
        refine gC_0_5 (pc := 43) C wd_2_12 dX9_laws_43 ?_
        obtain ⟨q46, hq46, hJ⟩ := bind_some hJ
        refine sw_callV_v (pc := 46) C (st := []) (As := []) (k_Bi_clear C.2.2.2.2.2.2.1 hq46) pk_X0_clear wd_27_7 12 rfl rfl rfl ⟨Nat.le_of_ble_eq_true rfl, Nat.le_of_ble_eq_true rfl⟩ ⟨rfl, rfl⟩ rfl rfl (Nat.le_of_ble_eq_true rfl) dX9_laws_46 ?_
        refine sw_aload_n (pc := 49) C 0 dX9_laws_49 rfl rfl ?_
        refine gC_0_3 (pc := 50) C wd_2_4 dX9_laws_50 ?_
        refine sw_aload_n (pc := 53) C 0 dX9_laws_53 rfl rfl ?_
        refine gC_0_6 (pc := 54) C wd_15_16 dX9_laws_54 ?_
        refine sw_iload_n (pc := 57) C 1 dX9_laws_57 rfl rfl ?_
        refine sw_aload_n (pc := 58) C 0 dX9_laws_58 rfl rfl ?_
        refine gC_0_3 (pc := 59) C wd_2_4 dX9_laws_59 ?_
        refine sw_aload_n (pc := 62) C 0 dX9_laws_62 rfl rfl ?_
        refine gC_0_6 (pc := 63) C wd_15_16 dX9_laws_63 ?_
        obtain ⟨q66, hq66, hJ⟩ := bind_some hJ
        refine sw_callV_i (pc := 66) C (st := [.int a1, .int (sF q46 6), .ref (ad 5)]) (As := [.int (sF q46 6)]) (k_Ch_billOf C.2.2.2.2.2.2.1 hq66) pk_X1_billOf wd_22_6 5 rfl rfl rfl ⟨Nat.le_of_ble_eq_true rfl, Nat.le_of_ble_eq_true rfl⟩ ⟨rfl, rfl⟩ rfl rfl (Nat.le_of_ble_eq_true rfl) dX9_laws_66 ?_
        refine sw_iconst (pc := 69) C (v := (0 : Int32)) dX9_laws_69 (by decide) ?_
        refine sw_aload_n (pc := 70) C 0 dX9_laws_70 rfl rfl ?_
        refine gC_0_5 (pc := 71) C wd_2_12 dX9_laws_71 ?_
        obtain ⟨q74, hq74, hJ⟩ := bind_some hJ
        refine sw_callS_v (pc := 74) C (st := []) (As := [.ref (ad 5), .int (sF q46 6), .int a1, .int q66, .int (0 : Int32), .ref (ad 12)]) (k_T_hearBills C.2.2.2.2.2.2.1 10 hq74) pk_X9_hearBills wd_27_11 ⟨Nat.le_of_ble_eq_true rfl, Nat.le_of_ble_eq_true rfl⟩ ⟨rfl, rfl⟩ rfl rfl (Nat.le_of_ble_eq_true rfl) dX9_laws_74 ?_
        refine sw_iload_n (pc := 77) C 2 dX9_laws_77 rfl rfl ?_
        refine sw_if_ne (pc := 78) (tgt := 91) C dX9_laws_78 (by decide) (fun hb78 => ?_) (fun hb78 => ?_)
        · replace hJ := iten hb78 hJ
          refine sw_aload_n (pc := 91) C 0 dX9_laws_91 rfl rfl ?_
          refine gC_0_5 (pc := 92) C wd_2_12 dX9_laws_92 ?_
          obtain ⟨q95, hq95, hJ⟩ := bind_some hJ
          refine sw_callV_i (pc := 95) C (st := []) (As := []) (k_Bi_greatest C.2.2.2.2.2.2.1 hq95) pk_X0_greatest wd_28_6 12 rfl rfl rfl ⟨Nat.le_of_ble_eq_true rfl, Nat.le_of_ble_eq_true rfl⟩ ⟨rfl, rfl⟩ rfl rfl (Nat.le_of_ble_eq_true rfl) dX9_laws_95 ?_
          obtain rfl := Option.some.inj hJ
          exact sw_iret (pc := 98) C dX9_laws_98
        · replace hJ := itep hb78 hJ
          refine sw_aload_n (pc := 81) C 0 dX9_laws_81 rfl rfl ?_
          refine gC_0_5 (pc := 82) C wd_2_12 dX9_laws_82 ?_
          obtain ⟨q85, hq85, hJ⟩ := bind_some hJ
          refine sw_callV_i (pc := 85) C (st := []) (As := []) (k_Bi_howMany C.2.2.2.2.2.2.1 hq85) pk_X0_howMany wd_27_19 12 rfl rfl rfl ⟨Nat.le_of_ble_eq_true rfl, Nat.le_of_ble_eq_true rfl⟩ ⟨rfl, rfl⟩ rfl rfl (Nat.le_of_ble_eq_true rfl) dX9_laws_85 ?_
          refine sw_goto (pc := 88) (tgt := 98) C dX9_laws_88 (by decide) ?_
          obtain rfl := Option.some.inj hJ
          exact sw_iret (pc := 98) C dX9_laws_98
      · replace hJ := iten hb26 hJ
        refine sw_bipush (pc := 29) C (v := (-103 : Int32)) dX9_laws_29 (by decide) ?_
        obtain rfl := Option.some.inj hJ
        exact sw_iret (pc := 31) C dX9_laws_31
    · replace hJ := itep hb14 hJ
      refine sw_bipush (pc := 17) C (v := (-102 : Int32)) dX9_laws_17 (by decide) ?_
      obtain rfl := Option.some.inj hJ
      exact sw_iret (pc := 19) C dX9_laws_19
set_option maxHeartbeats 4000000 in
set_option maxRecDepth 100000 in
theorem k_T_laws {l : Launch} {D : va_G} {cy : Nat → ClassId} {ad : Nat → Nat} {A : Nat → Prop} (hD : ∀ X, va_D A (wC cy ad X)) {X : St} {a1 : Int32} {a2 : Int32} {r : Int32 × St} (hJ : jT_laws X a1 a2 = some r) : Met l yX9_laws (wsY yX9_laws cX9_laws 3 (some .int)) ({ frames := 14, cells := 0, slots := 0, locals := 378 } : Room) (prX D cy (wC cy ad) X [.ref (ad 0), .int a1, .int a2]) (poI D (wC cy ad) A r.1 r.2) 0 0 A := sw_met (by decide +kernel) (Nat.le_of_ble_eq_true rfl) hD (fun p e s m args below meth c C => t_T_laws C _ _ _ hJ)
