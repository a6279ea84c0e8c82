set_option maxHeartbeats 4000000 in
set_option maxRecDepth 100000 in
theorem t_Bi_clear_2 {p : Program} {l : Launch} {e : Env} {s : State} {m : MethodId} {args : Array Value} {below : List Frame} {meth : Method} {c : Code} {D : va_G} {cy : Nat → ClassId} {ad : Nat → Nat} {A : Nat → Prop} (C : Cx p s m args meth c D cy cX0_clear 2 RX0 none A (wC cy ad)) {r : St} : ∀ (n : Nat) (X : St) (v1 : Int32), jBi_clear_2 n X v1 = some r → SW p l e ({ frames := 0, cells := 0, slots := 0, locals := 0 } : Room) s m args below meth c D 2 A (wC cy ad) (MQ below (poV D (wC cy ad) A r) args s 0 0 A) X [(0, .ref (ad 12)), (1, .int v1)] 2 [] := by
  intro n
  induction n with
  | zero => intro X v1 hJ; exact absurd (show (none : Option (St)) = some r from hJ) (fun h => by cases h)
  | succ n ih =>
    intro X v1 hJ
    rw [jBi_clear_2] at hJ
    refine sw_iload_n (pc := 2) C 1 dX0_clear_2 rfl rfl ?_
    refine sw_aload_n (pc := 3) C 0 dX0_clear_3 rfl rfl ?_
    refine gC_12_0 (pc := 4) C wd_4_6 dX0_clear_4 ?_
    refine nC_13 (pc := 7) C dX0_clear_7 ?_
    refine sw_icmp_ge (pc := 8) (tgt := 24) C dX0_clear_8 (by decide) (fun hb8 => ?_) (fun hb8 => ?_)
    · replace hJ := itep hb8 hJ
      obtain rfl := Option.some.inj hJ
      exact sw_vret (pc := 24) C dX0_clear_24
    · replace hJ := iten hb8 hJ
      refine sw_aload_n (pc := 11) C 0 dX0_clear_11 rfl rfl ?_
      refine gC_12_0 (pc := 12) C wd_4_6 dX0_clear_12 ?_
      refine sw_iload_n (pc := 15) C 1 dX0_clear_15 rfl rfl ?_
      refine sw_lconst (pc := 16) C (v := (0 : Int64)) dX0_clear_16 (by decide) ?_
      obtain ⟨hi17, hJ⟩ := gd hJ
      refine tC_13 (pc := 17) C hi17 dX0_clear_17 ?_
      refine sw_iinc (pc := 18) C 1 dX0_clear_18 rfl (v := (v1 + (1 : Int32))) (congrArg (fun z => v1 + z) (by decide)) (by decide) (ll2 := [(1, .int (v1 + (1 : Int32))), (0, .ref (ad 12))]) rfl ?_
      refine sw_goto (pc := 21) (tgt := 2) C dX0_clear_21 (by decide) ?_
      exact sw_sub [1, 0] (by rfl) (ih _ _ hJ)
set_option maxHeartbeats 4000000 in
set_option maxRecDepth 100000 in
theorem t_Bi_clear {p : Program} {l : Launch} {e : Env} {s : State} {m : MethodId} {args : Array Value} {below : List Frame} {meth : Method} {c : Code} {D : va_G} {cy : Nat → ClassId} {ad : Nat → Nat} {A : Nat → Prop} (C : Cx p s m args meth c D cy cX0_clear 2 RX0 none A (wC cy ad)) {r : St} : ∀ (X : St), jBi_clear X = some r → SW p l e ({ frames := 0, cells := 0, slots := 0, locals := 0 } : Room) s m args below meth c D 2 A (wC cy ad) (MQ below (poV D (wC cy ad) A r) args s 0 0 A) X [(0, .ref (ad 12))] 0 [] := by
  intro X hJ
  unfold jBi_clear at hJ
  refine sw_iconst (pc := 0) C (v := (0 : Int32)) dX0_clear_0 (by decide) ?_
  refine sw_istore_n (pc := 1) C dX0_clear_1 rfl (by decide) (ll2 := [(1, .int (0 : Int32)), (0, .ref (ad 12))]) rfl ?_
  exact sw_sub [1, 0] (by rfl) (t_Bi_clear_2 C _ _ _ hJ)
set_option maxHeartbeats 4000000 in
set_option maxRecDepth 100000 in
theorem k_Bi_clear {l : Launch} {D : va_G} {cy : Nat → ClassId} {ad : Nat → Nat} {A : Nat → Prop} (hD : ∀ X, va_D A (wC cy ad X)) {X : St}  {r : St} (hJ : jBi_clear X = some r) : Met l yX0_clear (wsY yX0_clear cX0_clear 2 none) ({ frames := 0, cells := 0, slots := 0, locals := 0 } : Room) (prX D cy (wC cy ad) X [.ref (ad 12)]) (poV D (wC cy ad) A r) 0 0 A := sw_met (by decide +kernel) (Nat.le_of_ble_eq_true rfl) hD (fun p e s m args below meth c C => t_Bi_clear C _ hJ)
set_option maxHeartbeats 4000000 in
set_option maxRecDepth 100000 in
theorem t_Bi_add {p : Program} {l : Launch} {e : Env} {s : State} {m : MethodId} {args : Array Value} {below : List Frame} {meth : Method} {c : Code} {D : va_G} {cy : Nat → ClassId} {ad : Nat → Nat} {A : Nat → Prop} (C : Cx p s m args meth c D cy cX0_add 2 RX0 none A (wC cy ad)) {r : St} : ∀ (X : St) (a1 : Int32), jBi_add X a1 = some r → SW p l e ({ frames := 0, cells := 0, slots := 0, locals := 0 } : Room) s m args below meth c D 2 A (wC cy ad) (MQ below (poV D (wC cy ad) A r) args s 0 0 A) X [(0, .ref (ad 12)), (1, .int a1)] 0 [] := by
  intro X a1 hJ
  unfold jBi_add at hJ
  refine sw_iload_n (pc := 0) C 1 dX0_add_0 rfl rfl ?_
  refine sw_if_lt (pc := 1) (tgt := 34) C dX0_add_1 (by decide) (fun hb1 => ?_) (fun hb1 => ?_)
  · replace hJ := itep hb1 hJ
    obtain rfl := Option.some.inj hJ
    exact sw_vret (pc := 34) C dX0_add_34
  · replace hJ := iten hb1 hJ
    refine sw_iload_n (pc := 4) C 1 dX0_add_4 rfl rfl ?_
    refine sw_bipush (pc := 5) C (v := (64 : Int32)) dX0_add_5 (by decide) ?_
    refine sw_idiv (pc := 7) C dX0_add_7 (by decide) ?_
    refine sw_aload_n (pc := 8) C 0 dX0_add_8 rfl rfl ?_
    refine gC_12_0 (pc := 9) C wd_4_6 dX0_add_9 ?_
    refine nC_13 (pc := 12) C dX0_add_12 ?_
    refine sw_icmp_ge (pc := 13) (tgt := 34) C dX0_add_13 (by decide) (fun hb13 => ?_) (fun hb13 => ?_)
    · replace hJ := itep hb13 hJ
      obtain rfl := Option.some.inj hJ
      exact sw_vret (pc := 34) C dX0_add_34
    · replace hJ := iten hb13 hJ
      refine sw_aload_n (pc := 16) C 0 dX0_add_16 rfl rfl ?_
      refine gC_12_0 (pc := 17) C wd_4_6 dX0_add_17 ?_
      refine sw_iload_n (pc := 20) C 1 dX0_add_20 rfl rfl ?_
      refine sw_bipush (pc := 21) C (v := (64 : Int32)) dX0_add_21 (by decide) ?_
      refine sw_idiv (pc := 23) C dX0_add_23 (by decide) ?_
      refine sw_dup2 (pc := 24) C dX0_add_24 rfl rfl ?_
      obtain ⟨hi25, hJ⟩ := gd hJ
      refine lC_13 (pc := 25) C hi25 dX0_add_25 ?_
      refine sw_lconst (pc := 26) C (v := (1 : Int64)) dX0_add_26 (by decide) ?_
      refine sw_iload_n (pc := 27) C 1 dX0_add_27 rfl rfl ?_
      refine sw_bipush (pc := 28) C (v := (64 : Int32)) dX0_add_28 (by decide) ?_
      refine sw_irem (pc := 30) C dX0_add_30 (by decide) ?_
      refine sw_lshl (pc := 31) C dX0_add_31 ?_
      refine sw_lor (pc := 32) C dX0_add_32 ?_
      obtain ⟨hi33, hJ⟩ := gd hJ
      refine tC_13 (pc := 33) C hi33 dX0_add_33 ?_
      obtain rfl := Option.some.inj hJ
      exact sw_vret (pc := 34) C dX0_add_34
set_option maxHeartbeats 4000000 in
set_option maxRecDepth 100000 in
theorem k_Bi_add {l : Launch} {D : va_G} {cy : Nat → ClassId} {ad : Nat → Nat} {A : Nat → Prop} (hD : ∀ X, va_D A (wC cy ad X)) {X : St} {a1 : Int32} {r : St} (hJ : jBi_add X a1 = some r) : Met l yX0_add (wsY yX0_add cX0_add 2 none) ({ frames := 0, cells := 0, slots := 0, locals := 0 } : Room) (prX D cy (wC cy ad) X [.ref (ad 12), .int a1]) (poV D (wC cy ad) A r) 0 0 A := sw_met (by decide +kernel) (Nat.le_of_ble_eq_true rfl) hD (fun p e s m args below meth c C => t_Bi_add C _ _ hJ)
set_option maxHeartbeats 4000000 in
set_option maxRecDepth 100000 in
theorem t_Lo_bitCount {p : Program} {l : Launch} {e : Env} {s : State} {m : MethodId} {args : Array Value} {below : List Frame} {meth : Method} {c : Code} {D : va_G} {cy : Nat → ClassId} {ad : Nat → Nat} {A : Nat → Prop} (C : Cx p s m args meth c D cy cJ13_bitCount_95d88 2 RJ13 (some .int) A (wC cy ad)) {X : St} {r : Int32} : ∀ (a0 : Int64), jLo_bitCount a0 = some r → SW p l e ({ frames := 0, cells := 0, slots := 0, locals := 0 } : Room) s m args below meth c D 2 A (wC cy ad) (MQ below (poI D (wC cy ad) A r X) args s 0 0 A) X [(0, .long a0)] 0 [] := by
  intro a0 hJ
  unfold jLo_bitCount at hJ
  refine sw_lload_n (pc := 0) C 0 dJ13_bitCount_95d88_0 rfl rfl ?_
  refine sw_lload_n (pc := 1) C 0 dJ13_bitCount_95d88_1 rfl rfl ?_
  refine sw_iconst (pc := 2) C (v := (1 : Int32)) dJ13_bitCount_95d88_2 (by decide) ?_
  refine sw_lushr (pc := 3) C dJ13_bitCount_95d88_3 ?_
  refine sw_ldc2 (pc := 4) C (v := (6148914691236517205 : Int64)) wd_28_3 dJ13_bitCount_95d88_4 ?_
  refine sw_land (pc := 7) C dJ13_bitCount_95d88_7 ?_
  refine sw_lsub (pc := 8) C dJ13_bitCount_95d88_8 ?_
  refine sw_lstore_n (pc := 9) C dJ13_bitCount_95d88_9 rfl (by decide) (ll2 := [(0, .long (a0 - ((lush a0 (1 : Int32)) &&& (6148914691236517205 : Int64))))]) rfl ?_
  refine sw_lload_n (pc := 10) C 0 dJ13_bitCount_95d88_10 rfl rfl ?_
  refine sw_ldc2 (pc := 11) C (v := (3689348814741910323 : Int64)) wd_28_4 dJ13_bitCount_95d88_11 ?_
  refine sw_land (pc := 14) C dJ13_bitCount_95d88_14 ?_
  refine sw_lload_n (pc := 15) C 0 dJ13_bitCount_95d88_15 rfl rfl ?_
  refine sw_iconst (pc := 16) C (v := (2 : Int32)) dJ13_bitCount_95d88_16 (by decide) ?_
  refine sw_lushr (pc := 17) C dJ13_bitCount_95d88_17 ?_
  refine sw_ldc2 (pc := 18) C (v := (3689348814741910323 : Int64)) wd_28_4 dJ13_bitCount_95d88_18 ?_
  refine sw_land (pc := 21) C dJ13_bitCount_95d88_21 ?_
  refine sw_ladd (pc := 22) C dJ13_bitCount_95d88_22 ?_
  refine sw_lstore_n (pc := 23) C dJ13_bitCount_95d88_23 rfl (by decide) (ll2 := [(0, .long (((a0 - ((lush a0 (1 : Int32)) &&& (6148914691236517205 : Int64))) &&& (3689348814741910323 : Int64)) + ((lush (a0 - ((lush a0 (1 : Int32)) &&& (6148914691236517205 : Int64))) (2 : Int32)) &&& (3689348814741910323 : Int64))))]) rfl ?_
  refine sw_lload_n (pc := 24) C 0 dJ13_bitCount_95d88_24 rfl rfl ?_
  refine sw_lload_n (pc := 25) C 0 dJ13_bitCount_95d88_25 rfl rfl ?_
  refine sw_iconst (pc := 26) C (v := (4 : Int32)) dJ13_bitCount_95d88_26 (by decide) ?_
  refine sw_lushr (pc := 27) C dJ13_bitCount_95d88_27 ?_
  refine sw_ladd (pc := 28) C dJ13_bitCount_95d88_28 ?_
  refine sw_ldc2 (pc := 29) C (v := (1085102592571150095 : Int64)) wd_28_5 dJ13_bitCount_95d88_29 ?_
  refine sw_land (pc := 32) C dJ13_bitCount_95d88_32 ?_
  refine sw_lstore_n (pc := 33) C dJ13_bitCount_95d88_33 rfl (by decide) (ll2 := [(0, .long (((((a0 - ((lush a0 (1 : Int32)) &&& (6148914691236517205 : Int64))) &&& (3689348814741910323 : Int64)) + ((lush (a0 - ((lush a0 (1 : Int32)) &&& (6148914691236517205 : Int64))) (2 : Int32)) &&& (3689348814741910323 : Int64))) + (lush (((a0 - ((lush a0 (1 : Int32)) &&& (6148914691236517205 : Int64))) &&& (3689348814741910323 : Int64)) + ((lush (a0 - ((lush a0 (1 : Int32)) &&& (6148914691236517205 : Int64))) (2 : Int32)) &&& (3689348814741910323 : Int64))) (4 : Int32))) &&& (1085102592571150095 : Int64)))]) rfl ?_
  refine sw_lload_n (pc := 34) C 0 dJ13_bitCount_95d88_34 rfl rfl ?_
  refine sw_lload_n (pc := 35) C 0 dJ13_bitCount_95d88_35 rfl rfl ?_
  refine sw_bipush (pc := 36) C (v := (8 : Int32)) dJ13_bitCount_95d88_36 (by decide) ?_
  refine sw_lushr (pc := 38) C dJ13_bitCount_95d88_38 ?_
  refine sw_ladd (pc := 39) C dJ13_bitCount_95d88_39 ?_
  refine sw_lstore_n (pc := 40) C dJ13_bitCount_95d88_40 rfl (by decide) (ll2 := [(0, .long ((((((a0 - ((lush a0 (1 : Int32)) &&& (6148914691236517205 : Int64))) &&& (3689348814741910323 : Int64)) + ((lush (a0 - ((lush a0 (1 : Int32)) &&& (6148914691236517205 : Int64))) (2 : Int32)) &&& (3689348814741910323 : Int64))) + (lush (((a0 - ((lush a0 (1 : Int32)) &&& (6148914691236517205 : Int64))) &&& (3689348814741910323 : Int64)) + ((lush (a0 - ((lush a0 (1 : Int32)) &&& (6148914691236517205 : Int64))) (2 : Int32)) &&& (3689348814741910323 : Int64))) (4 : Int32))) &&& (1085102592571150095 : Int64)) + (lush (((((a0 - ((lush a0 (1 : Int32)) &&& (6148914691236517205 : Int64))) &&& (3689348814741910323 : Int64)) + ((lush (a0 - ((lush a0 (1 : Int32)) &&& (6148914691236517205 : Int64))) (2 : Int32)) &&& (3689348814741910323 : Int64))) + (lush (((a0 - ((lush a0 (1 : Int32)) &&& (6148914691236517205 : Int64))) &&& (3689348814741910323 : Int64)) + ((lush (a0 - ((lush a0 (1 : Int32)) &&& (6148914691236517205 : Int64))) (2 : Int32)) &&& (3689348814741910323 : Int64))) (4 : Int32))) &&& (1085102592571150095 : Int64)) (8 : Int32))))]) rfl ?_
  refine sw_lload_n (pc := 41) C 0 dJ13_bitCount_95d88_41 rfl rfl ?_
  refine sw_lload_n (pc := 42) C 0 dJ13_bitCount_95d88_42 rfl rfl ?_
  refine sw_bipush (pc := 43) C (v := (16 : Int32)) dJ13_bitCount_95d88_43 (by decide) ?_
  refine sw_lushr (pc := 45) C dJ13_bitCount_95d88_45 ?_
  refine sw_ladd (pc := 46) C dJ13_bitCount_95d88_46 ?_
  refine sw_lstore_n (pc := 47) C dJ13_bitCount_95d88_47 rfl (by decide) (ll2 := [(0, .long (((((((a0 - ((lush a0 (1 : Int32)) &&& (6148914691236517205 : Int64))) &&& (3689348814741910323 : Int64)) + ((lush (a0 - ((lush a0 (1 : Int32)) &&& (6148914691236517205 : Int64))) (2 : Int32)) &&& (3689348814741910323 : Int64))) + (lush (((a0 - ((lush a0 (1 : Int32)) &&& (6148914691236517205 : Int64))) &&& (3689348814741910323 : Int64)) + ((lush (a0 - ((lush a0 (1 : Int32)) &&& (6148914691236517205 : Int64))) (2 : Int32)) &&& (3689348814741910323 : Int64))) (4 : Int32))) &&& (1085102592571150095 : Int64)) + (lush (((((a0 - ((lush a0 (1 : Int32)) &&& (6148914691236517205 : Int64))) &&& (3689348814741910323 : Int64)) + ((lush (a0 - ((lush a0 (1 : Int32)) &&& (6148914691236517205 : Int64))) (2 : Int32)) &&& (3689348814741910323 : Int64))) + (lush (((a0 - ((lush a0 (1 : Int32)) &&& (6148914691236517205 : Int64))) &&& (3689348814741910323 : Int64)) + ((lush (a0 - ((lush a0 (1 : Int32)) &&& (6148914691236517205 : Int64))) (2 : Int32)) &&& (3689348814741910323 : Int64))) (4 : Int32))) &&& (1085102592571150095 : Int64)) (8 : Int32))) + (lush ((((((a0 - ((lush a0 (1 : Int32)) &&& (6148914691236517205 : Int64))) &&& (3689348814741910323 : Int64)) + ((lush (a0 - ((lush a0 (1 : Int32)) &&& (6148914691236517205 : Int64))) (2 : Int32)) &&& (3689348814741910323 : Int64))) + (lush (((a0 - ((lush a0 (1 : Int32)) &&& (6148914691236517205 : Int64))) &&& (3689348814741910323 : Int64)) + ((lush (a0 - ((lush a0 (1 : Int32)) &&& (6148914691236517205 : Int64))) (2 : Int32)) &&& (3689348814741910323 : Int64))) (4 : Int32))) &&& (1085102592571150095 : Int64)) + (lush (((((a0 - ((lush a0 (1 : Int32)) &&& (6148914691236517205 : Int64))) &&& (3689348814741910323 : Int64)) + ((lush (a0 - ((lush a0 (1 : Int32)) &&& (6148914691236517205 : Int64))) (2 : Int32)) &&& (3689348814741910323 : Int64))) + (lush (((a0 - ((lush a0 (1 : Int32)) &&& (6148914691236517205 : Int64))) &&& (3689348814741910323 : Int64)) + ((lush (a0 - ((lush a0 (1 : Int32)) &&& (6148914691236517205 : Int64))) (2 : Int32)) &&& (3689348814741910323 : Int64))) (4 : Int32))) &&& (1085102592571150095 : Int64)) (8 : Int32))) (16 : Int32))))]) rfl ?_
  refine sw_lload_n (pc := 48) C 0 dJ13_bitCount_95d88_48 rfl rfl ?_
  refine sw_lload_n (pc := 49) C 0 dJ13_bitCount_95d88_49 rfl rfl ?_
  refine sw_bipush (pc := 50) C (v := (32 : Int32)) dJ13_bitCount_95d88_50 (by decide) ?_
  refine sw_lushr (pc := 52) C dJ13_bitCount_95d88_52 ?_
  refine sw_ladd (pc := 53) C dJ13_bitCount_95d88_53 ?_
  refine sw_lstore_n (pc := 54) C dJ13_bitCount_95d88_54 rfl (by decide) (ll2 := [(0, .long ((((((((a0 - ((lush a0 (1 : Int32)) &&& (6148914691236517205 : Int64))) &&& (3689348814741910323 : Int64)) + ((lush (a0 - ((lush a0 (1 : Int32)) &&& (6148914691236517205 : Int64))) (2 : Int32)) &&& (3689348814741910323 : Int64))) + (lush (((a0 - ((lush a0 (1 : Int32)) &&& (6148914691236517205 : Int64))) &&& (3689348814741910323 : Int64)) + ((lush (a0 - ((lush a0 (1 : Int32)) &&& (6148914691236517205 : Int64))) (2 : Int32)) &&& (3689348814741910323 : Int64))) (4 : Int32))) &&& (1085102592571150095 : Int64)) + (lush (((((a0 - ((lush a0 (1 : Int32)) &&& (6148914691236517205 : Int64))) &&& (3689348814741910323 : Int64)) + ((lush (a0 - ((lush a0 (1 : Int32)) &&& (6148914691236517205 : Int64))) (2 : Int32)) &&& (3689348814741910323 : Int64))) + (lush (((a0 - ((lush a0 (1 : Int32)) &&& (6148914691236517205 : Int64))) &&& (3689348814741910323 : Int64)) + ((lush (a0 - ((lush a0 (1 : Int32)) &&& (6148914691236517205 : Int64))) (2 : Int32)) &&& (3689348814741910323 : Int64))) (4 : Int32))) &&& (1085102592571150095 : Int64)) (8 : Int32))) + (lush ((((((a0 - ((lush a0 (1 : Int32)) &&& (6148914691236517205 : Int64))) &&& (3689348814741910323 : Int64)) + ((lush (a0 - ((lush a0 (1 : Int32)) &&& (6148914691236517205 : Int64))) (2 : Int32)) &&& (3689348814741910323 : Int64))) + (lush (((a0 - ((lush a0 (1 : Int32)) &&& (6148914691236517205 : Int64))) &&& (3689348814741910323 : Int64)) + ((lush (a0 - ((lush a0 (1 : Int32)) &&& (6148914691236517205 : Int64))) (2 : Int32)) &&& (3689348814741910323 : Int64))) (4 : Int32))) &&& (1085102592571150095 : Int64)) + (lush (((((a0 - ((lush a0 (1 : Int32)) &&& (6148914691236517205 : Int64))) &&& (3689348814741910323 : Int64)) + ((lush (a0 - ((lush a0 (1 : Int32)) &&& (6148914691236517205 : Int64))) (2 : Int32)) &&& (3689348814741910323 : Int64))) + (lush (((a0 - ((lush a0 (1 : Int32)) &&& (6148914691236517205 : Int64))) &&& (3689348814741910323 : Int64)) + ((lush (a0 - ((lush a0 (1 : Int32)) &&& (6148914691236517205 : Int64))) (2 : Int32)) &&& (3689348814741910323 : Int64))) (4 : Int32))) &&& (1085102592571150095 : Int64)) (8 : Int32))) (16 : Int32))) + (lush (((((((a0 - ((lush a0 (1 : Int32)) &&& (6148914691236517205 : Int64))) &&& (3689348814741910323 : Int64)) + ((lush (a0 - ((lush a0 (1 : Int32)) &&& (6148914691236517205 : Int64))) (2 : Int32)) &&& (3689348814741910323 : Int64))) + (lush (((a0 - ((lush a0 (1 : Int32)) &&& (6148914691236517205 : Int64))) &&& (3689348814741910323 : Int64)) + ((lush (a0 - ((lush a0 (1 : Int32)) &&& (6148914691236517205 : Int64))) (2 : Int32)) &&& (3689348814741910323 : Int64))) (4 : Int32))) &&& (1085102592571150095 : Int64)) + (lush (((((a0 - ((lush a0 (1 : Int32)) &&& (6148914691236517205 : Int64))) &&& (3689348814741910323 : Int64)) + ((lush (a0 - ((lush a0 (1 : Int32)) &&& (6148914691236517205 : Int64))) (2 : Int32)) &&& (3689348814741910323 : Int64))) + (lush (((a0 - ((lush a0 (1 : Int32)) &&& (6148914691236517205 : Int64))) &&& (3689348814741910323 : Int64)) + ((lush (a0 - ((lush a0 (1 : Int32)) &&& (6148914691236517205 : Int64))) (2 : Int32)) &&& (3689348814741910323 : Int64))) (4 : Int32))) &&& (1085102592571150095 : Int64)) (8 : Int32))) + (lush ((((((a0 - ((lush a0 (1 : Int32)) &&& (6148914691236517205 : Int64))) &&& (3689348814741910323 : Int64)) + ((lush (a0 - ((lush a0 (1 : Int32)) &&& (6148914691236517205 : Int64))) (2 : Int32)) &&& (3689348814741910323 : Int64))) + (lush (((a0 - ((lush a0 (1 : Int32)) &&& (6148914691236517205 : Int64))) &&& (3689348814741910323 : Int64)) + ((lush (a0 - ((lush a0 (1 : Int32)) &&& (6148914691236517205 : Int64))) (2 : Int32)) &&& (3689348814741910323 : Int64))) (4 : Int32))) &&& (1085102592571150095 : Int64)) + (lush (((((a0 - ((lush a0 (1 : Int32)) &&& (6148914691236517205 : Int64))) &&& (3689348814741910323 : Int64)) + ((lush (a0 - ((lush a0 (1 : Int32)) &&& (6148914691236517205 : Int64))) (2 : Int32)) &&& (3689348814741910323 : Int64))) + (lush (((a0 - ((lush a0 (1 : Int32)) &&& (6148914691236517205 : Int64))) &&& (3689348814741910323 : Int64)) + ((lush (a0 - ((lush a0 (1 : Int32)) &&& (6148914691236517205 : Int64))) (2 : Int32)) &&& (3689348814741910323 : Int64))) (4 : Int32))) &&& (1085102592571150095 : Int64)) (8 : Int32))) (16 : Int32))) (32 : Int32))))]) rfl ?_
  refine sw_lload_n (pc := 55) C 0 dJ13_bitCount_95d88_55 rfl rfl ?_
  refine sw_l2i (pc := 56) C dJ13_bitCount_95d88_56 ?_
  refine sw_bipush (pc := 57) C (v := (127 : Int32)) dJ13_bitCount_95d88_57 (by decide) ?_
  refine sw_iand (pc := 59) C dJ13_bitCount_95d88_59 ?_
  obtain rfl := Option.some.inj hJ
  exact sw_iret (pc := 60) C dJ13_bitCount_95d88_60
set_option maxHeartbeats 4000000 in
set_option maxRecDepth 100000 in
theorem k_Lo_bitCount {l : Launch} {D : va_G} {cy : Nat → ClassId} {ad : Nat → Nat} {A : Nat → Prop} (hD : ∀ X, va_D A (wC cy ad X)) {X : St} {a0 : Int64} {r : Int32} (hJ : jLo_bitCount a0 = some r) : Met l yJ13_bitCount_95d88 (wsY yJ13_bitCount_95d88 cJ13_bitCount_95d88 2 (some .int)) ({ frames := 0, cells := 0, slots := 0, locals := 0 } : Room) (prX D cy (wC cy ad) X [.long a0]) (poI D (wC cy ad) A r X) 0 0 A := sw_met (by decide +kernel) (Nat.le_of_ble_eq_true rfl) hD (fun p e s m args below meth c C => t_Lo_bitCount C _ hJ)
set_option maxHeartbeats 4000000 in
set_option maxRecDepth 100000 in
theorem t_Bi_howMany_4 {p : Program} {l : Launch} {e : Env} {s : State} {m : MethodId} {args : Array Value} {below : List Frame} {meth : Method} {c : Code} {D : va_G} {cy : Nat → ClassId} {ad : Nat → Nat} {A : Nat → Prop} (C : Cx p s m args meth c D cy cX0_howMany 3 RX0 (some .int) A (wC cy ad)) {X : St} {r : Int32} : ∀ (n : Nat) (v1 : Int32) (v2 : Int32), jBi_howMany_4 X n v1 v2 = some r → SW p l e ({ frames := 1, cells := 0, slots := 0, locals := 21 } : Room) s m args below meth c D 3 A (wC cy ad) (MQ below (poI D (wC cy ad) A r X) args s 0 0 A) X [(0, .ref (ad 12)), (1, .int v1), (2, .int v2)] 4 [] := by
  intro n
  induction n with
  | zero => intro v1 v2 hJ; exact absurd (show (none : Option (Int32)) = some r from hJ) (fun h => by cases h)
  | succ n ih =>
    intro v1 v2 hJ
    rw [jBi_howMany_4] at hJ
    refine sw_iload_n (pc := 4) C 2 dX0_howMany_4 rfl rfl ?_
    refine sw_aload_n (pc := 5) C 0 dX0_howMany_5 rfl rfl ?_
    refine gC_12_0 (pc := 6) C wd_4_6 dX0_howMany_6 ?_
    refine nC_13 (pc := 9) C dX0_howMany_9 ?_
    refine sw_icmp_ge (pc := 10) (tgt := 31) C dX0_howMany_10 (by decide) (fun hb10 => ?_) (fun hb10 => ?_)
    · replace hJ := itep hb10 hJ
      refine sw_iload_n (pc := 31) C 1 dX0_howMany_31 rfl rfl ?_
      obtain rfl := Option.some.inj hJ
      exact sw_iret (pc := 32) C dX0_howMany_32
    · replace hJ := iten hb10 hJ
      refine sw_iload_n (pc := 13) C 1 dX0_howMany_13 rfl rfl ?_
      refine sw_aload_n (pc := 14) C 0 dX0_howMany_14 rfl rfl ?_
      refine gC_12_0 (pc := 15) C wd_4_6 dX0_howMany_15 ?_
      refine sw_iload_n (pc := 18) C 2 dX0_howMany_18 rfl rfl ?_
      obtain ⟨hi19, hJ⟩ := gd hJ
      refine lC_13 (pc := 19) C hi19 dX0_howMany_19 ?_
      obtain ⟨q20, hq20, hJ⟩ := bind_some hJ
      refine sw_callS_i (pc := 20) C (st := [.int v1]) (As := [.long (sB X 13 v2.toNatClampNeg)]) (k_Lo_bitCount C.2.2.2.2.2.2.1 hq20) pk_J13_bitCount_95d88 wd_27_23 ⟨Nat.le_of_ble_eq_true rfl, Nat.le_of_ble_eq_true rfl⟩ ⟨rfl, rfl⟩ rfl rfl (Nat.le_of_ble_eq_true rfl) dX0_howMany_20 ?_
      refine sw_iadd (pc := 23) C dX0_howMany_23 ?_
      refine sw_istore_n (pc := 24) C dX0_howMany_24 rfl (by decide) (ll2 := [(1, .int (v1 + q20)), (0, .ref (ad 12)), (2, .int v2)]) rfl ?_
      refine sw_iinc (pc := 25) C 2 dX0_howMany_25 rfl (v := (v2 + (1 : Int32))) (congrArg (fun z => v2 + z) (by decide)) (by decide) (ll2 := [(2, .int (v2 + (1 : Int32))), (1, .int (v1 + q20)), (0, .ref (ad 12))]) rfl ?_
      refine sw_goto (pc := 28) (tgt := 4) C dX0_howMany_28 (by decide) ?_
      exact sw_sub [2, 1, 0] (by rfl) (ih _ _ hJ)
set_option maxHeartbeats 4000000 in
set_option maxRecDepth 100000 in
theorem t_Bi_howMany {p : Program} {l : Launch} {e : Env} {s : State} {m : MethodId} {args : Array Value} {below : List Frame} {meth : Method} {c : Code} {D : va_G} {cy : Nat → ClassId} {ad : Nat → Nat} {A : Nat → Prop} (C : Cx p s m args meth c D cy cX0_howMany 3 RX0 (some .int) A (wC cy ad)) {X : St} {r : Int32} : jBi_howMany X = some r → SW p l e ({ frames := 1, cells := 0, slots := 0, locals := 21 } : Room) s m args below meth c D 3 A (wC cy ad) (MQ below (poI D (wC cy ad) A r X) args s 0 0 A) X [(0, .ref (ad 12))] 0 [] := by
  intro  hJ
  unfold jBi_howMany at hJ
  refine sw_iconst (pc := 0) C (v := (0 : Int32)) dX0_howMany_0 (by decide) ?_
  refine sw_istore_n (pc := 1) C dX0_howMany_1 rfl (by decide) (ll2 := [(1, .int (0 : Int32)), (0, .ref (ad 12))]) rfl ?_
  refine sw_iconst (pc := 2) C (v := (0 : Int32)) dX0_howMany_2 (by decide) ?_
  refine sw_istore_n (pc := 3) C dX0_howMany_3 rfl (by decide) (ll2 := [(2, .int (0 : Int32)), (1, .int (0 : Int32)), (0, .ref (ad 12))]) rfl ?_
  exact sw_sub [2, 1, 0] (by rfl) (t_Bi_howMany_4 C _ _ _ hJ)
set_option maxHeartbeats 4000000 in
set_option maxRecDepth 100000 in
theorem k_Bi_howMany {l : Launch} {D : va_G} {cy : Nat → ClassId} {ad : Nat → Nat} {A : Nat → Prop} (hD : ∀ X, va_D A (wC cy ad X)) {X : St}  {r : Int32} (hJ : jBi_howMany X = some r) : Met l yX0_howMany (wsY yX0_howMany cX0_howMany 3 (some .int)) ({ frames := 1, cells := 0, slots := 0, locals := 21 } : Room) (prX D cy (wC cy ad) X [.ref (ad 12)]) (poI D (wC cy ad) A r X) 0 0 A := sw_met (by decide +kernel) (Nat.le_of_ble_eq_true rfl) hD (fun p e s m args below meth c C => t_Bi_howMany C hJ)
set_option maxHeartbeats 4000000 in
set_option maxRecDepth 100000 in
theorem t_Int_numberOfLeadingZeros_73 {p : Program} {l : Launch} {e : Env} {s : State} {m : MethodId} {args : Array Value} {below : List Frame} {meth : Method} {c : Code} {D : va_G} {cy : Nat → ClassId} {ad : Nat → Nat} {A : Nat → Prop} (C : Cx p s m args meth c D cy cJ6_numberOfLeadingZeros_0f7a4 2 RJ6 (some .int) A (wC cy ad)) {X : St} {r : Int32} : ∀ (v0 : Int32) (v1 : Int32), jInt_numberOfLeadingZeros_73 v0 v1 = some r → SW p l e ({ frames := 0, cells := 0, slots := 0, locals := 0 } : Room) s m args below meth c D 2 A (wC cy ad) (MQ below (poI D (wC cy ad) A r X) args s 0 0 A) X [(0, .int v0), (1, .int v1)] 73 [] := by
  intro v0 v1 hJ
  unfold jInt_numberOfLeadingZeros_73 at hJ
  refine sw_iload_n (pc := 73) C 1 dJ6_numberOfLeadingZeros_0f7a4_73 rfl rfl ?_
  refine sw_iload_n (pc := 74) C 0 dJ6_numberOfLeadingZeros_0f7a4_74 rfl rfl ?_
  refine sw_iconst (pc := 75) C (v := (1 : Int32)) dJ6_numberOfLeadingZeros_0f7a4_75 (by decide) ?_
  refine sw_iushr (pc := 76) C dJ6_numberOfLeadingZeros_0f7a4_76 ?_
  refine sw_isub (pc := 77) C dJ6_numberOfLeadingZeros_0f7a4_77 ?_
  obtain rfl := Option.some.inj hJ
  exact sw_iret (pc := 78) C dJ6_numberOfLeadingZeros_0f7a4_78
set_option maxHeartbeats 4000000 in
set_option maxRecDepth 100000 in
theorem t_Int_numberOfLeadingZeros_61 {p : Program} {l : Launch} {e : Env} {s : State} {m : MethodId} {args : Array Value} {below : List Frame} {meth : Method} {c : Code} {D : va_G} {cy : Nat → ClassId} {ad : Nat → Nat} {A : Nat → Prop} (C : Cx p s m args meth c D cy cJ6_numberOfLeadingZeros_0f7a4 2 RJ6 (some .int) A (wC cy ad)) {X : St} {r : Int32} : ∀ (v0 : Int32) (v1 : Int32), jInt_numberOfLeadingZeros_61 v0 v1 = some r → SW p l e ({ frames := 0, cells := 0, slots := 0, locals := 0 } : Room) s m args below meth c D 2 A (wC cy ad) (MQ below (poI D (wC cy ad) A r X) args s 0 0 A) X [(0, .int v0), (1, .int v1)] 61 [] := by
  intro v0 v1 hJ
  unfold jInt_numberOfLeadingZeros_61 at hJ
  refine sw_iload_n (pc := 61) C 0 dJ6_numberOfLeadingZeros_0f7a4_61 rfl rfl ?_
  refine sw_iconst (pc := 62) C (v := (4 : Int32)) dJ6_numberOfLeadingZeros_0f7a4_62 (by decide) ?_
  refine sw_icmp_lt (pc := 63) (tgt := 73) C dJ6_numberOfLeadingZeros_0f7a4_63 (by decide) (fun hb63 => ?_) (fun hb63 => ?_)
  · replace hJ := itep hb63 hJ
    exact sw_sub [0, 1] (by rfl) (t_Int_numberOfLeadingZeros_73 C _ _ hJ)
  · replace hJ := iten hb63 hJ
    refine sw_iinc (pc := 66) C 1 dJ6_numberOfLeadingZeros_0f7a4_66 rfl (v := (v1 + (-2 : Int32))) (congrArg (fun z => v1 + z) (by decide)) (by decide) (ll2 := [(1, .int (v1 + (-2 : Int32))), (0, .int v0)]) rfl ?_
    refine sw_iload_n (pc := 69) C 1 dJ6_numberOfLeadingZeros_0f7a4_69 rfl rfl ?_
    refine sw_iconst (pc := 70) C (v := (2 : Int32)) dJ6_numberOfLeadingZeros_0f7a4_70 (by decide) ?_
    refine sw_iushr (pc := 71) C dJ6_numberOfLeadingZeros_0f7a4_71 ?_
    refine sw_istore_n (pc := 72) C dJ6_numberOfLeadingZeros_0f7a4_72 rfl (by decide) (ll2 := [(0, .int (ush v0 (2 : Int32))), (1, .int (v1 + (-2 : Int32)))]) rfl ?_
    exact sw_sub [0, 1] (by rfl) (t_Int_numberOfLeadingZeros_73 C _ _ hJ)
set_option maxHeartbeats 4000000 in
set_option maxRecDepth 100000 in
theorem t_Int_numberOfLeadingZeros_48 {p : Program} {l : Launch} {e : Env} {s : State} {m : MethodId} {args : Array Value} {below : List Frame} {meth : Method} {c : Code} {D : va_G} {cy : Nat → ClassId} {ad : Nat → Nat} {A : Nat → Prop} (C : Cx p s m args meth c D cy cJ6_numberOfLeadingZeros_0f7a4 2 RJ6 (some .int) A (wC cy ad)) {X : St} {r : Int32} : ∀ (v0 : Int32) (v1 : Int32), jInt_numberOfLeadingZeros_48 v0 v1 = some r → SW p l e ({ frames := 0, cells := 0, slots := 0, locals := 0 } : Room) s m args below meth c D 2 A (wC cy ad) (MQ below (poI D (wC cy ad) A r X) args s 0 0 A) X [(0, .int v0), (1, .int v1)] 48 [] := by
  intro v0 v1 hJ
  unfold jInt_numberOfLeadingZeros_48 at hJ
  refine sw_iload_n (pc := 48) C 0 dJ6_numberOfLeadingZeros_0f7a4_48 rfl rfl ?_
  refine sw_bipush (pc := 49) C (v := (16 : Int32)) dJ6_numberOfLeadingZeros_0f7a4_49 (by decide) ?_
  refine sw_icmp_lt (pc := 51) (tgt := 61) C dJ6_numberOfLeadingZeros_0f7a4_51 (by decide) (fun hb51 => ?_) (fun hb51 => ?_)
  · replace hJ := itep hb51 hJ
    exact sw_sub [0, 1] (by rfl) (t_Int_numberOfLeadingZeros_61 C _ _ hJ)
  · replace hJ := iten hb51 hJ
    refine sw_iinc (pc := 54) C 1 dJ6_numberOfLeadingZeros_0f7a4_54 rfl (v := (v1 + (-4 : Int32))) (congrArg (fun z => v1 + z) (by decide)) (by decide) (ll2 := [(1, .int (v1 + (-4 : Int32))), (0, .int v0)]) rfl ?_
    refine sw_iload_n (pc := 57) C 1 dJ6_numberOfLeadingZeros_0f7a4_57 rfl rfl ?_
    refine sw_iconst (pc := 58) C (v := (4 : Int32)) dJ6_numberOfLeadingZeros_0f7a4_58 (by decide) ?_
    refine sw_iushr (pc := 59) C dJ6_numberOfLeadingZeros_0f7a4_59 ?_
    refine sw_istore_n (pc := 60) C dJ6_numberOfLeadingZeros_0f7a4_60 rfl (by decide) (ll2 := [(0, .int (ush v0 (4 : Int32))), (1, .int (v1 + (-4 : Int32)))]) rfl ?_
    exact sw_sub [0, 1] (by rfl) (t_Int_numberOfLeadingZeros_61 C _ _ hJ)
set_option maxHeartbeats 4000000 in
set_option maxRecDepth 100000 in
theorem t_Int_numberOfLeadingZeros_33 {p : Program} {l : Launch} {e : Env} {s : State} {m : MethodId} {args : Array Value} {below : List Frame} {meth : Method} {c : Code} {D : va_G} {cy : Nat → ClassId} {ad : Nat → Nat} {A : Nat → Prop} (C : Cx p s m args meth c D cy cJ6_numberOfLeadingZeros_0f7a4 2 RJ6 (some .int) A (wC cy ad)) {X : St} {r : Int32} : ∀ (v0 : Int32) (v1 : Int32), jInt_numberOfLeadingZeros_33 v0 v1 = some r → SW p l e ({ frames := 0, cells := 0, slots := 0, locals := 0 } : Room) s m args below meth c D 2 A (wC cy ad) (MQ below (poI D (wC cy ad) A r X) args s 0 0 A) X [(0, .int v0), (1, .int v1)] 33 [] := by
  intro v0 v1 hJ
  unfold jInt_numberOfLeadingZeros_33 at hJ
  refine sw_iload_n (pc := 33) C 0 dJ6_numberOfLeadingZeros_0f7a4_33 rfl rfl ?_
  refine sw_sipush (pc := 34) C (v := (256 : Int32)) dJ6_numberOfLeadingZeros_0f7a4_34 (by decide) ?_
  refine sw_icmp_lt (pc := 37) (tgt := 48) C dJ6_numberOfLeadingZeros_0f7a4_37 (by decide) (fun hb37 => ?_) (fun hb37 => ?_)
  · replace hJ := itep hb37 hJ
    exact sw_sub [0, 1] (by rfl) (t_Int_numberOfLeadingZeros_48 C _ _ hJ)
  · replace hJ := iten hb37 hJ
    refine sw_iinc (pc := 40) C 1 dJ6_numberOfLeadingZeros_0f7a4_40 rfl (v := (v1 + (-8 : Int32))) (congrArg (fun z => v1 + z) (by decide)) (by decide) (ll2 := [(1, .int (v1 + (-8 : Int32))), (0, .int v0)]) rfl ?_
    refine sw_iload_n (pc := 43) C 1 dJ6_numberOfLeadingZeros_0f7a4_43 rfl rfl ?_
    refine sw_bipush (pc := 44) C (v := (8 : Int32)) dJ6_numberOfLeadingZeros_0f7a4_44 (by decide) ?_
    refine sw_iushr (pc := 46) C dJ6_numberOfLeadingZeros_0f7a4_46 ?_
    refine sw_istore_n (pc := 47) C dJ6_numberOfLeadingZeros_0f7a4_47 rfl (by decide) (ll2 := [(0, .int (ush v0 (8 : Int32))), (1, .int (v1 + (-8 : Int32)))]) rfl ?_
    exact sw_sub [0, 1] (by rfl) (t_Int_numberOfLeadingZeros_48 C _ _ hJ)
set_option maxHeartbeats 4000000 in
set_option maxRecDepth 100000 in
theorem t_Int_numberOfLeadingZeros {p : Program} {l : Launch} {e : Env} {s : State} {m : MethodId} {args : Array Value} {below : List Frame} {meth : Method} {c : Code} {D : va_G} {cy : Nat → ClassId} {ad : Nat → Nat} {A : Nat → Prop} (C : Cx p s m args meth c D cy cJ6_numberOfLeadingZeros_0f7a4 2 RJ6 (some .int) A (wC cy ad)) {X : St} {r : Int32} : ∀ (a0 : Int32), jInt_numberOfLeadingZeros a0 = some r → SW p l e ({ frames := 0, cells := 0, slots := 0, locals := 0 } : Room) s m args below meth c D 2 A (wC cy ad) (MQ below (poI D (wC cy ad) A r X) args s 0 0 A) X [(0, .int a0)] 0 [] := by
  intro a0 hJ
  unfold jInt_numberOfLeadingZeros at hJ
  refine sw_iload_n (pc := 0) C 0 dJ6_numberOfLeadingZeros_0f7a4_0 rfl rfl ?_
  refine sw_if_gt (pc := 1) (tgt := 15) C dJ6_numberOfLeadingZeros_0f7a4_1 (by decide) (fun hb1 => ?_) (fun hb1 => ?_)
  · replace hJ := itep hb1 hJ
    refine sw_bipush (pc := 15) C (v := (31 : Int32)) dJ6_numberOfLeadingZeros_0f7a4_15 (by decide) ?_
    refine sw_istore_n (pc := 17) C dJ6_numberOfLeadingZeros_0f7a4_17 rfl (by decide) (ll2 := [(1, .int (31 : Int32)), (0, .int a0)]) rfl ?_
    refine sw_iload_n (pc := 18) C 1 dJ6_numberOfLeadingZeros_0f7a4_18 rfl rfl ?_
    refine sw_ldcw (pc := 19) C (v := (65536 : Int32)) wd_28_17 dJ6_numberOfLeadingZeros_0f7a4_19 ?_
    refine sw_icmp_lt (pc := 22) (tgt := 33) C dJ6_numberOfLeadingZeros_0f7a4_22 (by decide) (fun hb22 => ?_) (fun hb22 => ?_)
    · replace hJ := itep hb22 hJ
      exact sw_sub [1, 0] (by rfl) (t_Int_numberOfLeadingZeros_33 C _ _ hJ)
    · replace hJ := iten hb22 hJ
      refine sw_iinc (pc := 25) C 0 dJ6_numberOfLeadingZeros_0f7a4_25 rfl (v := ((31 : Int32) + (-16 : Int32))) (congrArg (fun z => (31 : Int32) + z) (by decide)) (by decide) (ll2 := [(1, .int ((31 : Int32) + (-16 : Int32))), (0, .int a0)]) rfl ?_
      refine sw_iload_n (pc := 28) C 1 dJ6_numberOfLeadingZeros_0f7a4_28 rfl rfl ?_
      refine sw_bipush (pc := 29) C (v := (16 : Int32)) dJ6_numberOfLeadingZeros_0f7a4_29 (by decide) ?_
      refine sw_iushr (pc := 31) C dJ6_numberOfLeadingZeros_0f7a4_31 ?_
      refine sw_istore_n (pc := 32) C dJ6_numberOfLeadingZeros_0f7a4_32 rfl (by decide) (ll2 := [(0, .int (ush a0 (16 : Int32))), (1, .int ((31 : Int32) + (-16 : Int32)))]) rfl ?_
      exact sw_sub [0, 1] (by rfl) (t_Int_numberOfLeadingZeros_33 C _ _ hJ)
  · replace hJ := iten hb1 hJ
    refine sw_iload_n (pc := 4) C 0 dJ6_numberOfLeadingZeros_0f7a4_4 rfl rfl ?_
    refine sw_if_ne (pc := 5) (tgt := 13) C dJ6_numberOfLeadingZeros_0f7a4_5 (by decide) (fun hb5 => ?_) (fun hb5 => ?_)
    · replace hJ := iten hb5 hJ
      refine sw_iconst (pc := 13) C (v := (0 : Int32)) dJ6_numberOfLeadingZeros_0f7a4_13 (by decide) ?_
      obtain rfl := Option.some.inj hJ
      exact sw_iret (pc := 14) C dJ6_numberOfLeadingZeros_0f7a4_14
    · replace hJ := itep hb5 hJ
      refine sw_bipush (pc := 8) C (v := (32 : Int32)) dJ6_numberOfLeadingZeros_0f7a4_8 (by decide) ?_
      refine sw_goto (pc := 10) (tgt := 14) C dJ6_numberOfLeadingZeros_0f7a4_10 (by decide) ?_
      obtain rfl := Option.some.inj hJ
      exact sw_iret (pc := 14) C dJ6_numberOfLeadingZeros_0f7a4_14
set_option maxHeartbeats 4000000 in
set_option maxRecDepth 100000 in
theorem k_Int_numberOfLeadingZeros {l : Launch} {D : va_G} {cy : Nat → ClassId} {ad : Nat → Nat} {A : Nat → Prop} (hD : ∀ X, va_D A (wC cy ad X)) {X : St} {a0 : Int32} {r : Int32} (hJ : jInt_numberOfLeadingZeros a0 = some r) : Met l yJ6_numberOfLeadingZeros_0f7a4 (wsY yJ6_numberOfLeadingZeros_0f7a4 cJ6_numberOfLeadingZeros_0f7a4 2 (some .int)) ({ frames := 0, cells := 0, slots := 0, locals := 0 } : Room) (prX D cy (wC cy ad) X [.int a0]) (poI D (wC cy ad) A r X) 0 0 A := sw_met (by decide +kernel) (Nat.le_of_ble_eq_true rfl) hD (fun p e s m args below meth c C => t_Int_numberOfLeadingZeros C _ hJ)
set_option maxHeartbeats 4000000 in
set_option maxRecDepth 100000 in
theorem t_Lo_numberOfLeadingZeros {p : Program} {l : Launch} {e : Env} {s : State} {m : MethodId} {args : Array Value} {below : List Frame} {meth : Method} {c : Code} {D : va_G} {cy : Nat → ClassId} {ad : Nat → Nat} {A : Nat → Prop} (C : Cx p s m args meth c D cy cJ13_numberOfLeadingZeros_95d88 3 RJ13 (some .int) A (wC cy ad)) {X : St} {r : Int32} : ∀ (a0 : Int64), jLo_numberOfLeadingZeros a0 = some r → SW p l e ({ frames := 1, cells := 0, slots := 0, locals := 21 } : Room) s m args below meth c D 3 A (wC cy ad) (MQ below (poI D (wC cy ad) A r X) args s 0 0 A) X [(0, .long a0)] 0 [] := by
  intro a0 hJ
  unfold jLo_numberOfLeadingZeros at hJ
  refine sw_lload_n (pc := 0) C 0 dJ13_numberOfLeadingZeros_95d88_0 rfl rfl ?_
  refine sw_bipush (pc := 1) C (v := (32 : Int32)) dJ13_numberOfLeadingZeros_95d88_1 (by decide) ?_
  refine sw_lushr (pc := 3) C dJ13_numberOfLeadingZeros_95d88_3 ?_
  refine sw_l2i (pc := 4) C dJ13_numberOfLeadingZeros_95d88_4 ?_
  refine sw_istore_n (pc := 5) C dJ13_numberOfLeadingZeros_95d88_5 rfl (by decide) (ll2 := [(2, .int (lush a0 (32 : Int32)).toInt32), (0, .long a0)]) rfl ?_
  refine sw_iload_n (pc := 6) C 0 dJ13_numberOfLeadingZeros_95d88_6 rfl rfl ?_
  refine sw_if_ne (pc := 7) (tgt := 21) C dJ13_numberOfLeadingZeros_95d88_7 (by decide) (fun hb7 => ?_) (fun hb7 => ?_)
  · replace hJ := iten hb7 hJ
    refine sw_iload_n (pc := 21) C 0 dJ13_numberOfLeadingZeros_95d88_21 rfl rfl ?_
    obtain ⟨q22, hq22, hJ⟩ := bind_some hJ
    refine sw_callS_i (pc := 22) C (st := []) (As := [.int (lush a0 (32 : Int32)).toInt32]) (k_Int_numberOfLeadingZeros C.2.2.2.2.2.2.1 hq22) pk_J6_numberOfLeadingZeros_0f7a4 wd_28_13 ⟨Nat.le_of_ble_eq_true rfl, Nat.le_of_ble_eq_true rfl⟩ ⟨rfl, rfl⟩ rfl rfl (Nat.le_of_ble_eq_true rfl) dJ13_numberOfLeadingZeros_95d88_22 ?_
    obtain rfl := Option.some.inj hJ
    exact sw_iret (pc := 25) C dJ13_numberOfLeadingZeros_95d88_25
  · replace hJ := itep hb7 hJ
    refine sw_bipush (pc := 10) C (v := (32 : Int32)) dJ13_numberOfLeadingZeros_95d88_10 (by decide) ?_
    refine sw_lload_n (pc := 12) C 1 dJ13_numberOfLeadingZeros_95d88_12 rfl rfl ?_
    refine sw_l2i (pc := 13) C dJ13_numberOfLeadingZeros_95d88_13 ?_
    obtain ⟨q14, hq14, hJ⟩ := bind_some hJ
    refine sw_callS_i (pc := 14) C (st := [.int (32 : Int32)]) (As := [.int a0.toInt32]) (k_Int_numberOfLeadingZeros C.2.2.2.2.2.2.1 hq14) pk_J6_numberOfLeadingZeros_0f7a4 wd_28_13 ⟨Nat.le_of_ble_eq_true rfl, Nat.le_of_ble_eq_true rfl⟩ ⟨rfl, rfl⟩ rfl rfl (Nat.le_of_ble_eq_true rfl) dJ13_numberOfLeadingZeros_95d88_14 ?_
    refine sw_iadd (pc := 17) C dJ13_numberOfLeadingZeros_95d88_17 ?_
    refine sw_goto (pc := 18) (tgt := 25) C dJ13_numberOfLeadingZeros_95d88_18 (by decide) ?_
    obtain rfl := Option.some.inj hJ
    exact sw_iret (pc := 25) C dJ13_numberOfLeadingZeros_95d88_25
set_option maxHeartbeats 4000000 in
set_option maxRecDepth 100000 in
theorem k_Lo_numberOfLeadingZeros {l : Launch} {D : va_G} {cy : Nat → ClassId} {ad : Nat → Nat} {A : Nat → Prop} (hD : ∀ X, va_D A (wC cy ad X)) {X : St} {a0 : Int64} {r : Int32} (hJ : jLo_numberOfLeadingZeros a0 = some r) : Met l yJ13_numberOfLeadingZeros_95d88 (wsY yJ13_numberOfLeadingZeros_95d88 cJ13_numberOfLeadingZeros_95d88 3 (some .int)) ({ frames := 1, cells := 0, slots := 0, locals := 21 } : Room) (prX D cy (wC cy ad) X [.long a0]) (poI D (wC cy ad) A r X) 0 0 A := sw_met (by decide +kernel) (Nat.le_of_ble_eq_true rfl) hD (fun p e s m args below meth c C => t_Lo_numberOfLeadingZeros C _ hJ)
set_option maxHeartbeats 4000000 in
set_option maxRecDepth 100000 in
theorem t_Bi_greatest_8 {p : Program} {l : Launch} {e : Env} {s : State} {m : MethodId} {args : Array Value} {below : List Frame} {meth : Method} {c : Code} {D : va_G} {cy : Nat → ClassId} {ad : Nat → Nat} {A : Nat → Prop} (C : Cx p s m args meth c D cy cX0_greatest 2 RX0 (some .int) A (wC cy ad)) {X : St} {r : Int32} : ∀ (n : Nat) (v1 : Int32), jBi_greatest_8 X n v1 = some r → SW p l e ({ frames := 2, cells := 0, slots := 0, locals := 43 } : Room) s m args below meth c D 2 A (wC cy ad) (MQ below (poI D (wC cy ad) A r X) args s 0 0 A) X [(0, .ref (ad 12)), (1, .int v1)] 8 [] := by
  intro n
  induction n with
  | zero => intro v1 hJ; exact absurd (show (none : Option (Int32)) = some r from hJ) (fun h => by cases h)
  | succ n ih =>
    intro v1 hJ
    rw [jBi_greatest_8] at hJ
    refine sw_iload_n (pc := 8) C 1 dX0_greatest_8 rfl rfl ?_
    refine sw_if_lt (pc := 9) (tgt := 48) C dX0_greatest_9 (by decide) (fun hb9 => ?_) (fun hb9 => ?_)
    · replace hJ := itep hb9 hJ
      refine sw_iconst (pc := 48) C (v := (-1 : Int32)) dX0_greatest_48 (by decide) ?_
      obtain rfl := Option.some.inj hJ
      exact sw_iret (pc := 49) C dX0_greatest_49
    · replace hJ := iten hb9 hJ
      refine sw_aload_n (pc := 12) C 0 dX0_greatest_12 rfl rfl ?_
      refine gC_12_0 (pc := 13) C wd_4_6 dX0_greatest_13 ?_
      refine sw_iload_n (pc := 16) C 1 dX0_greatest_16 rfl rfl ?_
      obtain ⟨hi17, hJ⟩ := gd hJ
      refine lC_13 (pc := 17) C hi17 dX0_greatest_17 ?_
      refine sw_lconst (pc := 18) C (v := (0 : Int64)) dX0_greatest_18 (by decide) ?_
      refine sw_lcmp (pc := 19) C dX0_greatest_19 ?_
      refine sw_if_eq (pc := 20) (tgt := 42) C dX0_greatest_20 (by decide) (fun hb20 => ?_) (fun hb20 => ?_)
      · replace hJ := itep hb20 hJ
        refine sw_iinc (pc := 42) C 1 dX0_greatest_42 rfl (v := (v1 + (-1 : Int32))) (congrArg (fun z => v1 + z) (by decide)) (by decide) (ll2 := [(1, .int (v1 + (-1 : Int32))), (0, .ref (ad 12))]) rfl ?_
        refine sw_goto (pc := 45) (tgt := 8) C dX0_greatest_45 (by decide) ?_
        exact sw_sub [1, 0] (by rfl) (ih _ hJ)
      · replace hJ := iten hb20 hJ
        refine sw_iload_n (pc := 23) C 1 dX0_greatest_23 rfl rfl ?_
        refine sw_iconst (pc := 24) C (v := (1 : Int32)) dX0_greatest_24 (by decide) ?_
        refine sw_iadd (pc := 25) C dX0_greatest_25 ?_
        refine sw_bipush (pc := 26) C (v := (64 : Int32)) dX0_greatest_26 (by decide) ?_
        refine sw_imul (pc := 28) C dX0_greatest_28 ?_
        refine sw_iconst (pc := 29) C (v := (1 : Int32)) dX0_greatest_29 (by decide) ?_
        refine sw_isub (pc := 30) C dX0_greatest_30 ?_
        refine sw_aload_n (pc := 31) C 0 dX0_greatest_31 rfl rfl ?_
        refine gC_12_0 (pc := 32) C wd_4_6 dX0_greatest_32 ?_
        refine sw_iload_n (pc := 35) C 1 dX0_greatest_35 rfl rfl ?_
        obtain ⟨hi36, hJ⟩ := gd hJ
        refine lC_13 (pc := 36) C hi36 dX0_greatest_36 ?_
        obtain ⟨q37, hq37, hJ⟩ := bind_some hJ
        refine sw_callS_i (pc := 37) C (st := [.int (((v1 + (1 : Int32)) * (64 : Int32)) - (1 : Int32))]) (As := [.long (sB X 13 v1.toNatClampNeg)]) (k_Lo_numberOfLeadingZeros C.2.2.2.2.2.2.1 hq37) pk_J13_numberOfLeadingZeros_95d88 wd_28_10 ⟨Nat.le_of_ble_eq_true rfl, Nat.le_of_ble_eq_true rfl⟩ ⟨rfl, rfl⟩ rfl rfl (Nat.le_of_ble_eq_true rfl) dX0_greatest_37 ?_
        refine sw_isub (pc := 40) C dX0_greatest_40 ?_
        obtain rfl := Option.some.inj hJ
        exact sw_iret (pc := 41) C dX0_greatest_41
set_option maxHeartbeats 4000000 in
set_option maxRecDepth 100000 in
theorem t_Bi_greatest {p : Program} {l : Launch} {e : Env} {s : State} {m : MethodId} {args : Array Value} {below : List Frame} {meth : Method} {c : Code} {D : va_G} {cy : Nat → ClassId} {ad : Nat → Nat} {A : Nat → Prop} (C : Cx p s m args meth c D cy cX0_greatest 2 RX0 (some .int) A (wC cy ad)) {X : St} {r : Int32} : jBi_greatest X = some r → SW p l e ({ frames := 2, cells := 0, slots := 0, locals := 43 } : Room) s m args below meth c D 2 A (wC cy ad) (MQ below (poI D (wC cy ad) A r X) args s 0 0 A) X [(0, .ref (ad 12))] 0 [] := by
  intro  hJ
  unfold jBi_greatest at hJ
  refine sw_aload_n (pc := 0) C 0 dX0_greatest_0 rfl rfl ?_
  refine gC_12_0 (pc := 1) C wd_4_6 dX0_greatest_1 ?_
  refine nC_13 (pc := 4) C dX0_greatest_4 ?_
  refine sw_iconst (pc := 5) C (v := (1 : Int32)) dX0_greatest_5 (by decide) ?_
  refine sw_isub (pc := 6) C dX0_greatest_6 ?_
  refine sw_istore_n (pc := 7) C dX0_greatest_7 rfl (by decide) (ll2 := [(1, .int ((16 : Int32) - (1 : Int32))), (0, .ref (ad 12))]) rfl ?_
  exact sw_sub [1, 0] (by rfl) (t_Bi_greatest_8 C _ _ hJ)
set_option maxHeartbeats 4000000 in
set_option maxRecDepth 100000 in
theorem k_Bi_greatest {l : Launch} {D : va_G} {cy : Nat → ClassId} {ad : Nat → Nat} {A : Nat → Prop} (hD : ∀ X, va_D A (wC cy ad X)) {X : St}  {r : Int32} (hJ : jBi_greatest X = some r) : Met l yX0_greatest (wsY yX0_greatest cX0_greatest 2 (some .int)) ({ frames := 2, cells := 0, slots := 0, locals := 43 } : Room) (prX D cy (wC cy ad) X [.ref (ad 12)]) (poI D (wC cy ad) A r X) 0 0 A := sw_met (by decide +kernel) (Nat.le_of_ble_eq_true rfl) hD (fun p e s m args below meth c C => t_Bi_greatest C hJ)
set_option maxHeartbeats 4000000 in
set_option maxRecDepth 100000 in
theorem t_Ch_size {p : Program} {l : Launch} {e : Env} {s : State} {m : MethodId} {args : Array Value} {below : List Frame} {meth : Method} {c : Code} {D : va_G} {cy : Nat → ClassId} {ad : Nat → Nat} {A : Nat → Prop} (C : Cx p s m args meth c D cy cX1_size 1 RX1 (some .int) A (wC cy ad)) {X : St} {r : Int32} : jCh_size X = some r → SW p l e ({ frames := 0, cells := 0, slots := 0, locals := 0 } : Room) s m args below meth c D 1 A (wC cy ad) (MQ below (poI D (wC cy ad) A r X) args s 0 0 A) X [(0, .ref (ad 5))] 0 [] := by
  intro  hJ
  unfold jCh_size at hJ
  refine sw_aload_n (pc := 0) C 0 dX1_size_0 rfl rfl ?_
  refine gC_5_4 (pc := 1) C wd_13_5 dX1_size_1 ?_
  obtain rfl := Option.some.inj hJ
  exact sw_iret (pc := 4) C dX1_size_4
set_option maxHeartbeats 4000000 in
set_option maxRecDepth 100000 in
theorem k_Ch_size {l : Launch} {D : va_G} {cy : Nat → ClassId} {ad : Nat → Nat} {A : Nat → Prop} (hD : ∀ X, va_D A (wC cy ad X)) {X : St}  {r : Int32} (hJ : jCh_size X = some r) : Met l yX1_size (wsY yX1_size cX1_size 1 (some .int)) ({ frames := 0, cells := 0, slots := 0, locals := 0 } : Room) (prX D cy (wC cy ad) X [.ref (ad 5)]) (poI D (wC cy ad) A r X) 0 0 A := sw_met (by decide +kernel) (Nat.le_of_ble_eq_true rfl) hD (fun p e s m args below meth c C => t_Ch_size C hJ)
set_option maxHeartbeats 4000000 in
set_option maxRecDepth 100000 in
theorem t_Ch_pairs {p : Program} {l : Launch} {e : Env} {s : State} {m : MethodId} {args : Array Value} {below : List Frame} {meth : Method} {c : Code} {D : va_G} {cy : Nat → ClassId} {ad : Nat → Nat} {A : Nat → Prop} (C : Cx p s m args meth c D cy cX1_pairs 1 RX1 (some .int) A (wC cy ad)) {X : St} {r : Int32} : jCh_pairs X = some r → SW p l e ({ frames := 0, cells := 0, slots := 0, locals := 0 } : Room) s m args below meth c D 1 A (wC cy ad) (MQ below (poI D (wC cy ad) A r X) args s 0 0 A) X [(0, .ref (ad 5))] 0 [] := by
  intro  hJ
  unfold jCh_pairs at hJ
  refine sw_aload_n (pc := 0) C 0 dX1_pairs_0 rfl rfl ?_
  refine gC_5_6 (pc := 1) C wd_11_10 dX1_pairs_1 ?_
  obtain rfl := Option.some.inj hJ
  exact sw_iret (pc := 4) C dX1_pairs_4
set_option maxHeartbeats 4000000 in
set_option maxRecDepth 100000 in
theorem k_Ch_pairs {l : Launch} {D : va_G} {cy : Nat → ClassId} {ad : Nat → Nat} {A : Nat → Prop} (hD : ∀ X, va_D A (wC cy ad X)) {X : St}  {r : Int32} (hJ : jCh_pairs X = some r) : Met l yX1_pairs (wsY yX1_pairs cX1_pairs 1 (some .int)) ({ frames := 0, cells := 0, slots := 0, locals := 0 } : Room) (prX D cy (wC cy ad) X [.ref (ad 5)]) (poI D (wC cy ad) A r X) 0 0 A := sw_met (by decide +kernel) (Nat.le_of_ble_eq_true rfl) hD (fun p e s m args below meth c C => t_Ch_pairs C hJ)
set_option maxHeartbeats 4000000 in
set_option maxRecDepth 100000 in
theorem t_Ch_limit {p : Program} {l : Launch} {e : Env} {s : State} {m : MethodId} {args : Array Value} {below : List Frame} {meth : Method} {c : Code} {D : va_G} {cy : Nat → ClassId} {ad : Nat → Nat} {A : Nat → Prop} (C : Cx p s m args meth c D cy cX1_limit 1 RX1 (some .int) A (wC cy ad)) {X : St} {r : Int32} : jCh_limit X = some r → SW p l e ({ frames := 0, cells := 0, slots := 0, locals := 0 } : Room) s m args below meth c D 1 A (wC cy ad) (MQ below (poI D (wC cy ad) A r X) args s 0 0 A) X [(0, .ref (ad 5))] 0 [] := by
  intro  hJ
  unfold jCh_limit at hJ
  refine sw_aload_n (pc := 0) C 0 dX1_limit_0 rfl rfl ?_
  refine gC_5_7 (pc := 1) C wd_3_14 dX1_limit_1 ?_
  obtain rfl := Option.some.inj hJ
  exact sw_iret (pc := 4) C dX1_limit_4
set_option maxHeartbeats 4000000 in
set_option maxRecDepth 100000 in
theorem k_Ch_limit {l : Launch} {D : va_G} {cy : Nat → ClassId} {ad : Nat → Nat} {A : Nat → Prop} (hD : ∀ X, va_D A (wC cy ad X)) {X : St}  {r : Int32} (hJ : jCh_limit X = some r) : Met l yX1_limit (wsY yX1_limit cX1_limit 1 (some .int)) ({ frames := 0, cells := 0, slots := 0, locals := 0 } : Room) (prX D cy (wC cy ad) X [.ref (ad 5)]) (poI D (wC cy ad) A r X) 0 0 A := sw_met (by decide +kernel) (Nat.le_of_ble_eq_true rfl) hD (fun p e s m args below meth c C => t_Ch_limit C hJ)
set_option maxHeartbeats 4000000 in
set_option maxRecDepth 100000 in
theorem t_Ch_has {p : Program} {l : Launch} {e : Env} {s : State} {m : MethodId} {args : Array Value} {below : List Frame} {meth : Method} {c : Code} {D : va_G} {cy : Nat → ClassId} {ad : Nat → Nat} {A : Nat → Prop} (C : Cx p s m args meth c D cy cX1_has 2 RX1 (some .boolean) A (wC cy ad)) {X : St} {r : Int32} : ∀ (a1 : Int32), jCh_has X a1 = some r → SW p l e ({ frames := 0, cells := 0, slots := 0, locals := 0 } : Room) s m args below meth c D 2 A (wC cy ad) (MQ below (poI D (wC cy ad) A r X) args s 0 0 A) X [(0, .ref (ad 5)), (1, .int a1)] 0 [] := by
  intro a1 hJ
  unfold jCh_has at hJ
  refine sw_iload_n (pc := 0) C 1 dX1_has_0 rfl rfl ?_
  refine sw_if_lt (pc := 1) (tgt := 16) C dX1_has_1 (by decide) (fun hb1 => ?_) (fun hb1 => ?_)
  · replace hJ := itep hb1 hJ
    refine sw_iconst (pc := 16) C (v := (0 : Int32)) dX1_has_16 (by decide) ?_
    obtain rfl := Option.some.inj hJ
    exact sw_zret (pc := 17) (v := (0 : Int32)) C (by decide) dX1_has_17
  · replace hJ := iten hb1 hJ
    refine sw_iload_n (pc := 4) C 1 dX1_has_4 rfl rfl ?_
    refine sw_aload_n (pc := 5) C 0 dX1_has_5 rfl rfl ?_
    refine gC_5_4 (pc := 6) C wd_13_5 dX1_has_6 ?_
    refine sw_icmp_ge (pc := 9) (tgt := 16) C dX1_has_9 (by decide) (fun hb9 => ?_) (fun hb9 => ?_)
    · replace hJ := itep hb9 hJ
      refine sw_iconst (pc := 16) C (v := (0 : Int32)) dX1_has_16 (by decide) ?_
      obtain rfl := Option.some.inj hJ
      exact sw_zret (pc := 17) (v := (0 : Int32)) C (by decide) dX1_has_17
    · replace hJ := iten hb9 hJ
      refine sw_iconst (pc := 12) C (v := (1 : Int32)) dX1_has_12 (by decide) ?_
      refine sw_goto (pc := 13) (tgt := 17) C dX1_has_13 (by decide) ?_
      obtain rfl := Option.some.inj hJ
      exact sw_zret (pc := 17) (v := (1 : Int32)) C (by decide) dX1_has_17
set_option maxHeartbeats 4000000 in
set_option maxRecDepth 100000 in
theorem k_Ch_has {l : Launch} {D : va_G} {cy : Nat → ClassId} {ad : Nat → Nat} {A : Nat → Prop} (hD : ∀ X, va_D A (wC cy ad X)) {X : St} {a1 : Int32} {r : Int32} (hJ : jCh_has X a1 = some r) : Met l yX1_has (wsY yX1_has cX1_has 2 (some .boolean)) ({ frames := 0, cells := 0, slots := 0, locals := 0 } : Room) (prX D cy (wC cy ad) X [.ref (ad 5), .int a1]) (poI D (wC cy ad) A r X) 0 0 A := sw_met (by decide +kernel) (Nat.le_of_ble_eq_true rfl) hD (fun p e s m args below meth c C => t_Ch_has C _ hJ)
set_option maxHeartbeats 4000000 in
set_option maxRecDepth 100000 in
theorem t_Ch_who_22 {p : Program} {l : Launch} {e : Env} {s : State} {m : MethodId} {args : Array Value} {below : List Frame} {meth : Method} {c : Code} {D : va_G} {cy : Nat → ClassId} {ad : Nat → Nat} {A : Nat → Prop} (C : Cx p s m args meth c D cy cX1_who 2 RX1 (some (.object "TopSpeaks$Member")) A (wC cy ad)) {X : St} {r : Nat} : jCh_who_22 X = some r → SW p l e ({ frames := 0, cells := 0, slots := 0, locals := 0 } : Room) s m args below meth c D 2 A (wC cy ad) (MQ below (poR D (wC cy ad) A (ad (14 + r)) X) args s 0 0 A) X [(0, .ref (ad 5))] 22 [] := by
  intro  hJ
  unfold jCh_who_22 at hJ
  refine sw_aload_n (pc := 22) C 0 dX1_who_22 rfl rfl ?_
  refine gC_5_1 (pc := 23) C wd_3_11 dX1_who_23 ?_
  obtain rfl := Option.some.inj hJ
  exact sw_aret (pc := 26) C (Or.inl ⟨_, rfl⟩) dX1_who_26
set_option maxHeartbeats 4000000 in
set_option maxRecDepth 100000 in
theorem t_Ch_who {p : Program} {l : Launch} {e : Env} {s : State} {m : MethodId} {args : Array Value} {below : List Frame} {meth : Method} {c : Code} {D : va_G} {cy : Nat → ClassId} {ad : Nat → Nat} {A : Nat → Prop} (C : Cx p s m args meth c D cy cX1_who 2 RX1 (some (.object "TopSpeaks$Member")) A (wC cy ad)) {X : St} {r : Nat} : ∀ (a1 : Int32), jCh_who X a1 = some r → SW p l e ({ frames := 0, cells := 0, slots := 0, locals := 0 } : Room) s m args below meth c D 2 A (wC cy ad) (MQ below (poR D (wC cy ad) A (ad (14 + r)) X) args s 0 0 A) X [(0, .ref (ad 5)), (1, .int a1)] 0 [] := by
  intro a1 hJ
  unfold jCh_who at hJ
  refine sw_iload_n (pc := 0) C 1 dX1_who_0 rfl rfl ?_
  refine sw_if_lt (pc := 1) (tgt := 22) C dX1_who_1 (by decide) (fun hb1 => ?_) (fun hb1 => ?_)
  · replace hJ := itep hb1 hJ
    exact sw_sub [0] (by rfl) (t_Ch_who_22 C hJ)
  · replace hJ := iten hb1 hJ
    refine sw_iload_n (pc := 4) C 1 dX1_who_4 rfl rfl ?_
    refine sw_aload_n (pc := 5) C 0 dX1_who_5 rfl rfl ?_
    refine gC_5_0 (pc := 6) C wd_3_8 dX1_who_6 ?_
    refine nC_6 (pc := 9) C dX1_who_9 ?_
    refine sw_icmp_ge (pc := 10) (tgt := 22) C dX1_who_10 (by decide) (fun hb10 => ?_) (fun hb10 => ?_)
    · replace hJ := itep hb10 hJ
      exact sw_sub [0] (by rfl) (t_Ch_who_22 C hJ)
    · replace hJ := iten hb10 hJ
      refine sw_aload_n (pc := 13) C 0 dX1_who_13 rfl rfl ?_
      refine gC_5_0 (pc := 14) C wd_3_8 dX1_who_14 ?_
      refine sw_iload_n (pc := 17) C 1 dX1_who_17 rfl rfl ?_
      obtain ⟨hi18, hJ⟩ := gd hJ
      refine lC_6 (pc := 18) C hi18 dX1_who_18 ?_
      refine sw_ifnonnull (pc := 19) (tgt := 27) C dX1_who_19 (by decide) ?_
      refine sw_aload_n (pc := 27) C 0 dX1_who_27 rfl rfl ?_
      refine gC_5_0 (pc := 28) C wd_3_8 dX1_who_28 ?_
      refine sw_iload_n (pc := 31) C 1 dX1_who_31 rfl rfl ?_
      obtain ⟨hi32, hJ⟩ := gd hJ
      refine lC_6 (pc := 32) C hi32 dX1_who_32 ?_
      obtain rfl := Option.some.inj hJ
      exact sw_aret (pc := 33) C (Or.inl ⟨_, rfl⟩) dX1_who_33
set_option maxHeartbeats 4000000 in
set_option maxRecDepth 100000 in
theorem k_Ch_who {l : Launch} {D : va_G} {cy : Nat → ClassId} {ad : Nat → Nat} {A : Nat → Prop} (hD : ∀ X, va_D A (wC cy ad X)) {X : St} {a1 : Int32} {r : Nat} (hJ : jCh_who X a1 = some r) : Met l yX1_who (wsY yX1_who cX1_who 2 (some (.object "TopSpeaks$Member"))) ({ frames := 0, cells := 0, slots := 0, locals := 0 } : Room) (prX D cy (wC cy ad) X [.ref (ad 5), .int a1]) (poR D (wC cy ad) A (ad (14 + r)) X) 0 0 A := sw_met (by decide +kernel) (Nat.le_of_ble_eq_true rfl) hD (fun p e s m args below meth c C => t_Ch_who C _ hJ)
set_option maxHeartbeats 4000000 in
set_option maxRecDepth 100000 in
theorem t_Ch_seatNext {p : Program} {l : Launch} {e : Env} {s : State} {m : MethodId} {args : Array Value} {below : List Frame} {meth : Method} {c : Code} {D : va_G} {cy : Nat → ClassId} {ad : Nat → Nat} {A : Nat → Prop} (C : Cx p s m args meth c D cy cX1_seatNext 2 RX1 (some (.object "TopSpeaks$Member")) A (wC cy ad)) {r : Nat × St} : ∀ (X : St), jCh_seatNext X = some r → SW p l e ({ frames := 1, cells := 0, slots := 0, locals := 21 } : Room) s m args below meth c D 2 A (wC cy ad) (MQ below (poR D (wC cy ad) A (ad (14 + r.1)) r.2) args s 0 0 A) X [(0, .ref (ad 5))] 0 [] := by
  intro X hJ
  unfold jCh_seatNext at hJ
  refine sw_aload_n (pc := 0) C 0 dX1_seatNext_0 rfl rfl ?_
  refine sw_aload_n (pc := 1) C 0 dX1_seatNext_1 rfl rfl ?_
  refine gC_5_4 (pc := 2) C wd_13_5 dX1_seatNext_2 ?_
  obtain ⟨q5, hq5, hJ⟩ := bind_some hJ
  refine sw_callV_r (pc := 5) C (st := []) (As := [.int (sF X 84)]) (k_Ch_who C.2.2.2.2.2.2.1 hq5) pk_X1_who wd_13_14 5 rfl rfl rfl ⟨Nat.le_of_ble_eq_true rfl, Nat.le_of_ble_eq_true rfl⟩ ⟨rfl, rfl⟩ rfl rfl (Nat.le_of_ble_eq_true rfl) dX1_seatNext_5 ?_
  obtain ⟨hm5, hJ⟩ := gd hJ
  refine sw_astore_n (pc := 8) C dX1_seatNext_8 rfl (by decide) (ll2 := [(1, .ref (ad (14 + q5))), (0, .ref (ad 5))]) rfl ?_
  refine sw_aload_n (pc := 9) C 1 dX1_seatNext_9 rfl rfl ?_
  refine sw_aload_n (pc := 10) C 1 dX1_seatNext_10 rfl rfl ?_
  refine gC_5_4 (pc := 11) C wd_13_5 dX1_seatNext_11 ?_
  refine sw_iconst (pc := 14) C (v := (1 : Int32)) dX1_seatNext_14 (by decide) ?_
  refine sw_iadd (pc := 15) C dX1_seatNext_15 ?_
  refine sw_bipush (pc := 16) C (v := (7 : Int32)) dX1_seatNext_16 (by decide) ?_
  refine sw_mmin (pc := 18) C (st := [.ref (ad 5)]) wd_13_10 wd_13_11 wd_13_12 wd_13_13 ⟨Nat.le_of_ble_eq_true rfl, Nat.le_of_ble_eq_true rfl⟩ dX1_seatNext_18 ?_
  refine pC_5_4 (pc := 21) C wd_13_5 dX1_seatNext_21 ?_
  refine sw_aload_n (pc := 24) C 0 dX1_seatNext_24 rfl rfl ?_
  obtain rfl := Option.some.inj hJ
  exact sw_aret (pc := 25) C (Or.inl ⟨_, rfl⟩) dX1_seatNext_25
set_option maxHeartbeats 4000000 in
set_option maxRecDepth 100000 in
theorem k_Ch_seatNext {l : Launch} {D : va_G} {cy : Nat → ClassId} {ad : Nat → Nat} {A : Nat → Prop} (hD : ∀ X, va_D A (wC cy ad X)) {X : St}  {r : Nat × St} (hJ : jCh_seatNext X = some r) : Met l yX1_seatNext (wsY yX1_seatNext cX1_seatNext 2 (some (.object "TopSpeaks$Member"))) ({ frames := 1, cells := 0, slots := 0, locals := 21 } : Room) (prX D cy (wC cy ad) X [.ref (ad 5)]) (poR D (wC cy ad) A (ad (14 + r.1)) r.2) 0 0 A := sw_met (by decide +kernel) (Nat.le_of_ble_eq_true rfl) hD (fun p e s m args below meth c C => t_Ch_seatNext C _ hJ)
set_option maxHeartbeats 4000000 in
set_option maxRecDepth 100000 in
theorem t_Rt_told {p : Program} {l : Launch} {e : Env} {s : State} {m : MethodId} {args : Array Value} {below : List Frame} {meth : Method} {c : Code} {D : va_G} {cy : Nat → ClassId} {ad : Nat → Nat} {A : Nat → Prop} (C : Cx p s m args meth c D cy cX7_told 1 RX7 (some .long) A (wC cy ad)) {X : St} {r : Int64} : jRt_told X = some r → SW p l e ({ frames := 0, cells := 0, slots := 0, locals := 0 } : Room) s m args below meth c D 1 A (wC cy ad) (MQ below (poL D (wC cy ad) A r X) args s 0 0 A) X [(0, .ref (ad 3))] 0 [] := by
  intro  hJ
  unfold jRt_told at hJ
  refine sw_aload_n (pc := 0) C 0 dX7_told_0 rfl rfl ?_
  refine gC_3_2 (pc := 1) C wd_7_21 dX7_told_1 ?_
  obtain rfl := Option.some.inj hJ
  exact sw_lret (pc := 4) C dX7_told_4
set_option maxHeartbeats 4000000 in
set_option maxRecDepth 100000 in
theorem k_Rt_told {l : Launch} {D : va_G} {cy : Nat → ClassId} {ad : Nat → Nat} {A : Nat → Prop} (hD : ∀ X, va_D A (wC cy ad X)) {X : St}  {r : Int64} (hJ : jRt_told X = some r) : Met l yX7_told (wsY yX7_told cX7_told 1 (some .long)) ({ frames := 0, cells := 0, slots := 0, locals := 0 } : Room) (prX D cy (wC cy ad) X [.ref (ad 3)]) (poL D (wC cy ad) A r X) 0 0 A := sw_met (by decide +kernel) (Nat.le_of_ble_eq_true rfl) hD (fun p e s m args below meth c C => t_Rt_told C hJ)
set_option maxHeartbeats 4000000 in
set_option maxRecDepth 100000 in
theorem t_Rt_pairs {p : Program} {l : Launch} {e : Env} {s : State} {m : MethodId} {args : Array Value} {below : List Frame} {meth : Method} {c : Code} {D : va_G} {cy : Nat → ClassId} {ad : Nat → Nat} {A : Nat → Prop} (C : Cx p s m args meth c D cy cX7_pairs 1 RX7 (some .int) A (wC cy ad)) {X : St} {r : Int32} : jRt_pairs X = some r → SW p l e ({ frames := 0, cells := 0, slots := 0, locals := 0 } : Room) s m args below meth c D 1 A (wC cy ad) (MQ below (poI D (wC cy ad) A r X) args s 0 0 A) X [(0, .ref (ad 3))] 0 [] := by
  intro  hJ
  unfold jRt_pairs at hJ
  refine sw_aload_n (pc := 0) C 0 dX7_pairs_0 rfl rfl ?_
  refine gC_3_3 (pc := 1) C wd_7_22 dX7_pairs_1 ?_
  obtain rfl := Option.some.inj hJ
  exact sw_iret (pc := 4) C dX7_pairs_4
set_option maxHeartbeats 4000000 in
set_option maxRecDepth 100000 in
theorem k_Rt_pairs {l : Launch} {D : va_G} {cy : Nat → ClassId} {ad : Nat → Nat} {A : Nat → Prop} (hD : ∀ X, va_D A (wC cy ad X)) {X : St}  {r : Int32} (hJ : jRt_pairs X = some r) : Met l yX7_pairs (wsY yX7_pairs cX7_pairs 1 (some .int)) ({ frames := 0, cells := 0, slots := 0, locals := 0 } : Room) (prX D cy (wC cy ad) X [.ref (ad 3)]) (poI D (wC cy ad) A r X) 0 0 A := sw_met (by decide +kernel) (Nat.le_of_ble_eq_true rfl) hD (fun p e s m args below meth c C => t_Rt_pairs C hJ)
set_option maxHeartbeats 4000000 in
set_option maxRecDepth 100000 in
theorem t_Rt_limit {p : Program} {l : Launch} {e : Env} {s : State} {m : MethodId} {args : Array Value} {below : List Frame} {meth : Method} {c : Code} {D : va_G} {cy : Nat → ClassId} {ad : Nat → Nat} {A : Nat → Prop} (C : Cx p s m args meth c D cy cX7_limit 1 RX7 (some .int) A (wC cy ad)) {X : St} {r : Int32} : jRt_limit X = some r → SW p l e ({ frames := 0, cells := 0, slots := 0, locals := 0 } : Room) s m args below meth c D 1 A (wC cy ad) (MQ below (poI D (wC cy ad) A r X) args s 0 0 A) X [(0, .ref (ad 3))] 0 [] := by
  intro  hJ
  unfold jRt_limit at hJ
  refine sw_aload_n (pc := 0) C 0 dX7_limit_0 rfl rfl ?_
  refine gC_3_4 (pc := 1) C wd_7_23 dX7_limit_1 ?_
  obtain rfl := Option.some.inj hJ
  exact sw_iret (pc := 4) C dX7_limit_4
set_option maxHeartbeats 4000000 in
set_option maxRecDepth 100000 in
theorem k_Rt_limit {l : Launch} {D : va_G} {cy : Nat → ClassId} {ad : Nat → Nat} {A : Nat → Prop} (hD : ∀ X, va_D A (wC cy ad X)) {X : St}  {r : Int32} (hJ : jRt_limit X = some r) : Met l yX7_limit (wsY yX7_limit cX7_limit 1 (some .int)) ({ frames := 0, cells := 0, slots := 0, locals := 0 } : Room) (prX D cy (wC cy ad) X [.ref (ad 3)]) (poI D (wC cy ad) A r X) 0 0 A := sw_met (by decide +kernel) (Nat.le_of_ble_eq_true rfl) hD (fun p e s m args below meth c C => t_Rt_limit C hJ)
set_option maxHeartbeats 4000000 in
set_option maxRecDepth 100000 in
theorem t_Ch_adopt {p : Program} {l : Launch} {e : Env} {s : State} {m : MethodId} {args : Array Value} {below : List Frame} {meth : Method} {c : Code} {D : va_G} {cy : Nat → ClassId} {ad : Nat → Nat} {A : Nat → Prop} (C : Cx p s m args meth c D cy cX1_adopt 2 RX1 none A (wC cy ad)) {r : St} : ∀ (X : St), jCh_adopt X = some r → SW p l e ({ frames := 1, cells := 0, slots := 0, locals := 20 } : Room) s m args below meth c D 2 A (wC cy ad) (MQ below (poV D (wC cy ad) A r) args s 0 0 A) X [(0, .ref (ad 5)), (1, .ref (ad 3))] 0 [] := by
  intro X hJ
  unfold jCh_adopt at hJ
  refine sw_aload_n (pc := 0) C 0 dX1_adopt_0 rfl rfl ?_
  refine sw_aload_n (pc := 1) C 1 dX1_adopt_1 rfl rfl ?_
  obtain ⟨q2, hq2, hJ⟩ := bind_some hJ
  refine sw_callV_l (pc := 2) C (st := [.ref (ad 5)]) (As := []) (k_Rt_told C.2.2.2.2.2.2.1 hq2) pk_X7_told wd_11_11 3 rfl rfl rfl ⟨Nat.le_of_ble_eq_true rfl, Nat.le_of_ble_eq_true rfl⟩ ⟨rfl, rfl⟩ rfl rfl (Nat.le_of_ble_eq_true rfl) dX1_adopt_2 ?_
  refine pC_5_5 (pc := 5) C wd_11_9 dX1_adopt_5 ?_
  refine sw_aload_n (pc := 8) C 0 dX1_adopt_8 rfl rfl ?_
  refine sw_aload_n (pc := 9) C 1 dX1_adopt_9 rfl rfl ?_
  obtain ⟨q10, hq10, hJ⟩ := bind_some hJ
  refine sw_callV_i (pc := 10) C (st := [.ref (ad 5)]) (As := []) (k_Rt_pairs C.2.2.2.2.2.2.1 hq10) pk_X7_pairs wd_11_15 3 rfl rfl rfl ⟨Nat.le_of_ble_eq_true rfl, Nat.le_of_ble_eq_true rfl⟩ ⟨rfl, rfl⟩ rfl rfl (Nat.le_of_ble_eq_true rfl) dX1_adopt_10 ?_
  refine pC_5_6 (pc := 13) C wd_11_10 dX1_adopt_13 ?_
  refine sw_aload_n (pc := 16) C 0 dX1_adopt_16 rfl rfl ?_
  refine sw_aload_n (pc := 17) C 1 dX1_adopt_17 rfl rfl ?_
  obtain ⟨q18, hq18, hJ⟩ := bind_some hJ
  refine sw_callV_i (pc := 18) C (st := [.ref (ad 5)]) (As := []) (k_Rt_limit C.2.2.2.2.2.2.1 hq18) pk_X7_limit wd_11_19 3 rfl rfl rfl ⟨Nat.le_of_ble_eq_true rfl, Nat.le_of_ble_eq_true rfl⟩ ⟨rfl, rfl⟩ rfl rfl (Nat.le_of_ble_eq_true rfl) dX1_adopt_18 ?_
  refine pC_5_7 (pc := 21) C wd_3_14 dX1_adopt_21 ?_
  obtain rfl := Option.some.inj hJ
  exact sw_vret (pc := 24) C dX1_adopt_24
set_option maxHeartbeats 4000000 in
set_option maxRecDepth 100000 in
theorem k_Ch_adopt {l : Launch} {D : va_G} {cy : Nat → ClassId} {ad : Nat → Nat} {A : Nat → Prop} (hD : ∀ X, va_D A (wC cy ad X)) {X : St}  {r : St} (hJ : jCh_adopt X = some r) : Met l yX1_adopt (wsY yX1_adopt cX1_adopt 2 none) ({ frames := 1, cells := 0, slots := 0, locals := 20 } : Room) (prX D cy (wC cy ad) X [.ref (ad 5), .ref (ad 3)]) (poV D (wC cy ad) A r) 0 0 A := sw_met (by decide +kernel) (Nat.le_of_ble_eq_true rfl) hD (fun p e s m args below meth c C => t_Ch_adopt C _ hJ)
set_option maxHeartbeats 4000000 in
set_option maxRecDepth 100000 in
theorem t_Ch_repliesOf {p : Program} {l : Launch} {e : Env} {s : State} {m : MethodId} {args : Array Value} {below : List Frame} {meth : Method} {c : Code} {D : va_G} {cy : Nat → ClassId} {ad : Nat → Nat} {A : Nat → Prop} (C : Cx p s m args meth c D cy cX1_repliesOf 2 RX1 (some .int) A (wC cy ad)) {X : St} {r : Int32} : ∀ (a1 : Int32), jCh_repliesOf X a1 = some r → SW p l e ({ frames := 0, cells := 0, slots := 0, locals := 0 } : Room) s m args below meth c D 2 A (wC cy ad) (MQ below (poI D (wC cy ad) A r X) args s 0 0 A) X [(0, .ref (ad 5)), (1, .int a1)] 0 [] := by
  intro a1 hJ
  unfold jCh_repliesOf at hJ
  refine sw_aload_n (pc := 0) C 0 dX1_repliesOf_0 rfl rfl ?_
  refine gC_5_5 (pc := 1) C wd_11_9 dX1_repliesOf_1 ?_
  refine sw_bipush (pc := 4) C (v := (7 : Int32)) dX1_repliesOf_4 (by decide) ?_
  refine sw_iload_n (pc := 6) C 1 dX1_repliesOf_6 rfl rfl ?_
  refine sw_imul (pc := 7) C dX1_repliesOf_7 ?_
  refine sw_lushr (pc := 8) C dX1_repliesOf_8 ?_
  refine sw_l2i (pc := 9) C dX1_repliesOf_9 ?_
  refine sw_bipush (pc := 10) C (v := (127 : Int32)) dX1_repliesOf_10 (by decide) ?_
  refine sw_iand (pc := 12) C dX1_repliesOf_12 ?_
  obtain rfl := Option.some.inj hJ
  exact sw_iret (pc := 13) C dX1_repliesOf_13
set_option maxHeartbeats 4000000 in
set_option maxRecDepth 100000 in
theorem k_Ch_repliesOf {l : Launch} {D : va_G} {cy : Nat → ClassId} {ad : Nat → Nat} {A : Nat → Prop} (hD : ∀ X, va_D A (wC cy ad X)) {X : St} {a1 : Int32} {r : Int32} (hJ : jCh_repliesOf X a1 = some r) : Met l yX1_repliesOf (wsY yX1_repliesOf cX1_repliesOf 2 (some .int)) ({ frames := 0, cells := 0, slots := 0, locals := 0 } : Room) (prX D cy (wC cy ad) X [.ref (ad 5), .int a1]) (poI D (wC cy ad) A r X) 0 0 A := sw_met (by decide +kernel) (Nat.le_of_ble_eq_true rfl) hD (fun p e s m args below meth c C => t_Ch_repliesOf C _ hJ)
set_option maxHeartbeats 4000000 in
set_option maxRecDepth 100000 in
theorem t_Ro_top {p : Program} {l : Launch} {e : Env} {s : State} {m : MethodId} {args : Array Value} {below : List Frame} {meth : Method} {c : Code} {D : va_G} {cy : Nat → ClassId} {ad : Nat → Nat} {A : Nat → Prop} (C : Cx p s m args meth c D cy cX6_top 1 RX6 (some .int) A (wC cy ad)) {X : St} {r : Int32} : ∀ (a0 : Int32), jRo_top a0 = some r → SW p l e ({ frames := 0, cells := 0, slots := 0, locals := 0 } : Room) s m args below meth c D 1 A (wC cy ad) (MQ below (poI D (wC cy ad) A r X) args s 0 0 A) X [(0, .int a0)] 0 [] := by
  intro a0 hJ
  unfold jRo_top at hJ
  refine sw_iload_n (pc := 0) C 0 dX6_top_0 rfl rfl ?_
  refine sw_bipush (pc := 1) C (v := (7 : Int32)) dX6_top_1 (by decide) ?_
  refine sw_iand (pc := 3) C dX6_top_3 ?_
  refine sw_iconst (pc := 4) C (v := (1 : Int32)) dX6_top_4 (by decide) ?_
  refine sw_isub (pc := 5) C dX6_top_5 ?_
  obtain rfl := Option.some.inj hJ
  exact sw_iret (pc := 6) C dX6_top_6
set_option maxHeartbeats 4000000 in
set_option maxRecDepth 100000 in
theorem k_Ro_top {l : Launch} {D : va_G} {cy : Nat → ClassId} {ad : Nat → Nat} {A : Nat → Prop} (hD : ∀ X, va_D A (wC cy ad X)) {X : St} {a0 : Int32} {r : Int32} (hJ : jRo_top a0 = some r) : Met l yX6_top (wsY yX6_top cX6_top 1 (some .int)) ({ frames := 0, cells := 0, slots := 0, locals := 0 } : Room) (prX D cy (wC cy ad) X [.int a0]) (poI D (wC cy ad) A r X) 0 0 A := sw_met (by decide +kernel) (Nat.le_of_ble_eq_true rfl) hD (fun p e s m args below meth c C => t_Ro_top C _ hJ)
set_option maxHeartbeats 4000000 in
set_option maxRecDepth 100000 in
theorem t_Ro_belowTop {p : Program} {l : Launch} {e : Env} {s : State} {m : MethodId} {args : Array Value} {below : List Frame} {meth : Method} {c : Code} {D : va_G} {cy : Nat → ClassId} {ad : Nat → Nat} {A : Nat → Prop} (C : Cx p s m args meth c D cy cX6_belowTop 1 RX6 (some .int) A (wC cy ad)) {X : St} {r : Int32} : ∀ (a0 : Int32), jRo_belowTop a0 = some r → SW p l e ({ frames := 0, cells := 0, slots := 0, locals := 0 } : Room) s m args below meth c D 1 A (wC cy ad) (MQ below (poI D (wC cy ad) A r X) args s 0 0 A) X [(0, .int a0)] 0 [] := by
  intro a0 hJ
  unfold jRo_belowTop at hJ
  refine sw_iload_n (pc := 0) C 0 dX6_belowTop_0 rfl rfl ?_
  refine sw_iconst (pc := 1) C (v := (3 : Int32)) dX6_belowTop_1 (by decide) ?_
  refine sw_iushr (pc := 2) C dX6_belowTop_2 ?_
  obtain rfl := Option.some.inj hJ
  exact sw_iret (pc := 3) C dX6_belowTop_3
set_option maxHeartbeats 4000000 in
set_option maxRecDepth 100000 in
theorem k_Ro_belowTop {l : Launch} {D : va_G} {cy : Nat → ClassId} {ad : Nat → Nat} {A : Nat → Prop} (hD : ∀ X, va_D A (wC cy ad X)) {X : St} {a0 : Int32} {r : Int32} (hJ : jRo_belowTop a0 = some r) : Met l yX6_belowTop (wsY yX6_belowTop cX6_belowTop 1 (some .int)) ({ frames := 0, cells := 0, slots := 0, locals := 0 } : Room) (prX D cy (wC cy ad) X [.int a0]) (poI D (wC cy ad) A r X) 0 0 A := sw_met (by decide +kernel) (Nat.le_of_ble_eq_true rfl) hD (fun p e s m args below meth c C => t_Ro_belowTop C _ hJ)
set_option maxHeartbeats 4000000 in
set_option maxRecDepth 100000 in
theorem t_Ro_members_6 {p : Program} {l : Launch} {e : Env} {s : State} {m : MethodId} {args : Array Value} {below : List Frame} {meth : Method} {c : Code} {D : va_G} {cy : Nat → ClassId} {ad : Nat → Nat} {A : Nat → Prop} (C : Cx p s m args meth c D cy cX6_members 4 RX6 (some .int) A (wC cy ad)) {X : St} {r : Int32} : ∀ (n : Nat) (v1 : Int32) (v2 : Int32) (v3 : Int32), jRo_members_6 n v1 v2 v3 = some r → SW p l e ({ frames := 1, cells := 0, slots := 0, locals := 20 } : Room) s m args below meth c D 4 A (wC cy ad) (MQ below (poI D (wC cy ad) A r X) args s 0 0 A) X [(1, .int v1), (2, .int v2), (3, .int v3)] 6 [] := by
  intro n
  induction n with
  | zero => intro v1 v2 v3 hJ; exact absurd (show (none : Option (Int32)) = some r from hJ) (fun h => by cases h)
  | succ n ih =>
    intro v1 v2 v3 hJ
    rw [jRo_members_6] at hJ
    refine sw_iload_n (pc := 6) C 2 dX6_members_6 rfl rfl ?_
    refine sw_bipush (pc := 7) C (v := (7 : Int32)) dX6_members_7 (by decide) ?_
    refine sw_icmp_ge (pc := 9) (tgt := 36) C dX6_members_9 (by decide) (fun hb9 => ?_) (fun hb9 => ?_)
    · replace hJ := itep hb9 hJ
      refine sw_iload_n (pc := 36) C 0 dX6_members_36 rfl rfl ?_
      obtain rfl := Option.some.inj hJ
      exact sw_iret (pc := 37) C dX6_members_37
    · replace hJ := iten hb9 hJ
      refine sw_iload_n (pc := 12) C 1 dX6_members_12 rfl rfl ?_
      refine sw_if_eq (pc := 13) (tgt := 36) C dX6_members_13 (by decide) (fun hb13 => ?_) (fun hb13 => ?_)
      · replace hJ := itep hb13 hJ
        refine sw_iload_n (pc := 36) C 0 dX6_members_36 rfl rfl ?_
        obtain rfl := Option.some.inj hJ
        exact sw_iret (pc := 37) C dX6_members_37
      · replace hJ := iten hb13 hJ
        refine sw_iload_n (pc := 16) C 0 dX6_members_16 rfl rfl ?_
        refine sw_iconst (pc := 17) C (v := (1 : Int32)) dX6_members_17 (by decide) ?_
        refine sw_iload_n (pc := 18) C 1 dX6_members_18 rfl rfl ?_
        obtain ⟨q19, hq19, hJ⟩ := bind_some hJ
        refine sw_callS_i (pc := 19) C (st := [.int (1 : Int32), .int v1]) (As := [.int v2]) (k_Ro_top C.2.2.2.2.2.2.1 hq19) pk_X6_top wd_15_23 ⟨Nat.le_of_ble_eq_true rfl, Nat.le_of_ble_eq_true rfl⟩ ⟨rfl, rfl⟩ rfl rfl (Nat.le_of_ble_eq_true rfl) dX6_members_19 ?_
        refine sw_ishl (pc := 22) C dX6_members_22 ?_
        refine sw_ior (pc := 23) C dX6_members_23 ?_
        refine sw_istore_n (pc := 24) C dX6_members_24 rfl (by decide) (ll2 := [(1, .int (v1 ||| ((1 : Int32) <<< (q19 &&& 31)))), (2, .int v2), (3, .int v3)]) rfl ?_
        refine sw_iload_n (pc := 25) C 1 dX6_members_25 rfl rfl ?_
        obtain ⟨q26, hq26, hJ⟩ := bind_some hJ
        refine sw_callS_i (pc := 26) C (st := []) (As := [.int v2]) (k_Ro_belowTop C.2.2.2.2.2.2.1 hq26) pk_X6_belowTop wd_16_2 ⟨Nat.le_of_ble_eq_true rfl, Nat.le_of_ble_eq_true rfl⟩ ⟨rfl, rfl⟩ rfl rfl (Nat.le_of_ble_eq_true rfl) dX6_members_26 ?_
        refine sw_istore_n (pc := 29) C dX6_members_29 rfl (by decide) (ll2 := [(2, .int q26), (1, .int (v1 ||| ((1 : Int32) <<< (q19 &&& 31)))), (3, .int v3)]) rfl ?_
        refine sw_iinc (pc := 30) C 2 dX6_members_30 rfl (v := (v3 + (1 : Int32))) (congrArg (fun z => v3 + z) (by decide)) (by decide) (ll2 := [(3, .int (v3 + (1 : Int32))), (2, .int q26), (1, .int (v1 ||| ((1 : Int32) <<< (q19 &&& 31))))]) rfl ?_
        refine sw_goto (pc := 33) (tgt := 6) C dX6_members_33 (by decide) ?_
        exact sw_sub [2, 1, 0] (by rfl) (ih _ _ _ hJ)
set_option maxHeartbeats 4000000 in
set_option maxRecDepth 100000 in
theorem t_Ro_members {p : Program} {l : Launch} {e : Env} {s : State} {m : MethodId} {args : Array Value} {below : List Frame} {meth : Method} {c : Code} {D : va_G} {cy : Nat → ClassId} {ad : Nat → Nat} {A : Nat → Prop} (C : Cx p s m args meth c D cy cX6_members 4 RX6 (some .int) A (wC cy ad)) {X : St} {r : Int32} : ∀ (a0 : Int32), jRo_members a0 = some r → SW p l e ({ frames := 1, cells := 0, slots := 0, locals := 20 } : Room) s m args below meth c D 4 A (wC cy ad) (MQ below (poI D (wC cy ad) A r X) args s 0 0 A) X [(0, .int a0)] 0 [] := by
  intro a0 hJ
  unfold jRo_members at hJ
  refine sw_iconst (pc := 0) C (v := (0 : Int32)) dX6_members_0 (by decide) ?_
  refine sw_istore_n (pc := 1) C dX6_members_1 rfl (by decide) (ll2 := [(1, .int (0 : Int32)), (0, .int a0)]) rfl ?_
  refine sw_iload_n (pc := 2) C 1 dX6_members_2 rfl rfl ?_
  refine sw_istore_n (pc := 3) C dX6_members_3 rfl (by decide) (ll2 := [(2, .int a0), (1, .int (0 : Int32)), (0, .int a0)]) rfl ?_
  refine sw_iconst (pc := 4) C (v := (0 : Int32)) dX6_members_4 (by decide) ?_
  refine sw_istore_n (pc := 5) C dX6_members_5 rfl (by decide) (ll2 := [(3, .int (0 : Int32)), (2, .int a0), (1, .int (0 : Int32)), (0, .int a0)]) rfl ?_
  exact sw_sub [2, 1, 0] (by rfl) (t_Ro_members_6 C _ _ _ _ hJ)
set_option maxHeartbeats 4000000 in
set_option maxRecDepth 100000 in
theorem k_Ro_members {l : Launch} {D : va_G} {cy : Nat → ClassId} {ad : Nat → Nat} {A : Nat → Prop} (hD : ∀ X, va_D A (wC cy ad X)) {X : St} {a0 : Int32} {r : Int32} (hJ : jRo_members a0 = some r) : Met l yX6_members (wsY yX6_members cX6_members 4 (some .int)) ({ frames := 1, cells := 0, slots := 0, locals := 20 } : Room) (prX D cy (wC cy ad) X [.int a0]) (poI D (wC cy ad) A r X) 0 0 A := sw_met (by decide +kernel) (Nat.le_of_ble_eq_true rfl) hD (fun p e s m args below meth c C => t_Ro_members C _ hJ)
set_option maxHeartbeats 4000000 in
set_option maxRecDepth 100000 in
theorem t_Ch_canRise_29 {p : Program} {l : Launch} {e : Env} {s : State} {m : MethodId} {args : Array Value} {below : List Frame} {meth : Method} {c : Code} {D : va_G} {cy : Nat → ClassId} {ad : Nat → Nat} {A : Nat → Prop} (C : Cx p s m args meth c D cy cX1_canRise 5 RX1 (some .boolean) A (wC cy ad)) {X : St} {r : Int32} : ∀ (v2 : Int32) (v3 : Int32) (s0 : Int32), jCh_canRise_29 X v2 v3 s0 = some r → SW p l e ({ frames := 2, cells := 0, slots := 0, locals := 43 } : Room) s m args below meth c D 5 A (wC cy ad) (MQ below (poI D (wC cy ad) A r X) args s 0 0 A) X [(0, .ref (ad 5)), (2, .int v2), (3, .int v3)] 29 [.int s0] := by
  intro v2 v3 s0 hJ
  unfold jCh_canRise_29 at hJ
  refine sw_istore (pc := 29) C dX1_canRise_29 (by decide) (ll2 := [(4, .int s0), (0, .ref (ad 5)), (2, .int v2), (3, .int v3)]) rfl ?_
  refine sw_iload (pc := 31) C 0 dX1_canRise_31 rfl ?_
  refine sw_if_ne (pc := 33) (tgt := 52) C dX1_canRise_33 (by decide) (fun hb33 => ?_) (fun hb33 => ?_)
  · replace hJ := iten hb33 hJ
    refine sw_iconst (pc := 52) C (v := (0 : Int32)) dX1_canRise_52 (by decide) ?_
    obtain rfl := Option.some.inj hJ
    exact sw_zret (pc := 53) (v := (0 : Int32)) C (by decide) dX1_canRise_53
  · replace hJ := itep hb33 hJ
    refine sw_aload_n (pc := 36) C 1 dX1_canRise_36 rfl rfl ?_
    refine sw_iload_n (pc := 37) C 2 dX1_canRise_37 rfl rfl ?_
    obtain ⟨q38, hq38, hJ⟩ := bind_some hJ
    refine sw_callV_i (pc := 38) C (st := []) (As := [.int v2]) (k_Ch_repliesOf C.2.2.2.2.2.2.1 hq38) pk_X1_repliesOf wd_19_2 5 rfl rfl rfl ⟨Nat.le_of_ble_eq_true rfl, Nat.le_of_ble_eq_true rfl⟩ ⟨rfl, rfl⟩ rfl rfl (Nat.le_of_ble_eq_true rfl) dX1_canRise_38 ?_
    refine sw_iload_n (pc := 41) C 3 dX1_canRise_41 rfl rfl ?_
    refine sw_iconst (pc := 42) C (v := (-1 : Int32)) dX1_canRise_42 (by decide) ?_
    refine sw_ixor (pc := 43) C dX1_canRise_43 ?_
    refine sw_iand (pc := 44) C dX1_canRise_44 ?_
    refine sw_if_ne (pc := 45) (tgt := 52) C dX1_canRise_45 (by decide) (fun hb45 => ?_) (fun hb45 => ?_)
    · replace hJ := iten hb45 hJ
      refine sw_iconst (pc := 52) C (v := (0 : Int32)) dX1_canRise_52 (by decide) ?_
      obtain rfl := Option.some.inj hJ
      exact sw_zret (pc := 53) (v := (0 : Int32)) C (by decide) dX1_canRise_53
    · replace hJ := itep hb45 hJ
      refine sw_iconst (pc := 48) C (v := (1 : Int32)) dX1_canRise_48 (by decide) ?_
      refine sw_goto (pc := 49) (tgt := 53) C dX1_canRise_49 (by decide) ?_
      obtain rfl := Option.some.inj hJ
      exact sw_zret (pc := 53) (v := (1 : Int32)) C (by decide) dX1_canRise_53
set_option maxHeartbeats 4000000 in
set_option maxRecDepth 100000 in
theorem t_Ch_canRise {p : Program} {l : Launch} {e : Env} {s : State} {m : MethodId} {args : Array Value} {below : List Frame} {meth : Method} {c : Code} {D : va_G} {cy : Nat → ClassId} {ad : Nat → Nat} {A : Nat → Prop} (C : Cx p s m args meth c D cy cX1_canRise 5 RX1 (some .boolean) A (wC cy ad)) {X : St} {r : Int32} : ∀ (a1 : Int32) (a2 : Int32), jCh_canRise X a1 a2 = some r → SW p l e ({ frames := 2, cells := 0, slots := 0, locals := 43 } : Room) s m args below meth c D 5 A (wC cy ad) (MQ below (poI D (wC cy ad) A r X) args s 0 0 A) X [(0, .ref (ad 5)), (1, .int a1), (2, .int a2)] 0 [] := by
  intro a1 a2 hJ
  unfold jCh_canRise at hJ
  refine sw_aload_n (pc := 0) C 0 dX1_canRise_0 rfl rfl ?_
  refine sw_iload_n (pc := 1) C 2 dX1_canRise_1 rfl rfl ?_
  obtain ⟨q2, hq2, hJ⟩ := bind_some hJ
  refine sw_callV_i (pc := 2) C (st := []) (As := [.int a2]) (k_Ch_has C.2.2.2.2.2.2.1 hq2) pk_X1_has wd_18_22 5 rfl rfl rfl ⟨Nat.le_of_ble_eq_true rfl, Nat.le_of_ble_eq_true rfl⟩ ⟨rfl, rfl⟩ rfl rfl (Nat.le_of_ble_eq_true rfl) dX1_canRise_2 ?_
  refine sw_if_ne (pc := 5) (tgt := 10) C dX1_canRise_5 (by decide) (fun hb5 => ?_) (fun hb5 => ?_)
  · replace hJ := iten hb5 hJ
    refine sw_iload_n (pc := 10) C 1 dX1_canRise_10 rfl rfl ?_
    obtain ⟨q11, hq11, hJ⟩ := bind_some hJ
    refine sw_callS_i (pc := 11) C (st := []) (As := [.int a1]) (k_Ro_members C.2.2.2.2.2.2.1 hq11) pk_X6_members wd_18_23 ⟨Nat.le_of_ble_eq_true rfl, Nat.le_of_ble_eq_true rfl⟩ ⟨rfl, rfl⟩ rfl rfl (Nat.le_of_ble_eq_true rfl) dX1_canRise_11 ?_
    refine sw_istore_n (pc := 14) C dX1_canRise_14 rfl (by decide) (ll2 := [(3, .int q11), (0, .ref (ad 5)), (1, .int a1), (2, .int a2)]) rfl ?_
    refine sw_iload_n (pc := 15) C 0 dX1_canRise_15 rfl rfl ?_
    refine sw_iload_n (pc := 16) C 3 dX1_canRise_16 rfl rfl ?_
    refine sw_iushr (pc := 17) C dX1_canRise_17 ?_
    refine sw_iconst (pc := 18) C (v := (1 : Int32)) dX1_canRise_18 (by decide) ?_
    refine sw_iand (pc := 19) C dX1_canRise_19 ?_
    refine sw_iconst (pc := 20) C (v := (1 : Int32)) dX1_canRise_20 (by decide) ?_
    refine sw_icmp_ne (pc := 21) (tgt := 28) C dX1_canRise_21 (by decide) (fun hb21 => ?_) (fun hb21 => ?_)
    · replace hJ := iten hb21 hJ
      refine sw_iconst (pc := 28) C (v := (0 : Int32)) dX1_canRise_28 (by decide) ?_
      exact sw_sub [1, 3, 0] (by rfl) (t_Ch_canRise_29 C _ _ _ hJ)
    · replace hJ := itep hb21 hJ
      refine sw_iconst (pc := 24) C (v := (1 : Int32)) dX1_canRise_24 (by decide) ?_
      refine sw_goto (pc := 25) (tgt := 29) C dX1_canRise_25 (by decide) ?_
      exact sw_sub [1, 3, 0] (by rfl) (t_Ch_canRise_29 C _ _ _ hJ)
  · replace hJ := itep hb5 hJ
    refine sw_iconst (pc := 8) C (v := (0 : Int32)) dX1_canRise_8 (by decide) ?_
    obtain rfl := Option.some.inj hJ
    exact sw_zret (pc := 9) (v := (0 : Int32)) C (by decide) dX1_canRise_9
set_option maxHeartbeats 4000000 in
set_option maxRecDepth 100000 in
theorem k_Ch_canRise {l : Launch} {D : va_G} {cy : Nat → ClassId} {ad : Nat → Nat} {A : Nat → Prop} (hD : ∀ X, va_D A (wC cy ad X)) {X : St} {a1 : Int32} {a2 : Int32} {r : Int32} (hJ : jCh_canRise X a1 a2 = some r) : Met l yX1_canRise (wsY yX1_canRise cX1_canRise 5 (some .boolean)) ({ frames := 2, cells := 0, slots := 0, locals := 43 } : Room) (prX D cy (wC cy ad) X [.ref (ad 5), .int a1, .int a2]) (poI D (wC cy ad) A r X) 0 0 A := sw_met (by decide +kernel) (Nat.le_of_ble_eq_true rfl) hD (fun p e s m args below meth c C => t_Ch_canRise C _ _ hJ)
set_option maxHeartbeats 4000000 in
set_option maxRecDepth 100000 in
theorem t_Ro_with {p : Program} {l : Launch} {e : Env} {s : State} {m : MethodId} {args : Array Value} {below : List Frame} {meth : Method} {c : Code} {D : va_G} {cy : Nat → ClassId} {ad : Nat → Nat} {A : Nat → Prop} (C : Cx p s m args meth c D cy cX6_with 2 RX6 (some .int) A (wC cy ad)) {X : St} {r : Int32} : ∀ (a0 : Int32) (a1 : Int32), jRo_with a0 a1 = some r → SW p l e ({ frames := 0, cells := 0, slots := 0, locals := 0 } : Room) s m args below meth c D 2 A (wC cy ad) (MQ below (poI D (wC cy ad) A r X) args s 0 0 A) X [(0, .int a0), (1, .int a1)] 0 [] := by
  intro a0 a1 hJ
  unfold jRo_with at hJ
  refine sw_iload_n (pc := 0) C 0 dX6_with_0 rfl rfl ?_
  refine sw_iconst (pc := 1) C (v := (3 : Int32)) dX6_with_1 (by decide) ?_
  refine sw_ishl (pc := 2) C dX6_with_2 ?_
  refine sw_iload_n (pc := 3) C 1 dX6_with_3 rfl rfl ?_
  refine sw_iconst (pc := 4) C (v := (1 : Int32)) dX6_with_4 (by decide) ?_
  refine sw_iadd (pc := 5) C dX6_with_5 ?_
  refine sw_bipush (pc := 6) C (v := (7 : Int32)) dX6_with_6 (by decide) ?_
  refine sw_iand (pc := 8) C dX6_with_8 ?_
  refine sw_ior (pc := 9) C dX6_with_9 ?_
  obtain rfl := Option.some.inj hJ
  exact sw_iret (pc := 10) C dX6_with_10
set_option maxHeartbeats 4000000 in
set_option maxRecDepth 100000 in
theorem k_Ro_with {l : Launch} {D : va_G} {cy : Nat → ClassId} {ad : Nat → Nat} {A : Nat → Prop} (hD : ∀ X, va_D A (wC cy ad X)) {X : St} {a0 : Int32} {a1 : Int32} {r : Int32} (hJ : jRo_with a0 a1 = some r) : Met l yX6_with (wsY yX6_with cX6_with 2 (some .int)) ({ frames := 0, cells := 0, slots := 0, locals := 0 } : Room) (prX D cy (wC cy ad) X [.int a0, .int a1]) (poI D (wC cy ad) A r X) 0 0 A := sw_met (by decide +kernel) (Nat.le_of_ble_eq_true rfl) hD (fun p e s m args below meth c C => t_Ro_with C _ _ hJ)
set_option maxHeartbeats 4000000 in
set_option maxRecDepth 100000 in
theorem t_Me_loadUnder {p : Program} {l : Launch} {e : Env} {s : State} {m : MethodId} {args : Array Value} {below : List Frame} {meth : Method} {c : Code} {D : va_G} {cy : Nat → ClassId} {ad : Nat → Nat} {A : Nat → Prop} (C : Cx p s m args meth c D cy cX4_loadUnder 2 RX4 (some .int) A (wC cy ad)) {X : St} {i0 : Nat} {r : Int32} (hi0 : i0 < 8) : ∀ (a1 : Int32), jMe_loadUnder X i0 a1 = some r → SW p l e ({ frames := 0, cells := 0, slots := 0, locals := 0 } : Room) s m args below meth c D 2 A (wC cy ad) (MQ below (poI D (wC cy ad) A r X) args s 0 0 A) X [(0, .ref (ad (14 + i0))), (1, .int a1)] 0 [] := by
  intro a1 hJ
  unfold jMe_loadUnder at hJ
  refine sw_aload_n (pc := 0) C 0 dX4_loadUnder_0 rfl rfl ?_
  refine gC_m_8 (pc := 1) C (i := i0) hi0 wd_14_1 dX4_loadUnder_1 ?_
  refine sw_if_eq (pc := 4) (tgt := 15) C dX4_loadUnder_4 (by decide) (fun hb4 => ?_) (fun hb4 => ?_)
  · replace hJ := itep hb4 hJ
    refine sw_iload_n (pc := 15) C 1 dX4_loadUnder_15 rfl rfl ?_
    obtain rfl := Option.some.inj hJ
    exact sw_iret (pc := 16) C dX4_loadUnder_16
  · replace hJ := iten hb4 hJ
    refine sw_iload_n (pc := 7) C 1 dX4_loadUnder_7 rfl rfl ?_
    refine sw_iconst (pc := 8) C (v := (1 : Int32)) dX4_loadUnder_8 (by decide) ?_
    refine sw_iadd (pc := 9) C dX4_loadUnder_9 ?_
    refine sw_iconst (pc := 10) C (v := (2 : Int32)) dX4_loadUnder_10 (by decide) ?_
    refine sw_idiv (pc := 11) C dX4_loadUnder_11 (by decide) ?_
    refine sw_goto (pc := 12) (tgt := 16) C dX4_loadUnder_12 (by decide) ?_
    obtain rfl := Option.some.inj hJ
    exact sw_iret (pc := 16) C dX4_loadUnder_16
set_option maxHeartbeats 4000000 in
set_option maxRecDepth 100000 in
theorem k_Me_loadUnder {l : Launch} {D : va_G} {cy : Nat → ClassId} {ad : Nat → Nat} {A : Nat → Prop} (hD : ∀ X, va_D A (wC cy ad X)) {X : St} {i0 : Nat} {a1 : Int32} {r : Int32} (hi0 : i0 < 8) (hJ : jMe_loadUnder X i0 a1 = some r) : Met l yX4_loadUnder (wsY yX4_loadUnder cX4_loadUnder 2 (some .int)) ({ frames := 0, cells := 0, slots := 0, locals := 0 } : Room) (prX D cy (wC cy ad) X [.ref (ad (14 + i0)), .int a1]) (poI D (wC cy ad) A r X) 0 0 A := sw_met (by decide +kernel) (Nat.le_of_ble_eq_true rfl) hD (fun p e s m args below meth c C => t_Me_loadUnder C hi0 _ hJ)
set_option maxHeartbeats 4000000 in
set_option maxRecDepth 100000 in
theorem t_Me_canBear {p : Program} {l : Launch} {e : Env} {s : State} {m : MethodId} {args : Array Value} {below : List Frame} {meth : Method} {c : Code} {D : va_G} {cy : Nat → ClassId} {ad : Nat → Nat} {A : Nat → Prop} (C : Cx p s m args meth c D cy cX4_canBear 1 RX4 (some .int) A (wC cy ad)) {X : St} {i0 : Nat} {r : Int32} (hi0 : i0 < 8) : jMe_canBear X i0 = some r → SW p l e ({ frames := 0, cells := 0, slots := 0, locals := 0 } : Room) s m args below meth c D 1 A (wC cy ad) (MQ below (poI D (wC cy ad) A r X) args s 0 0 A) X [(0, .ref (ad (14 + i0)))] 0 [] := by
  intro  hJ
  unfold jMe_canBear at hJ
  refine sw_aload_n (pc := 0) C 0 dX4_canBear_0 rfl rfl ?_
  refine gC_m_4 (pc := 1) C (i := i0) hi0 wd_16_9 dX4_canBear_1 ?_
  refine sw_aload_n (pc := 4) C 0 dX4_canBear_4 rfl rfl ?_
  refine gC_m_10 (pc := 5) C (i := i0) hi0 wd_14_3 dX4_canBear_5 ?_
  refine sw_iadd (pc := 8) C dX4_canBear_8 ?_
  obtain rfl := Option.some.inj hJ
  exact sw_iret (pc := 9) C dX4_canBear_9
set_option maxHeartbeats 4000000 in
set_option maxRecDepth 100000 in
theorem k_Me_canBear {l : Launch} {D : va_G} {cy : Nat → ClassId} {ad : Nat → Nat} {A : Nat → Prop} (hD : ∀ X, va_D A (wC cy ad X)) {X : St} {i0 : Nat}  {r : Int32} (hi0 : i0 < 8) (hJ : jMe_canBear X i0 = some r) : Met l yX4_canBear (wsY yX4_canBear cX4_canBear 1 (some .int)) ({ frames := 0, cells := 0, slots := 0, locals := 0 } : Room) (prX D cy (wC cy ad) X [.ref (ad (14 + i0))]) (poI D (wC cy ad) A r X) 0 0 A := sw_met (by decide +kernel) (Nat.le_of_ble_eq_true rfl) hD (fun p e s m args below meth c C => t_Me_canBear C hi0 hJ)
set_option maxHeartbeats 4000000 in
set_option maxRecDepth 100000 in
theorem t_Ch_holds_80 {p : Program} {l : Launch} {e : Env} {s : State} {m : MethodId} {args : Array Value} {below : List Frame} {meth : Method} {c : Code} {D : va_G} {cy : Nat → ClassId} {ad : Nat → Nat} {A : Nat → Prop} (C : Cx p s m args meth c D cy cX1_holds 7 RX1 (some .boolean) A (wC cy ad)) {X : St} {r : Int32} : ∀ (v2 : Int32), jCh_holds_80 X v2 = some r → SW p l e ({ frames := 1, cells := 0, slots := 0, locals := 21 } : Room) s m args below meth c D 7 A (wC cy ad) (MQ below (poI D (wC cy ad) A r X) args s 0 0 A) X [(0, .ref (ad 5)), (2, .int v2)] 80 [] := by
  intro v2 hJ
  unfold jCh_holds_80 at hJ
  refine sw_iload_n (pc := 80) C 1 dX1_holds_80 rfl rfl ?_
  refine sw_mabs (pc := 81) C (st := []) wd_20_4 wd_20_5 wd_13_12 wd_20_6 ⟨Nat.le_of_ble_eq_true rfl, Nat.le_of_ble_eq_true rfl⟩ dX1_holds_81 ?_
  refine sw_aload_n (pc := 84) C 0 dX1_holds_84 rfl rfl ?_
  refine gC_5_7 (pc := 85) C wd_3_14 dX1_holds_85 ?_
  refine sw_icmp_gt (pc := 88) (tgt := 95) C dX1_holds_88 (by decide) (fun hb88 => ?_) (fun hb88 => ?_)
  · replace hJ := itep hb88 hJ
    refine sw_iconst (pc := 95) C (v := (0 : Int32)) dX1_holds_95 (by decide) ?_
    obtain rfl := Option.some.inj hJ
    exact sw_zret (pc := 96) (v := (0 : Int32)) C (by decide) dX1_holds_96
  · replace hJ := iten hb88 hJ
    refine sw_iconst (pc := 91) C (v := (1 : Int32)) dX1_holds_91 (by decide) ?_
    refine sw_goto (pc := 92) (tgt := 96) C dX1_holds_92 (by decide) ?_
    obtain rfl := Option.some.inj hJ
    exact sw_zret (pc := 96) (v := (1 : Int32)) C (by decide) dX1_holds_96
set_option maxHeartbeats 4000000 in
set_option maxRecDepth 100000 in
theorem t_Ch_holds_10 {p : Program} {l : Launch} {e : Env} {s : State} {m : MethodId} {args : Array Value} {below : List Frame} {meth : Method} {c : Code} {D : va_G} {cy : Nat → ClassId} {ad : Nat → Nat} {A : Nat → Prop} (C : Cx p s m args meth c D cy cX1_holds 7 RX1 (some .boolean) A (wC cy ad)) {X : St} {r : Int32} : ∀ (n : Nat) (v2 : Int32) (v3 : Int32) (v4 : Int32) (v5 : Int32), jCh_holds_10 X n v2 v3 v4 v5 = some r → SW p l e ({ frames := 1, cells := 0, slots := 0, locals := 21 } : Room) s m args below meth c D 7 A (wC cy ad) (MQ below (poI D (wC cy ad) A r X) args s 0 0 A) X [(0, .ref (ad 5)), (2, .int v2), (3, .int v3), (4, .int v4), (5, .int v5)] 10 [] := by
  intro n
  induction n with
  | zero => intro v2 v3 v4 v5 hJ; exact absurd (show (none : Option (Int32)) = some r from hJ) (fun h => by cases h)
  | succ n ih =>
    intro v2 v3 v4 v5 hJ
    rw [jCh_holds_10] at hJ
    refine sw_iload (pc := 10) C 4 dX1_holds_10 rfl ?_
    refine sw_bipush (pc := 12) C (v := (7 : Int32)) dX1_holds_12 (by decide) ?_
    refine sw_icmp_ge (pc := 14) (tgt := 80) C dX1_holds_14 (by decide) (fun hb14 => ?_) (fun hb14 => ?_)
    · replace hJ := itep hb14 hJ
      exact sw_sub [0, 1] (by rfl) (t_Ch_holds_80 C _ hJ)
    · replace hJ := iten hb14 hJ
      refine sw_iload (pc := 17) C 3 dX1_holds_17 rfl ?_
      refine sw_if_eq (pc := 19) (tgt := 80) C dX1_holds_19 (by decide) (fun hb19 => ?_) (fun hb19 => ?_)
      · replace hJ := itep hb19 hJ
        exact sw_sub [0, 1] (by rfl) (t_Ch_holds_80 C _ hJ)
      · replace hJ := iten hb19 hJ
        refine sw_aload_n (pc := 22) C 0 dX1_holds_22 rfl rfl ?_
        refine sw_iload (pc := 23) C 3 dX1_holds_23 rfl ?_
        obtain ⟨q25, hq25, hJ⟩ := bind_some hJ
        refine sw_callS_i (pc := 25) C (st := [.ref (ad 5)]) (As := [.int v4]) (k_Ro_top C.2.2.2.2.2.2.1 hq25) pk_X6_top wd_16_14 ⟨Nat.le_of_ble_eq_true rfl, Nat.le_of_ble_eq_true rfl⟩ ⟨rfl, rfl⟩ rfl rfl (Nat.le_of_ble_eq_true rfl) dX1_holds_25 ?_
        obtain ⟨q28, hq28, hJ⟩ := bind_some hJ
        refine sw_callV_r (pc := 28) C (st := []) (As := [.int q25]) (k_Ch_who C.2.2.2.2.2.2.1 hq28) pk_X1_who wd_13_14 5 rfl rfl rfl ⟨Nat.le_of_ble_eq_true rfl, Nat.le_of_ble_eq_true rfl⟩ ⟨rfl, rfl⟩ rfl rfl (Nat.le_of_ble_eq_true rfl) dX1_holds_28 ?_
        obtain ⟨hm28, hJ⟩ := gd hJ
        refine sw_astore (pc := 31) C dX1_holds_31 (by decide) (ll2 := [(6, .ref (ad (14 + q28))), (0, .ref (ad 5)), (2, .int v2), (3, .int v3), (4, .int v4), (5, .int v5)]) rfl ?_
        refine sw_aload (pc := 33) C 0 dX1_holds_33 rfl ?_
        refine sw_iload_n (pc := 35) C 3 dX1_holds_35 rfl rfl ?_
        obtain ⟨q36, hq36, hJ⟩ := bind_some hJ
        refine sw_callV_i (pc := 36) C (st := []) (As := [.int v3]) (k_Me_loadUnder C.2.2.2.2.2.2.1 hm28 hq36) pk_X4_loadUnder wd_16_15 (14 + q28) (wC_mem _ hm28) rfl rfl ⟨Nat.le_of_ble_eq_true rfl, Nat.le_of_ble_eq_true rfl⟩ ⟨rfl, rfl⟩ rfl rfl (Nat.le_of_ble_eq_true rfl) dX1_holds_36 ?_
        refine sw_aload (pc := 39) C 0 dX1_holds_39 rfl ?_
        obtain ⟨q41, hq41, hJ⟩ := bind_some hJ
        refine sw_callV_i (pc := 41) C (st := [.int q36]) (As := []) (k_Me_canBear C.2.2.2.2.2.2.1 hm28 hq41) pk_X4_canBear wd_20_7 (14 + q28) (wC_mem _ hm28) rfl rfl ⟨Nat.le_of_ble_eq_true rfl, Nat.le_of_ble_eq_true rfl⟩ ⟨rfl, rfl⟩ rfl rfl (Nat.le_of_ble_eq_true rfl) dX1_holds_41 ?_
        refine sw_icmp_le (pc := 44) (tgt := 49) C dX1_holds_44 (by decide) (fun hb44 => ?_) (fun hb44 => ?_)
        · replace hJ := itep hb44 hJ
          refine sw_iload_n (pc := 49) C 2 dX1_holds_49 rfl rfl ?_
          refine sw_aload (pc := 50) C 0 dX1_holds_50 rfl ?_
          refine gC_m_11N (pc := 52) C (i := q28) hm28 nd_F16 dX1_holds_52 ?_
          refine sw_iadd (pc := 55) C dX1_holds_55 ?_
          refine sw_istore_n (pc := 56) C dX1_holds_56 rfl (by decide) (ll2 := [(2, .int (v2 + (sM X q28 11))), (6, .ref (ad (14 + q28))), (0, .ref (ad 5)), (3, .int v3), (4, .int v4), (5, .int v5)]) rfl ?_
          refine sw_iload_n (pc := 57) C 3 dX1_holds_57 rfl rfl ?_
          refine sw_aload (pc := 58) C 1 dX1_holds_58 rfl ?_
          refine gC_m_9N (pc := 60) C (i := q28) hm28 nd_F14 dX1_holds_60 ?_
          refine sw_iconst (pc := 63) C (v := (1 : Int32)) dX1_holds_63 (by decide) ?_
          refine sw_iadd (pc := 64) C dX1_holds_64 ?_
          refine sw_iadd (pc := 65) C dX1_holds_65 ?_
          refine sw_istore_n (pc := 66) C dX1_holds_66 rfl (by decide) (ll2 := [(3, .int (v3 + ((sM X q28 9) + (1 : Int32)))), (2, .int (v2 + (sM X q28 11))), (6, .ref (ad (14 + q28))), (0, .ref (ad 5)), (4, .int v4), (5, .int v5)]) rfl ?_
          refine sw_iload (pc := 67) C 4 dX1_holds_67 rfl ?_
          obtain ⟨q69, hq69, hJ⟩ := bind_some hJ
          refine sw_callS_i (pc := 69) C (st := []) (As := [.int v4]) (k_Ro_belowTop C.2.2.2.2.2.2.1 hq69) pk_X6_belowTop wd_16_19 ⟨Nat.le_of_ble_eq_true rfl, Nat.le_of_ble_eq_true rfl⟩ ⟨rfl, rfl⟩ rfl rfl (Nat.le_of_ble_eq_true rfl) dX1_holds_69 ?_
          refine sw_istore (pc := 72) C dX1_holds_72 (by decide) (ll2 := [(4, .int q69), (3, .int (v3 + ((sM X q28 9) + (1 : Int32)))), (2, .int (v2 + (sM X q28 11))), (6, .ref (ad (14 + q28))), (0, .ref (ad 5)), (5, .int v5)]) rfl ?_
          refine sw_iinc (pc := 74) C 5 dX1_holds_74 rfl (v := (v5 + (1 : Int32))) (congrArg (fun z => v5 + z) (by decide)) (by decide) (ll2 := [(5, .int (v5 + (1 : Int32))), (4, .int q69), (3, .int (v3 + ((sM X q28 9) + (1 : Int32)))), (2, .int (v2 + (sM X q28 11))), (6, .ref (ad (14 + q28))), (0, .ref (ad 5))]) rfl ?_
          refine sw_goto (pc := 77) (tgt := 10) C dX1_holds_77 (by decide) ?_
          exact sw_sub [5, 3, 2, 1, 0] (by rfl) (ih _ _ _ _ hJ)
        · replace hJ := iten hb44 hJ
          refine sw_iconst (pc := 47) C (v := (0 : Int32)) dX1_holds_47 (by decide) ?_
          obtain rfl := Option.some.inj hJ
          exact sw_zret (pc := 48) (v := (0 : Int32)) C (by decide) dX1_holds_48
set_option maxHeartbeats 4000000 in
set_option maxRecDepth 100000 in
theorem t_Ch_holds {p : Program} {l : Launch} {e : Env} {s : State} {m : MethodId} {args : Array Value} {below : List Frame} {meth : Method} {c : Code} {D : va_G} {cy : Nat → ClassId} {ad : Nat → Nat} {A : Nat → Prop} (C : Cx p s m args meth c D cy cX1_holds 7 RX1 (some .boolean) A (wC cy ad)) {X : St} {r : Int32} : ∀ (a1 : Int32), jCh_holds X a1 = some r → SW p l e ({ frames := 1, cells := 0, slots := 0, locals := 21 } : Room) s m args below meth c D 7 A (wC cy ad) (MQ below (poI D (wC cy ad) A r X) args s 0 0 A) X [(0, .ref (ad 5)), (1, .int a1)] 0 [] := by
  intro a1 hJ
  unfold jCh_holds at hJ
  refine sw_iconst (pc := 0) C (v := (0 : Int32)) dX1_holds_0 (by decide) ?_
  refine sw_istore_n (pc := 1) C dX1_holds_1 rfl (by decide) (ll2 := [(2, .int (0 : Int32)), (0, .ref (ad 5)), (1, .int a1)]) rfl ?_
  refine sw_iconst (pc := 2) C (v := (0 : Int32)) dX1_holds_2 (by decide) ?_
  refine sw_istore_n (pc := 3) C dX1_holds_3 rfl (by decide) (ll2 := [(3, .int (0 : Int32)), (2, .int (0 : Int32)), (0, .ref (ad 5)), (1, .int a1)]) rfl ?_
  refine sw_iload_n (pc := 4) C 3 dX1_holds_4 rfl rfl ?_
  refine sw_istore (pc := 5) C dX1_holds_5 (by decide) (ll2 := [(4, .int a1), (3, .int (0 : Int32)), (2, .int (0 : Int32)), (0, .ref (ad 5)), (1, .int a1)]) rfl ?_
  refine sw_iconst (pc := 7) C (v := (0 : Int32)) dX1_holds_7 (by decide) ?_
  refine sw_istore (pc := 8) C dX1_holds_8 (by decide) (ll2 := [(5, .int (0 : Int32)), (4, .int a1), (3, .int (0 : Int32)), (2, .int (0 : Int32)), (0, .ref (ad 5)), (1, .int a1)]) rfl ?_
  exact sw_sub [4, 3, 2, 1, 0] (by rfl) (t_Ch_holds_10 C _ _ _ _ _ hJ)
set_option maxHeartbeats 4000000 in
set_option maxRecDepth 100000 in
theorem k_Ch_holds {l : Launch} {D : va_G} {cy : Nat → ClassId} {ad : Nat → Nat} {A : Nat → Prop} (hD : ∀ X, va_D A (wC cy ad X)) {X : St} {a1 : Int32} {r : Int32} (hJ : jCh_holds X a1 = some r) : Met l yX1_holds (wsY yX1_holds cX1_holds 7 (some .boolean)) ({ frames := 1, cells := 0, slots := 0, locals := 21 } : Room) (prX D cy (wC cy ad) X [.ref (ad 5), .int a1]) (poI D (wC cy ad) A r X) 0 0 A := sw_met (by decide +kernel) (Nat.le_of_ble_eq_true rfl) hD (fun p e s m args below meth c C => t_Ch_holds C _ hJ)
set_option maxHeartbeats 4000000 in
set_option maxRecDepth 100000 in
theorem t_Ch_risen {p : Program} {l : Launch} {e : Env} {s : State} {m : MethodId} {args : Array Value} {below : List Frame} {meth : Method} {c : Code} {D : va_G} {cy : Nat → ClassId} {ad : Nat → Nat} {A : Nat → Prop} (C : Cx p s m args meth c D cy cX1_risen 4 RX1 (some .int) A (wC cy ad)) {X : St} {r : Int32} : ∀ (a1 : Int32) (a2 : Int32), jCh_risen X a1 a2 = some r → SW p l e ({ frames := 2, cells := 0, slots := 0, locals := 47 } : Room) s m args below meth c D 4 A (wC cy ad) (MQ below (poI D (wC cy ad) A r X) args s 0 0 A) X [(0, .ref (ad 5)), (1, .int a1), (2, .int a2)] 0 [] := by
  intro a1 a2 hJ
  unfold jCh_risen at hJ
  refine sw_iload_n (pc := 0) C 1 dX1_risen_0 rfl rfl ?_
  refine sw_iload_n (pc := 1) C 2 dX1_risen_1 rfl rfl ?_
  obtain ⟨q2, hq2, hJ⟩ := bind_some hJ
  refine sw_callS_i (pc := 2) C (st := []) (As := [.int a1, .int a2]) (k_Ro_with C.2.2.2.2.2.2.1 hq2) pk_X6_with wd_19_23 ⟨Nat.le_of_ble_eq_true rfl, Nat.le_of_ble_eq_true rfl⟩ ⟨rfl, rfl⟩ rfl rfl (Nat.le_of_ble_eq_true rfl) dX1_risen_2 ?_
  refine sw_istore_n (pc := 5) C dX1_risen_5 rfl (by decide) (ll2 := [(3, .int q2), (0, .ref (ad 5)), (1, .int a1), (2, .int a2)]) rfl ?_
  refine sw_aload_n (pc := 6) C 1 dX1_risen_6 rfl rfl ?_
  refine sw_iload_n (pc := 7) C 0 dX1_risen_7 rfl rfl ?_
  obtain ⟨q8, hq8, hJ⟩ := bind_some hJ
  refine sw_callV_i (pc := 8) C (st := []) (As := [.int q2]) (k_Ch_holds C.2.2.2.2.2.2.1 hq8) pk_X1_holds wd_20_0 5 rfl rfl rfl ⟨Nat.le_of_ble_eq_true rfl, Nat.le_of_ble_eq_true rfl⟩ ⟨rfl, rfl⟩ rfl rfl (Nat.le_of_ble_eq_true rfl) dX1_risen_8 ?_
  refine sw_if_eq (pc := 11) (tgt := 18) C dX1_risen_11 (by decide) (fun hb11 => ?_) (fun hb11 => ?_)
  · replace hJ := itep hb11 hJ
    refine sw_iconst (pc := 18) C (v := (0 : Int32)) dX1_risen_18 (by decide) ?_
    obtain rfl := Option.some.inj hJ
    exact sw_iret (pc := 19) C dX1_risen_19
  · replace hJ := iten hb11 hJ
    refine sw_iload_n (pc := 14) C 0 dX1_risen_14 rfl rfl ?_
    refine sw_goto (pc := 15) (tgt := 19) C dX1_risen_15 (by decide) ?_
    obtain rfl := Option.some.inj hJ
    exact sw_iret (pc := 19) C dX1_risen_19
set_option maxHeartbeats 4000000 in
set_option maxRecDepth 100000 in
theorem k_Ch_risen {l : Launch} {D : va_G} {cy : Nat → ClassId} {ad : Nat → Nat} {A : Nat → Prop} (hD : ∀ X, va_D A (wC cy ad X)) {X : St} {a1 : Int32} {a2 : Int32} {r : Int32} (hJ : jCh_risen X a1 a2 = some r) : Met l yX1_risen (wsY yX1_risen cX1_risen 4 (some .int)) ({ frames := 2, cells := 0, slots := 0, locals := 47 } : Room) (prX D cy (wC cy ad) X [.ref (ad 5), .int a1, .int a2]) (poI D (wC cy ad) A r X) 0 0 A := sw_met (by decide +kernel) (Nat.le_of_ble_eq_true rfl) hD (fun p e s m args below meth c C => t_Ch_risen C _ _ hJ)
set_option maxHeartbeats 4000000 in
set_option maxRecDepth 100000 in
theorem t_Ch_leansTooMuch_43 {p : Program} {l : Launch} {e : Env} {s : State} {m : MethodId} {args : Array Value} {below : List Frame} {meth : Method} {c : Code} {D : va_G} {cy : Nat → ClassId} {ad : Nat → Nat} {A : Nat → Prop} (C : Cx p s m args meth c D cy cX1_leansTooMuch 5 RX1 (some .boolean) A (wC cy ad)) {X : St} {r : Int32} : ∀ (v2 : Int32), jCh_leansTooMuch_43 X v2 = some r → SW p l e ({ frames := 1, cells := 0, slots := 0, locals := 21 } : Room) s m args below meth c D 5 A (wC cy ad) (MQ below (poI D (wC cy ad) A r X) args s 0 0 A) X [(0, .ref (ad 5)), (2, .int v2)] 43 [] := by
  intro v2 hJ
  unfold jCh_leansTooMuch_43 at hJ
  refine sw_iload_n (pc := 43) C 1 dX1_leansTooMuch_43 rfl rfl ?_
  refine sw_mabs (pc := 44) C (st := []) wd_20_4 wd_20_5 wd_13_12 wd_20_6 ⟨Nat.le_of_ble_eq_true rfl, Nat.le_of_ble_eq_true rfl⟩ dX1_leansTooMuch_44 ?_
  refine sw_aload_n (pc := 47) C 0 dX1_leansTooMuch_47 rfl rfl ?_
  refine gC_5_7 (pc := 48) C wd_3_14 dX1_leansTooMuch_48 ?_
  refine sw_icmp_le (pc := 51) (tgt := 58) C dX1_leansTooMuch_51 (by decide) (fun hb51 => ?_) (fun hb51 => ?_)
  · replace hJ := itep hb51 hJ
    refine sw_iconst (pc := 58) C (v := (0 : Int32)) dX1_leansTooMuch_58 (by decide) ?_
    obtain rfl := Option.some.inj hJ
    exact sw_zret (pc := 59) (v := (0 : Int32)) C (by decide) dX1_leansTooMuch_59
  · replace hJ := iten hb51 hJ
    refine sw_iconst (pc := 54) C (v := (1 : Int32)) dX1_leansTooMuch_54 (by decide) ?_
    refine sw_goto (pc := 55) (tgt := 59) C dX1_leansTooMuch_55 (by decide) ?_
    obtain rfl := Option.some.inj hJ
    exact sw_zret (pc := 59) (v := (1 : Int32)) C (by decide) dX1_leansTooMuch_59
set_option maxHeartbeats 4000000 in
set_option maxRecDepth 100000 in
theorem t_Ch_leansTooMuch_7 {p : Program} {l : Launch} {e : Env} {s : State} {m : MethodId} {args : Array Value} {below : List Frame} {meth : Method} {c : Code} {D : va_G} {cy : Nat → ClassId} {ad : Nat → Nat} {A : Nat → Prop} (C : Cx p s m args meth c D cy cX1_leansTooMuch 5 RX1 (some .boolean) A (wC cy ad)) {X : St} {r : Int32} : ∀ (n : Nat) (v2 : Int32) (v3 : Int32) (v4 : Int32), jCh_leansTooMuch_7 X n v2 v3 v4 = some r → SW p l e ({ frames := 1, cells := 0, slots := 0, locals := 21 } : Room) s m args below meth c D 5 A (wC cy ad) (MQ below (poI D (wC cy ad) A r X) args s 0 0 A) X [(0, .ref (ad 5)), (2, .int v2), (3, .int v3), (4, .int v4)] 7 [] := by
  intro n
  induction n with
  | zero => intro v2 v3 v4 hJ; exact absurd (show (none : Option (Int32)) = some r from hJ) (fun h => by cases h)
  | succ n ih =>
    intro v2 v3 v4 hJ
    rw [jCh_leansTooMuch_7] at hJ
    refine sw_iload (pc := 7) C 3 dX1_leansTooMuch_7 rfl ?_
    refine sw_bipush (pc := 9) C (v := (7 : Int32)) dX1_leansTooMuch_9 (by decide) ?_
    refine sw_icmp_ge (pc := 11) (tgt := 43) C dX1_leansTooMuch_11 (by decide) (fun hb11 => ?_) (fun hb11 => ?_)
    · replace hJ := itep hb11 hJ
      exact sw_sub [0, 1] (by rfl) (t_Ch_leansTooMuch_43 C _ hJ)
    · replace hJ := iten hb11 hJ
      refine sw_iload_n (pc := 14) C 2 dX1_leansTooMuch_14 rfl rfl ?_
      refine sw_if_eq (pc := 15) (tgt := 43) C dX1_leansTooMuch_15 (by decide) (fun hb15 => ?_) (fun hb15 => ?_)
      · replace hJ := itep hb15 hJ
        exact sw_sub [0, 1] (by rfl) (t_Ch_leansTooMuch_43 C _ hJ)
      · replace hJ := iten hb15 hJ
        refine sw_iload_n (pc := 18) C 1 dX1_leansTooMuch_18 rfl rfl ?_
        refine sw_aload_n (pc := 19) C 0 dX1_leansTooMuch_19 rfl rfl ?_
        refine sw_iload_n (pc := 20) C 2 dX1_leansTooMuch_20 rfl rfl ?_
        obtain ⟨q21, hq21, hJ⟩ := bind_some hJ
        refine sw_callS_i (pc := 21) C (st := [.ref (ad 5), .int v2]) (As := [.int v3]) (k_Ro_top C.2.2.2.2.2.2.1 hq21) pk_X6_top wd_16_14 ⟨Nat.le_of_ble_eq_true rfl, Nat.le_of_ble_eq_true rfl⟩ ⟨rfl, rfl⟩ rfl rfl (Nat.le_of_ble_eq_true rfl) dX1_leansTooMuch_21 ?_
        obtain ⟨q24, hq24, hJ⟩ := bind_some hJ
        refine sw_callV_r (pc := 24) C (st := [.int v2]) (As := [.int q21]) (k_Ch_who C.2.2.2.2.2.2.1 hq24) pk_X1_who wd_13_14 5 rfl rfl rfl ⟨Nat.le_of_ble_eq_true rfl, Nat.le_of_ble_eq_true rfl⟩ ⟨rfl, rfl⟩ rfl rfl (Nat.le_of_ble_eq_true rfl) dX1_leansTooMuch_24 ?_
        obtain ⟨hm24, hJ⟩ := gd hJ
        refine gC_m_11N (pc := 27) C (i := q24) hm24 nd_F16 dX1_leansTooMuch_27 ?_
        refine sw_iadd (pc := 30) C dX1_leansTooMuch_30 ?_
        refine sw_istore_n (pc := 31) C dX1_leansTooMuch_31 rfl (by decide) (ll2 := [(2, .int (v2 + (sM X q24 11))), (0, .ref (ad 5)), (3, .int v3), (4, .int v4)]) rfl ?_
        refine sw_iload_n (pc := 32) C 2 dX1_leansTooMuch_32 rfl rfl ?_
        obtain ⟨q33, hq33, hJ⟩ := bind_some hJ
        refine sw_callS_i (pc := 33) C (st := []) (As := [.int v3]) (k_Ro_belowTop C.2.2.2.2.2.2.1 hq33) pk_X6_belowTop wd_16_19 ⟨Nat.le_of_ble_eq_true rfl, Nat.le_of_ble_eq_true rfl⟩ ⟨rfl, rfl⟩ rfl rfl (Nat.le_of_ble_eq_true rfl) dX1_leansTooMuch_33 ?_
        refine sw_istore_n (pc := 36) C dX1_leansTooMuch_36 rfl (by decide) (ll2 := [(3, .int q33), (2, .int (v2 + (sM X q24 11))), (0, .ref (ad 5)), (4, .int v4)]) rfl ?_
        refine sw_iinc (pc := 37) C 3 dX1_leansTooMuch_37 rfl (v := (v4 + (1 : Int32))) (congrArg (fun z => v4 + z) (by decide)) (by decide) (ll2 := [(4, .int (v4 + (1 : Int32))), (3, .int q33), (2, .int (v2 + (sM X q24 11))), (0, .ref (ad 5))]) rfl ?_
        refine sw_goto (pc := 40) (tgt := 7) C dX1_leansTooMuch_40 (by decide) ?_
        exact sw_sub [3, 2, 1, 0] (by rfl) (ih _ _ _ hJ)
set_option maxHeartbeats 4000000 in
set_option maxRecDepth 100000 in
theorem t_Ch_leansTooMuch {p : Program} {l : Launch} {e : Env} {s : State} {m : MethodId} {args : Array Value} {below : List Frame} {meth : Method} {c : Code} {D : va_G} {cy : Nat → ClassId} {ad : Nat → Nat} {A : Nat → Prop} (C : Cx p s m args meth c D cy cX1_leansTooMuch 5 RX1 (some .boolean) A (wC cy ad)) {X : St} {r : Int32} : ∀ (a1 : Int32), jCh_leansTooMuch X a1 = some r → SW p l e ({ frames := 1, cells := 0, slots := 0, locals := 21 } : Room) s m args below meth c D 5 A (wC cy ad) (MQ below (poI D (wC cy ad) A r X) args s 0 0 A) X [(0, .ref (ad 5)), (1, .int a1)] 0 [] := by
  intro a1 hJ
  unfold jCh_leansTooMuch at hJ
  refine sw_iconst (pc := 0) C (v := (0 : Int32)) dX1_leansTooMuch_0 (by decide) ?_
  refine sw_istore_n (pc := 1) C dX1_leansTooMuch_1 rfl (by decide) (ll2 := [(2, .int (0 : Int32)), (0, .ref (ad 5)), (1, .int a1)]) rfl ?_
  refine sw_iload_n (pc := 2) C 2 dX1_leansTooMuch_2 rfl rfl ?_
  refine sw_istore_n (pc := 3) C dX1_leansTooMuch_3 rfl (by decide) (ll2 := [(3, .int a1), (2, .int (0 : Int32)), (0, .ref (ad 5)), (1, .int a1)]) rfl ?_
  refine sw_iconst (pc := 4) C (v := (0 : Int32)) dX1_leansTooMuch_4 (by decide) ?_
  refine sw_istore (pc := 5) C dX1_leansTooMuch_5 (by decide) (ll2 := [(4, .int (0 : Int32)), (3, .int a1), (2, .int (0 : Int32)), (0, .ref (ad 5)), (1, .int a1)]) rfl ?_
  exact sw_sub [3, 2, 1, 0] (by rfl) (t_Ch_leansTooMuch_7 C _ _ _ _ hJ)
set_option maxHeartbeats 4000000 in
set_option maxRecDepth 100000 in
theorem k_Ch_leansTooMuch {l : Launch} {D : va_G} {cy : Nat → ClassId} {ad : Nat → Nat} {A : Nat → Prop} (hD : ∀ X, va_D A (wC cy ad X)) {X : St} {a1 : Int32} {r : Int32} (hJ : jCh_leansTooMuch X a1 = some r) : Met l yX1_leansTooMuch (wsY yX1_leansTooMuch cX1_leansTooMuch 5 (some .boolean)) ({ frames := 1, cells := 0, slots := 0, locals := 21 } : Room) (prX D cy (wC cy ad) X [.ref (ad 5), .int a1]) (poI D (wC cy ad) A r X) 0 0 A := sw_met (by decide +kernel) (Nat.le_of_ble_eq_true rfl) hD (fun p e s m args below meth c C => t_Ch_leansTooMuch C _ hJ)
set_option maxHeartbeats 4000000 in
set_option maxRecDepth 100000 in
theorem t_Ch_nailsFor_67 {p : Program} {l : Launch} {e : Env} {s : State} {m : MethodId} {args : Array Value} {below : List Frame} {meth : Method} {c : Code} {D : va_G} {cy : Nat → ClassId} {ad : Nat → Nat} {A : Nat → Prop} (C : Cx p s m args meth c D cy cX1_nailsFor 8 RX1 (some .int) A (wC cy ad)) {X : St} {k10 : Int32 → Int32 → Int32 → Int32 → Option (Int32)} {r : Int32} (h10 : ∀ (v2 : Int32) (v3 : Int32) (v4 : Int32) (v5 : Int32), k10 v2 v3 v4 v5 = some r → SW p l e ({ frames := 1, cells := 0, slots := 0, locals := 21 } : Room) s m args below meth c D 8 A (wC cy ad) (MQ below (poI D (wC cy ad) A r X) args s 0 0 A) X [(0, .ref (ad 5)), (2, .int v2), (3, .int v3), (4, .int v4), (5, .int v5)] 10 []) : ∀ (v3 : Int32) (v4 : Int32) (v5 : Int32) (v6 : Nat) (s0 : Int32) (s1 : Int32), jCh_nailsFor_67 X k10 v3 v4 v5 v6 s0 s1 = some r → SW p l e ({ frames := 1, cells := 0, slots := 0, locals := 21 } : Room) s m args below meth c D 8 A (wC cy ad) (MQ below (poI D (wC cy ad) A r X) args s 0 0 A) X [(0, .ref (ad 5)), (3, .int v3), (4, .int v4), (5, .int v5), (6, .ref (ad (14 + v6)))] 67 [.int s1, .int s0] := by
  intro v3 v4 v5 v6 s0 s1 hJ
  unfold jCh_nailsFor_67 at hJ
  obtain ⟨hv6, hJ⟩ := gd hJ
  refine sw_iadd (pc := 67) C dX1_nailsFor_67 ?_
  refine sw_istore_n (pc := 68) C dX1_nailsFor_68 rfl (by decide) (ll2 := [(2, .int (s0 + s1)), (0, .ref (ad 5)), (3, .int v3), (4, .int v4), (5, .int v5), (6, .ref (ad (14 + v6)))]) rfl ?_
  refine sw_iload_n (pc := 69) C 2 dX1_nailsFor_69 rfl rfl ?_
  refine sw_aload (pc := 70) C 5 dX1_nailsFor_70 rfl ?_
  refine gC_m_9N (pc := 72) C (i := v6) hv6 nd_F14 dX1_nailsFor_72 ?_
  refine sw_iconst (pc := 75) C (v := (1 : Int32)) dX1_nailsFor_75 (by decide) ?_
  refine sw_iadd (pc := 76) C dX1_nailsFor_76 ?_
  refine sw_iadd (pc := 77) C dX1_nailsFor_77 ?_
  refine sw_istore_n (pc := 78) C dX1_nailsFor_78 rfl (by decide) (ll2 := [(3, .int (v3 + ((sM X v6 9) + (1 : Int32)))), (2, .int (s0 + s1)), (0, .ref (ad 5)), (4, .int v4), (5, .int v5), (6, .ref (ad (14 + v6)))]) rfl ?_
  refine sw_iload (pc := 79) C 3 dX1_nailsFor_79 rfl ?_
  obtain ⟨q81, hq81, hJ⟩ := bind_some hJ
  refine sw_callS_i (pc := 81) C (st := []) (As := [.int v4]) (k_Ro_belowTop C.2.2.2.2.2.2.1 hq81) pk_X6_belowTop wd_16_19 ⟨Nat.le_of_ble_eq_true rfl, Nat.le_of_ble_eq_true rfl⟩ ⟨rfl, rfl⟩ rfl rfl (Nat.le_of_ble_eq_true rfl) dX1_nailsFor_81 ?_
  refine sw_istore (pc := 84) C dX1_nailsFor_84 (by decide) (ll2 := [(4, .int q81), (3, .int (v3 + ((sM X v6 9) + (1 : Int32)))), (2, .int (s0 + s1)), (0, .ref (ad 5)), (5, .int v5), (6, .ref (ad (14 + v6)))]) rfl ?_
  refine sw_iinc (pc := 86) C 4 dX1_nailsFor_86 rfl (v := (v5 + (1 : Int32))) (congrArg (fun z => v5 + z) (by decide)) (by decide) (ll2 := [(5, .int (v5 + (1 : Int32))), (4, .int q81), (3, .int (v3 + ((sM X v6 9) + (1 : Int32)))), (2, .int (s0 + s1)), (0, .ref (ad 5)), (6, .ref (ad (14 + v6)))]) rfl ?_
  refine sw_goto (pc := 89) (tgt := 10) C dX1_nailsFor_89 (by decide) ?_
  exact sw_sub [4, 3, 2, 1, 0] (by rfl) (h10 _ _ _ _ hJ)
set_option maxHeartbeats 4000000 in
set_option maxRecDepth 100000 in
theorem t_Ch_nailsFor_10 {p : Program} {l : Launch} {e : Env} {s : State} {m : MethodId} {args : Array Value} {below : List Frame} {meth : Method} {c : Code} {D : va_G} {cy : Nat → ClassId} {ad : Nat → Nat} {A : Nat → Prop} (C : Cx p s m args meth c D cy cX1_nailsFor 8 RX1 (some .int) A (wC cy ad)) {X : St} {r : Int32} : ∀ (n : Nat) (v2 : Int32) (v3 : Int32) (v4 : Int32) (v5 : Int32), jCh_nailsFor_10 X n v2 v3 v4 v5 = some r → SW p l e ({ frames := 1, cells := 0, slots := 0, locals := 21 } : Room) s m args below meth c D 8 A (wC cy ad) (MQ below (poI D (wC cy ad) A r X) args s 0 0 A) X [(0, .ref (ad 5)), (2, .int v2), (3, .int v3), (4, .int v4), (5, .int v5)] 10 [] := by
  intro n
  induction n with
  | zero => intro v2 v3 v4 v5 hJ; exact absurd (show (none : Option (Int32)) = some r from hJ) (fun h => by cases h)
  | succ n ih =>
    intro v2 v3 v4 v5 hJ
    rw [jCh_nailsFor_10] at hJ
    refine sw_iload (pc := 10) C 4 dX1_nailsFor_10 rfl ?_
    refine sw_bipush (pc := 12) C (v := (7 : Int32)) dX1_nailsFor_12 (by decide) ?_
    refine sw_icmp_ge (pc := 14) (tgt := 92) C dX1_nailsFor_14 (by decide) (fun hb14 => ?_) (fun hb14 => ?_)
    · replace hJ := itep hb14 hJ
      refine sw_iload_n (pc := 92) C 1 dX1_nailsFor_92 rfl rfl ?_
      obtain rfl := Option.some.inj hJ
      exact sw_iret (pc := 93) C dX1_nailsFor_93
    · replace hJ := iten hb14 hJ
      refine sw_iload (pc := 17) C 3 dX1_nailsFor_17 rfl ?_
      refine sw_if_eq (pc := 19) (tgt := 92) C dX1_nailsFor_19 (by decide) (fun hb19 => ?_) (fun hb19 => ?_)
      · replace hJ := itep hb19 hJ
        refine sw_iload_n (pc := 92) C 1 dX1_nailsFor_92 rfl rfl ?_
        obtain rfl := Option.some.inj hJ
        exact sw_iret (pc := 93) C dX1_nailsFor_93
      · replace hJ := iten hb19 hJ
        refine sw_aload_n (pc := 22) C 0 dX1_nailsFor_22 rfl rfl ?_
        refine sw_iload (pc := 23) C 3 dX1_nailsFor_23 rfl ?_
        obtain ⟨q25, hq25, hJ⟩ := bind_some hJ
        refine sw_callS_i (pc := 25) C (st := [.ref (ad 5)]) (As := [.int v4]) (k_Ro_top C.2.2.2.2.2.2.1 hq25) pk_X6_top wd_16_14 ⟨Nat.le_of_ble_eq_true rfl, Nat.le_of_ble_eq_true rfl⟩ ⟨rfl, rfl⟩ rfl rfl (Nat.le_of_ble_eq_true rfl) dX1_nailsFor_25 ?_
        obtain ⟨q28, hq28, hJ⟩ := bind_some hJ
        refine sw_callV_r (pc := 28) C (st := []) (As := [.int q25]) (k_Ch_who C.2.2.2.2.2.2.1 hq28) pk_X1_who wd_13_14 5 rfl rfl rfl ⟨Nat.le_of_ble_eq_true rfl, Nat.le_of_ble_eq_true rfl⟩ ⟨rfl, rfl⟩ rfl rfl (Nat.le_of_ble_eq_true rfl) dX1_nailsFor_28 ?_
        obtain ⟨hm28, hJ⟩ := gd hJ
        refine sw_astore (pc := 31) C dX1_nailsFor_31 (by decide) (ll2 := [(6, .ref (ad (14 + q28))), (0, .ref (ad 5)), (2, .int v2), (3, .int v3), (4, .int v4), (5, .int v5)]) rfl ?_
        refine sw_aload (pc := 33) C 0 dX1_nailsFor_33 rfl ?_
        refine sw_iload_n (pc := 35) C 3 dX1_nailsFor_35 rfl rfl ?_
        obtain ⟨q36, hq36, hJ⟩ := bind_some hJ
        refine sw_callV_i (pc := 36) C (st := []) (As := [.int v3]) (k_Me_loadUnder C.2.2.2.2.2.2.1 hm28 hq36) pk_X4_loadUnder wd_16_15 (14 + q28) (wC_mem _ hm28) rfl rfl ⟨Nat.le_of_ble_eq_true rfl, Nat.le_of_ble_eq_true rfl⟩ ⟨rfl, rfl⟩ rfl rfl (Nat.le_of_ble_eq_true rfl) dX1_nailsFor_36 ?_
        refine sw_aload (pc := 39) C 0 dX1_nailsFor_39 rfl ?_
        obtain ⟨q41, hq41, hJ⟩ := bind_some hJ
        refine sw_callV_i (pc := 41) C (st := [.int q36]) (As := []) (k_Me_canBear C.2.2.2.2.2.2.1 hm28 hq41) pk_X4_canBear wd_20_7 (14 + q28) (wC_mem _ hm28) rfl rfl ⟨Nat.le_of_ble_eq_true rfl, Nat.le_of_ble_eq_true rfl⟩ ⟨rfl, rfl⟩ rfl rfl (Nat.le_of_ble_eq_true rfl) dX1_nailsFor_41 ?_
        refine sw_isub (pc := 44) C dX1_nailsFor_44 ?_
        refine sw_istore (pc := 45) C dX1_nailsFor_45 (by decide) (ll2 := [(7, .int (q36 - q41)), (6, .ref (ad (14 + q28))), (0, .ref (ad 5)), (2, .int v2), (3, .int v3), (4, .int v4), (5, .int v5)]) rfl ?_
        refine sw_iload_n (pc := 47) C 3 dX1_nailsFor_47 rfl rfl ?_
        refine sw_iload (pc := 48) C 0 dX1_nailsFor_48 rfl ?_
        refine sw_if_le (pc := 50) (tgt := 66) C dX1_nailsFor_50 (by decide) (fun hb50 => ?_) (fun hb50 => ?_)
        · replace hJ := itep hb50 hJ
          refine sw_iconst (pc := 66) C (v := (0 : Int32)) dX1_nailsFor_66 (by decide) ?_
          exact sw_sub [2, 4, 5, 6, 1] (by rfl) (t_Ch_nailsFor_67 C ih _ _ _ _ _ _ hJ)
        · replace hJ := iten hb50 hJ
          refine sw_iload (pc := 53) C 0 dX1_nailsFor_53 rfl ?_
          refine sw_bipush (pc := 55) C (v := (9 : Int32)) dX1_nailsFor_55 (by decide) ?_
          refine sw_iadd (pc := 57) C dX1_nailsFor_57 ?_
          refine sw_iconst (pc := 58) C (v := (1 : Int32)) dX1_nailsFor_58 (by decide) ?_
          refine sw_isub (pc := 59) C dX1_nailsFor_59 ?_
          refine sw_bipush (pc := 60) C (v := (9 : Int32)) dX1_nailsFor_60 (by decide) ?_
          refine sw_idiv (pc := 62) C dX1_nailsFor_62 (by decide) ?_
          refine sw_goto (pc := 63) (tgt := 67) C dX1_nailsFor_63 (by decide) ?_
          exact sw_sub [2, 4, 5, 6, 1] (by rfl) (t_Ch_nailsFor_67 C ih _ _ _ _ _ _ hJ)
set_option maxHeartbeats 4000000 in
set_option maxRecDepth 100000 in
theorem t_Ch_nailsFor {p : Program} {l : Launch} {e : Env} {s : State} {m : MethodId} {args : Array Value} {below : List Frame} {meth : Method} {c : Code} {D : va_G} {cy : Nat → ClassId} {ad : Nat → Nat} {A : Nat → Prop} (C : Cx p s m args meth c D cy cX1_nailsFor 8 RX1 (some .int) A (wC cy ad)) {X : St} {r : Int32} : ∀ (a1 : Int32), jCh_nailsFor X a1 = some r → SW p l e ({ frames := 1, cells := 0, slots := 0, locals := 21 } : Room) s m args below meth c D 8 A (wC cy ad) (MQ below (poI D (wC cy ad) A r X) args s 0 0 A) X [(0, .ref (ad 5)), (1, .int a1)] 0 [] := by
  intro a1 hJ
  unfold jCh_nailsFor at hJ
  refine sw_iconst (pc := 0) C (v := (0 : Int32)) dX1_nailsFor_0 (by decide) ?_
  refine sw_istore_n (pc := 1) C dX1_nailsFor_1 rfl (by decide) (ll2 := [(2, .int (0 : Int32)), (0, .ref (ad 5)), (1, .int a1)]) rfl ?_
  refine sw_iconst (pc := 2) C (v := (0 : Int32)) dX1_nailsFor_2 (by decide) ?_
  refine sw_istore_n (pc := 3) C dX1_nailsFor_3 rfl (by decide) (ll2 := [(3, .int (0 : Int32)), (2, .int (0 : Int32)), (0, .ref (ad 5)), (1, .int a1)]) rfl ?_
  refine sw_iload_n (pc := 4) C 3 dX1_nailsFor_4 rfl rfl ?_
  refine sw_istore (pc := 5) C dX1_nailsFor_5 (by decide) (ll2 := [(4, .int a1), (3, .int (0 : Int32)), (2, .int (0 : Int32)), (0, .ref (ad 5)), (1, .int a1)]) rfl ?_
  refine sw_iconst (pc := 7) C (v := (0 : Int32)) dX1_nailsFor_7 (by decide) ?_
  refine sw_istore (pc := 8) C dX1_nailsFor_8 (by decide) (ll2 := [(5, .int (0 : Int32)), (4, .int a1), (3, .int (0 : Int32)), (2, .int (0 : Int32)), (0, .ref (ad 5)), (1, .int a1)]) rfl ?_
  exact sw_sub [4, 3, 2, 1, 0] (by rfl) (t_Ch_nailsFor_10 C _ _ _ _ _ hJ)
set_option maxHeartbeats 4000000 in
set_option maxRecDepth 100000 in
theorem k_Ch_nailsFor {l : Launch} {D : va_G} {cy : Nat → ClassId} {ad : Nat → Nat} {A : Nat → Prop} (hD : ∀ X, va_D A (wC cy ad X)) {X : St} {a1 : Int32} {r : Int32} (hJ : jCh_nailsFor X a1 = some r) : Met l yX1_nailsFor (wsY yX1_nailsFor cX1_nailsFor 8 (some .int)) ({ frames := 1, cells := 0, slots := 0, locals := 21 } : Room) (prX D cy (wC cy ad) X [.ref (ad 5), .int a1]) (poI D (wC cy ad) A r X) 0 0 A := sw_met (by decide +kernel) (Nat.le_of_ble_eq_true rfl) hD (fun p e s m args below meth c C => t_Ch_nailsFor C _ hJ)
set_option maxHeartbeats 4000000 in
set_option maxRecDepth 100000 in
theorem t_Ch_loadOn_8 {p : Program} {l : Launch} {e : Env} {s : State} {m : MethodId} {args : Array Value} {below : List Frame} {meth : Method} {c : Code} {D : va_G} {cy : Nat → ClassId} {ad : Nat → Nat} {A : Nat → Prop} (C : Cx p s m args meth c D cy cX1_loadOn 7 RX1 (some .int) A (wC cy ad)) {X : St} {r : Int32} : ∀ (n : Nat) (v2 : Int32) (v3 : Int32) (v4 : Int32) (v5 : Int32), jCh_loadOn_8 X n v2 v3 v4 v5 = some r → SW p l e ({ frames := 1, cells := 0, slots := 0, locals := 21 } : Room) s m args below meth c D 7 A (wC cy ad) (MQ below (poI D (wC cy ad) A r X) args s 0 0 A) X [(0, .ref (ad 5)), (2, .int v2), (3, .int v3), (4, .int v4), (5, .int v5)] 8 [] := by
  intro n
  induction n with
  | zero => intro v2 v3 v4 v5 hJ; exact absurd (show (none : Option (Int32)) = some r from hJ) (fun h => by cases h)
  | succ n ih =>
    intro v2 v3 v4 v5 hJ
    rw [jCh_loadOn_8] at hJ
    refine sw_iload (pc := 8) C 4 dX1_loadOn_8 rfl ?_
    refine sw_bipush (pc := 10) C (v := (7 : Int32)) dX1_loadOn_10 (by decide) ?_
    refine sw_icmp_ge (pc := 12) (tgt := 70) C dX1_loadOn_12 (by decide) (fun hb12 => ?_) (fun hb12 => ?_)
    · replace hJ := itep hb12 hJ
      refine sw_iconst (pc := 70) C (v := (0 : Int32)) dX1_loadOn_70 (by decide) ?_
      obtain rfl := Option.some.inj hJ
      exact sw_iret (pc := 71) C dX1_loadOn_71
    · replace hJ := iten hb12 hJ
      refine sw_iload (pc := 15) C 3 dX1_loadOn_15 rfl ?_
      refine sw_if_eq (pc := 17) (tgt := 70) C dX1_loadOn_17 (by decide) (fun hb17 => ?_) (fun hb17 => ?_)
      · replace hJ := itep hb17 hJ
        refine sw_iconst (pc := 70) C (v := (0 : Int32)) dX1_loadOn_70 (by decide) ?_
        obtain rfl := Option.some.inj hJ
        exact sw_iret (pc := 71) C dX1_loadOn_71
      · replace hJ := iten hb17 hJ
        refine sw_aload_n (pc := 20) C 0 dX1_loadOn_20 rfl rfl ?_
        refine sw_iload (pc := 21) C 3 dX1_loadOn_21 rfl ?_
        obtain ⟨q23, hq23, hJ⟩ := bind_some hJ
        refine sw_callS_i (pc := 23) C (st := [.ref (ad 5)]) (As := [.int v4]) (k_Ro_top C.2.2.2.2.2.2.1 hq23) pk_X6_top wd_16_14 ⟨Nat.le_of_ble_eq_true rfl, Nat.le_of_ble_eq_true rfl⟩ ⟨rfl, rfl⟩ rfl rfl (Nat.le_of_ble_eq_true rfl) dX1_loadOn_23 ?_
        obtain ⟨q26, hq26, hJ⟩ := bind_some hJ
        refine sw_callV_r (pc := 26) C (st := []) (As := [.int q23]) (k_Ch_who C.2.2.2.2.2.2.1 hq26) pk_X1_who wd_13_14 5 rfl rfl rfl ⟨Nat.le_of_ble_eq_true rfl, Nat.le_of_ble_eq_true rfl⟩ ⟨rfl, rfl⟩ rfl rfl (Nat.le_of_ble_eq_true rfl) dX1_loadOn_26 ?_
        obtain ⟨hm26, hJ⟩ := gd hJ
        refine sw_astore (pc := 29) C dX1_loadOn_29 (by decide) (ll2 := [(6, .ref (ad (14 + q26))), (0, .ref (ad 5)), (2, .int v2), (3, .int v3), (4, .int v4), (5, .int v5)]) rfl ?_
        refine sw_iload (pc := 31) C 4 dX1_loadOn_31 rfl ?_
        obtain ⟨q33, hq33, hJ⟩ := bind_some hJ
        refine sw_callS_i (pc := 33) C (st := []) (As := [.int v4]) (k_Ro_top C.2.2.2.2.2.2.1 hq33) pk_X6_top wd_16_14 ⟨Nat.le_of_ble_eq_true rfl, Nat.le_of_ble_eq_true rfl⟩ ⟨rfl, rfl⟩ rfl rfl (Nat.le_of_ble_eq_true rfl) dX1_loadOn_33 ?_
        refine sw_iload_n (pc := 36) C 2 dX1_loadOn_36 rfl rfl ?_
        refine sw_icmp_ne (pc := 37) (tgt := 47) C dX1_loadOn_37 (by decide) (fun hb37 => ?_) (fun hb37 => ?_)
        · replace hJ := iten hb37 hJ
          refine sw_iload_n (pc := 47) C 3 dX1_loadOn_47 rfl rfl ?_
          refine sw_aload (pc := 48) C 0 dX1_loadOn_48 rfl ?_
          refine gC_m_9N (pc := 50) C (i := q26) hm26 nd_F14 dX1_loadOn_50 ?_
          refine sw_iconst (pc := 53) C (v := (1 : Int32)) dX1_loadOn_53 (by decide) ?_
          refine sw_iadd (pc := 54) C dX1_loadOn_54 ?_
          refine sw_iadd (pc := 55) C dX1_loadOn_55 ?_
          refine sw_istore_n (pc := 56) C dX1_loadOn_56 rfl (by decide) (ll2 := [(3, .int (v3 + ((sM X q26 9) + (1 : Int32)))), (6, .ref (ad (14 + q26))), (0, .ref (ad 5)), (2, .int v2), (4, .int v4), (5, .int v5)]) rfl ?_
          refine sw_iload (pc := 57) C 4 dX1_loadOn_57 rfl ?_
          obtain ⟨q59, hq59, hJ⟩ := bind_some hJ
          refine sw_callS_i (pc := 59) C (st := []) (As := [.int v4]) (k_Ro_belowTop C.2.2.2.2.2.2.1 hq59) pk_X6_belowTop wd_16_19 ⟨Nat.le_of_ble_eq_true rfl, Nat.le_of_ble_eq_true rfl⟩ ⟨rfl, rfl⟩ rfl rfl (Nat.le_of_ble_eq_true rfl) dX1_loadOn_59 ?_
          refine sw_istore (pc := 62) C dX1_loadOn_62 (by decide) (ll2 := [(4, .int q59), (3, .int (v3 + ((sM X q26 9) + (1 : Int32)))), (6, .ref (ad (14 + q26))), (0, .ref (ad 5)), (2, .int v2), (5, .int v5)]) rfl ?_
          refine sw_iinc (pc := 64) C 5 dX1_loadOn_64 rfl (v := (v5 + (1 : Int32))) (congrArg (fun z => v5 + z) (by decide)) (by decide) (ll2 := [(5, .int (v5 + (1 : Int32))), (4, .int q59), (3, .int (v3 + ((sM X q26 9) + (1 : Int32)))), (6, .ref (ad (14 + q26))), (0, .ref (ad 5)), (2, .int v2)]) rfl ?_
          refine sw_goto (pc := 67) (tgt := 8) C dX1_loadOn_67 (by decide) ?_
          exact sw_sub [4, 5, 2, 1, 0] (by rfl) (ih _ _ _ _ hJ)
        · replace hJ := itep hb37 hJ
          refine sw_aload (pc := 40) C 0 dX1_loadOn_40 rfl ?_
          refine sw_iload_n (pc := 42) C 3 dX1_loadOn_42 rfl rfl ?_
          obtain ⟨q43, hq43, hJ⟩ := bind_some hJ
          refine sw_callV_i (pc := 43) C (st := []) (As := [.int v3]) (k_Me_loadUnder C.2.2.2.2.2.2.1 hm26 hq43) pk_X4_loadUnder wd_16_15 (14 + q26) (wC_mem _ hm26) rfl rfl ⟨Nat.le_of_ble_eq_true rfl, Nat.le_of_ble_eq_true rfl⟩ ⟨rfl, rfl⟩ rfl rfl (Nat.le_of_ble_eq_true rfl) dX1_loadOn_43 ?_
          obtain rfl := Option.some.inj hJ
          exact sw_iret (pc := 46) C dX1_loadOn_46
set_option maxHeartbeats 4000000 in
set_option maxRecDepth 100000 in
theorem t_Ch_loadOn {p : Program} {l : Launch} {e : Env} {s : State} {m : MethodId} {args : Array Value} {below : List Frame} {meth : Method} {c : Code} {D : va_G} {cy : Nat → ClassId} {ad : Nat → Nat} {A : Nat → Prop} (C : Cx p s m args meth c D cy cX1_loadOn 7 RX1 (some .int) A (wC cy ad)) {X : St} {r : Int32} : ∀ (a1 : Int32) (a2 : Int32), jCh_loadOn X a1 a2 = some r → SW p l e ({ frames := 1, cells := 0, slots := 0, locals := 21 } : Room) s m args below meth c D 7 A (wC cy ad) (MQ below (poI D (wC cy ad) A r X) args s 0 0 A) X [(0, .ref (ad 5)), (1, .int a1), (2, .int a2)] 0 [] := by
  intro a1 a2 hJ
  unfold jCh_loadOn at hJ
  refine sw_iconst (pc := 0) C (v := (0 : Int32)) dX1_loadOn_0 (by decide) ?_
  refine sw_istore_n (pc := 1) C dX1_loadOn_1 rfl (by decide) (ll2 := [(3, .int (0 : Int32)), (0, .ref (ad 5)), (1, .int a1), (2, .int a2)]) rfl ?_
  refine sw_iload_n (pc := 2) C 2 dX1_loadOn_2 rfl rfl ?_
  refine sw_istore (pc := 3) C dX1_loadOn_3 (by decide) (ll2 := [(4, .int a1), (3, .int (0 : Int32)), (0, .ref (ad 5)), (1, .int a1), (2, .int a2)]) rfl ?_
  refine sw_iconst (pc := 5) C (v := (0 : Int32)) dX1_loadOn_5 (by decide) ?_
  refine sw_istore (pc := 6) C dX1_loadOn_6 (by decide) (ll2 := [(5, .int (0 : Int32)), (4, .int a1), (3, .int (0 : Int32)), (0, .ref (ad 5)), (1, .int a1), (2, .int a2)]) rfl ?_
  exact sw_sub [3, 5, 2, 1, 0] (by rfl) (t_Ch_loadOn_8 C _ _ _ _ _ hJ)
set_option maxHeartbeats 4000000 in
set_option maxRecDepth 100000 in
theorem k_Ch_loadOn {l : Launch} {D : va_G} {cy : Nat → ClassId} {ad : Nat → Nat} {A : Nat → Prop} (hD : ∀ X, va_D A (wC cy ad X)) {X : St} {a1 : Int32} {a2 : Int32} {r : Int32} (hJ : jCh_loadOn X a1 a2 = some r) : Met l yX1_loadOn (wsY yX1_loadOn cX1_loadOn 7 (some .int)) ({ frames := 1, cells := 0, slots := 0, locals := 21 } : Room) (prX D cy (wC cy ad) X [.ref (ad 5), .int a1, .int a2]) (poI D (wC cy ad) A r X) 0 0 A := sw_met (by decide +kernel) (Nat.le_of_ble_eq_true rfl) hD (fun p e s m args below meth c C => t_Ch_loadOn C _ _ hJ)
set_option maxHeartbeats 4000000 in
set_option maxRecDepth 100000 in
theorem t_Ro_turned_6 {p : Program} {l : Launch} {e : Env} {s : State} {m : MethodId} {args : Array Value} {below : List Frame} {meth : Method} {c : Code} {D : va_G} {cy : Nat → ClassId} {ad : Nat → Nat} {A : Nat → Prop} (C : Cx p s m args meth c D cy cX6_turned 4 RX6 (some .int) A (wC cy ad)) {X : St} {r : Int32} : ∀ (n : Nat) (v1 : Int32) (v2 : Int32) (v3 : Int32), jRo_turned_6 n v1 v2 v3 = some r → SW p l e ({ frames := 1, cells := 0, slots := 0, locals := 21 } : Room) s m args below meth c D 4 A (wC cy ad) (MQ below (poI D (wC cy ad) A r X) args s 0 0 A) X [(1, .int v1), (2, .int v2), (3, .int v3)] 6 [] := by
  intro n
  induction n with
  | zero => intro v1 v2 v3 hJ; exact absurd (show (none : Option (Int32)) = some r from hJ) (fun h => by cases h)
  | succ n ih =>
    intro v1 v2 v3 hJ
    rw [jRo_turned_6] at hJ
    refine sw_iload_n (pc := 6) C 2 dX6_turned_6 rfl rfl ?_
    refine sw_bipush (pc := 7) C (v := (7 : Int32)) dX6_turned_7 (by decide) ?_
    refine sw_icmp_ge (pc := 9) (tgt := 36) C dX6_turned_9 (by decide) (fun hb9 => ?_) (fun hb9 => ?_)
    · replace hJ := itep hb9 hJ
      refine sw_iload_n (pc := 36) C 0 dX6_turned_36 rfl rfl ?_
      obtain rfl := Option.some.inj hJ
      exact sw_iret (pc := 37) C dX6_turned_37
    · replace hJ := iten hb9 hJ
      refine sw_iload_n (pc := 12) C 1 dX6_turned_12 rfl rfl ?_
      refine sw_if_eq (pc := 13) (tgt := 36) C dX6_turned_13 (by decide) (fun hb13 => ?_) (fun hb13 => ?_)
      · replace hJ := itep hb13 hJ
        refine sw_iload_n (pc := 36) C 0 dX6_turned_36 rfl rfl ?_
        obtain rfl := Option.some.inj hJ
        exact sw_iret (pc := 37) C dX6_turned_37
      · replace hJ := iten hb13 hJ
        refine sw_iload_n (pc := 16) C 0 dX6_turned_16 rfl rfl ?_
        refine sw_iload_n (pc := 17) C 1 dX6_turned_17 rfl rfl ?_
        obtain ⟨q18, hq18, hJ⟩ := bind_some hJ
        refine sw_callS_i (pc := 18) C (st := [.int v1]) (As := [.int v2]) (k_Ro_top C.2.2.2.2.2.2.1 hq18) pk_X6_top wd_15_23 ⟨Nat.le_of_ble_eq_true rfl, Nat.le_of_ble_eq_true rfl⟩ ⟨rfl, rfl⟩ rfl rfl (Nat.le_of_ble_eq_true rfl) dX6_turned_18 ?_
        obtain ⟨q21, hq21, hJ⟩ := bind_some hJ
        refine sw_callS_i (pc := 21) C (st := []) (As := [.int v1, .int q18]) (k_Ro_with C.2.2.2.2.2.2.1 hq21) pk_X6_with wd_22_13 ⟨Nat.le_of_ble_eq_true rfl, Nat.le_of_ble_eq_true rfl⟩ ⟨rfl, rfl⟩ rfl rfl (Nat.le_of_ble_eq_true rfl) dX6_turned_21 ?_
        refine sw_istore_n (pc := 24) C dX6_turned_24 rfl (by decide) (ll2 := [(1, .int q21), (2, .int v2), (3, .int v3)]) rfl ?_
        refine sw_iload_n (pc := 25) C 1 dX6_turned_25 rfl rfl ?_
        obtain ⟨q26, hq26, hJ⟩ := bind_some hJ
        refine sw_callS_i (pc := 26) C (st := []) (As := [.int v2]) (k_Ro_belowTop C.2.2.2.2.2.2.1 hq26) pk_X6_belowTop wd_16_2 ⟨Nat.le_of_ble_eq_true rfl, Nat.le_of_ble_eq_true rfl⟩ ⟨rfl, rfl⟩ rfl rfl (Nat.le_of_ble_eq_true rfl) dX6_turned_26 ?_
        refine sw_istore_n (pc := 29) C dX6_turned_29 rfl (by decide) (ll2 := [(2, .int q26), (1, .int q21), (3, .int v3)]) rfl ?_
        refine sw_iinc (pc := 30) C 2 dX6_turned_30 rfl (v := (v3 + (1 : Int32))) (congrArg (fun z => v3 + z) (by decide)) (by decide) (ll2 := [(3, .int (v3 + (1 : Int32))), (2, .int q26), (1, .int q21)]) rfl ?_
        refine sw_goto (pc := 33) (tgt := 6) C dX6_turned_33 (by decide) ?_
        exact sw_sub [2, 1, 0] (by rfl) (ih _ _ _ hJ)
set_option maxHeartbeats 4000000 in
set_option maxRecDepth 100000 in
theorem t_Ro_turned {p : Program} {l : Launch} {e : Env} {s : State} {m : MethodId} {args : Array Value} {below : List Frame} {meth : Method} {c : Code} {D : va_G} {cy : Nat → ClassId} {ad : Nat → Nat} {A : Nat → Prop} (C : Cx p s m args meth c D cy cX6_turned 4 RX6 (some .int) A (wC cy ad)) {X : St} {r : Int32} : ∀ (a0 : Int32), jRo_turned a0 = some r → SW p l e ({ frames := 1, cells := 0, slots := 0, locals := 21 } : Room) s m args below meth c D 4 A (wC cy ad) (MQ below (poI D (wC cy ad) A r X) args s 0 0 A) X [(0, .int a0)] 0 [] := by
  intro a0 hJ
  unfold jRo_turned at hJ
  refine sw_iconst (pc := 0) C (v := (0 : Int32)) dX6_turned_0 (by decide) ?_
  refine sw_istore_n (pc := 1) C dX6_turned_1 rfl (by decide) (ll2 := [(1, .int (0 : Int32)), (0, .int a0)]) rfl ?_
  refine sw_iload_n (pc := 2) C 1 dX6_turned_2 rfl rfl ?_
  refine sw_istore_n (pc := 3) C dX6_turned_3 rfl (by decide) (ll2 := [(2, .int a0), (1, .int (0 : Int32)), (0, .int a0)]) rfl ?_
  refine sw_iconst (pc := 4) C (v := (0 : Int32)) dX6_turned_4 (by decide) ?_
  refine sw_istore_n (pc := 5) C dX6_turned_5 rfl (by decide) (ll2 := [(3, .int (0 : Int32)), (2, .int a0), (1, .int (0 : Int32)), (0, .int a0)]) rfl ?_
  exact sw_sub [2, 1, 0] (by rfl) (t_Ro_turned_6 C _ _ _ _ hJ)
set_option maxHeartbeats 4000000 in
set_option maxRecDepth 100000 in
theorem k_Ro_turned {l : Launch} {D : va_G} {cy : Nat → ClassId} {ad : Nat → Nat} {A : Nat → Prop} (hD : ∀ X, va_D A (wC cy ad X)) {X : St} {a0 : Int32} {r : Int32} (hJ : jRo_turned a0 = some r) : Met l yX6_turned (wsY yX6_turned cX6_turned 4 (some .int)) ({ frames := 1, cells := 0, slots := 0, locals := 21 } : Room) (prX D cy (wC cy ad) X [.int a0]) (poI D (wC cy ad) A r X) 0 0 A := sw_met (by decide +kernel) (Nat.le_of_ble_eq_true rfl) hD (fun p e s m args below meth c C => t_Ro_turned C _ hJ)
set_option maxHeartbeats 4000000 in
set_option maxRecDepth 100000 in
theorem t_Me_speak_74 {p : Program} {l : Launch} {e : Env} {s : State} {m : MethodId} {args : Array Value} {below : List Frame} {meth : Method} {c : Code} {D : va_G} {cy : Nat → ClassId} {ad : Nat → Nat} {A : Nat → Prop} (C : Cx p s m args meth c D cy cX4_speak 3 RX4 (some .int) A (wC cy ad)) {X : St} {i0 : Nat} {r : Int32} (hi0 : i0 < 8) : ∀ (v2 : Int32), jMe_speak_74 X i0 v2 = some r → SW p l e ({ frames := 1, cells := 0, slots := 0, locals := 21 } : Room) s m args below meth c D 3 A (wC cy ad) (MQ below (poI D (wC cy ad) A r X) args s 0 0 A) X [(2, .int v2)] 74 [] := by
  intro v2 hJ
  unfold jMe_speak_74 at hJ
  refine sw_iconst (pc := 74) C (v := (0 : Int32)) dX4_speak_74 (by decide) ?_
  refine sw_sipush (pc := 75) C (v := (999 : Int32)) dX4_speak_75 (by decide) ?_
  refine sw_iload_n (pc := 78) C 0 dX4_speak_78 rfl rfl ?_
  refine sw_mmin (pc := 79) C (st := [.int (0 : Int32)]) wd_22_20 wd_13_11 wd_13_12 wd_13_13 ⟨Nat.le_of_ble_eq_true rfl, Nat.le_of_ble_eq_true rfl⟩ dX4_speak_79 ?_
  refine sw_mmax (pc := 82) C (st := []) wd_22_21 wd_22_22 wd_13_12 wd_22_23 ⟨Nat.le_of_ble_eq_true rfl, Nat.le_of_ble_eq_true rfl⟩ dX4_speak_82 ?_
  obtain rfl := Option.some.inj hJ
  exact sw_iret (pc := 85) C dX4_speak_85
set_option maxHeartbeats 4000000 in
set_option maxRecDepth 100000 in
theorem t_Me_speak {p : Program} {l : Launch} {e : Env} {s : State} {m : MethodId} {args : Array Value} {below : List Frame} {meth : Method} {c : Code} {D : va_G} {cy : Nat → ClassId} {ad : Nat → Nat} {A : Nat → Prop} (C : Cx p s m args meth c D cy cX4_speak 3 RX4 (some .int) A (wC cy ad)) {X : St} {i0 : Nat} {r : Int32} (hi0 : i0 < 8) : ∀ (a1 : Int32), jMe_speak X i0 a1 = some r → SW p l e ({ frames := 1, cells := 0, slots := 0, locals := 21 } : Room) s m args below meth c D 3 A (wC cy ad) (MQ below (poI D (wC cy ad) A r X) args s 0 0 A) X [(0, .ref (ad (14 + i0))), (1, .int a1)] 0 [] := by
  intro a1 hJ
  unfold jMe_speak at hJ
  refine sw_iload_n (pc := 0) C 1 dX4_speak_0 rfl rfl ?_
  refine sw_istore_n (pc := 1) C dX4_speak_1 rfl (by decide) (ll2 := [(2, .int a1), (0, .ref (ad (14 + i0))), (1, .int a1)]) rfl ?_
  refine sw_aload_n (pc := 2) C 1 dX4_speak_2 rfl rfl ?_
  refine gC_m_5 (pc := 3) C (i := i0) hi0 wd_22_18 dX4_speak_3 ?_
  by_cases hs6_0 : (sM X i0 5) = (1 : Int32)
  · replace hJ := itep hs6_0 hJ
    refine sw_tblIn (pc := 6) C (1 : Int32) (off := 30) (tgt := 36) dX4_speak_6 hs6_0 (by decide) (by decide) rfl (by decide) ?_
    refine sw_iload_n (pc := 36) C 2 dX4_speak_36 rfl rfl ?_
    refine sw_aload_n (pc := 37) C 1 dX4_speak_37 rfl rfl ?_
    refine gC_m_6 (pc := 38) C (i := i0) hi0 wd_22_19 dX4_speak_38 ?_
    refine sw_iadd (pc := 41) C dX4_speak_41 ?_
    refine sw_istore_n (pc := 42) C dX4_speak_42 rfl (by decide) (ll2 := [(2, .int (a1 + (sM X i0 6))), (0, .ref (ad (14 + i0))), (1, .int a1)]) rfl ?_
    refine sw_goto (pc := 43) (tgt := 74) C dX4_speak_43 (by decide) ?_
    exact sw_sub [0] (by rfl) (t_Me_speak_74 C hi0 _ hJ)
  replace hJ := iten hs6_0 hJ
  by_cases hs6_1 : (sM X i0 5) = (2 : Int32)
  · replace hJ := itep hs6_1 hJ
    refine sw_tblIn (pc := 6) C (2 : Int32) (off := 40) (tgt := 46) dX4_speak_6 hs6_1 (by decide) (by decide) rfl (by decide) ?_
    refine sw_iload_n (pc := 46) C 2 dX4_speak_46 rfl rfl ?_
    refine sw_aload_n (pc := 47) C 1 dX4_speak_47 rfl rfl ?_
    refine gC_m_6 (pc := 48) C (i := i0) hi0 wd_22_19 dX4_speak_48 ?_
    refine sw_isub (pc := 51) C dX4_speak_51 ?_
    refine sw_istore_n (pc := 52) C dX4_speak_52 rfl (by decide) (ll2 := [(2, .int (a1 - (sM X i0 6))), (0, .ref (ad (14 + i0))), (1, .int a1)]) rfl ?_
    refine sw_goto (pc := 53) (tgt := 74) C dX4_speak_53 (by decide) ?_
    exact sw_sub [0] (by rfl) (t_Me_speak_74 C hi0 _ hJ)
  replace hJ := iten hs6_1 hJ
  by_cases hs6_2 : (sM X i0 5) = (3 : Int32)
  · replace hJ := itep hs6_2 hJ
    refine sw_tblIn (pc := 6) C (3 : Int32) (off := 50) (tgt := 56) dX4_speak_6 hs6_2 (by decide) (by decide) rfl (by decide) ?_
    refine sw_iload_n (pc := 56) C 2 dX4_speak_56 rfl rfl ?_
    refine sw_aload_n (pc := 57) C 1 dX4_speak_57 rfl rfl ?_
    refine gC_m_6 (pc := 58) C (i := i0) hi0 wd_22_19 dX4_speak_58 ?_
    refine sw_imul (pc := 61) C dX4_speak_61 ?_
    refine sw_istore_n (pc := 62) C dX4_speak_62 rfl (by decide) (ll2 := [(2, .int (a1 * (sM X i0 6))), (0, .ref (ad (14 + i0))), (1, .int a1)]) rfl ?_
    refine sw_goto (pc := 63) (tgt := 74) C dX4_speak_63 (by decide) ?_
    exact sw_sub [0] (by rfl) (t_Me_speak_74 C hi0 _ hJ)
  replace hJ := iten hs6_2 hJ
  by_cases hs6_3 : (sM X i0 5) = (4 : Int32)
  · replace hJ := itep hs6_3 hJ
    refine sw_tblIn (pc := 6) C (4 : Int32) (off := 60) (tgt := 66) dX4_speak_6 hs6_3 (by decide) (by decide) rfl (by decide) ?_
    refine sw_aload_n (pc := 66) C 1 dX4_speak_66 rfl rfl ?_
    refine gC_m_6 (pc := 67) C (i := i0) hi0 wd_22_19 dX4_speak_67 ?_
    refine sw_istore_n (pc := 70) C dX4_speak_70 rfl (by decide) (ll2 := [(2, .int (sM X i0 6)), (0, .ref (ad (14 + i0))), (1, .int a1)]) rfl ?_
    refine sw_goto (pc := 71) (tgt := 74) C dX4_speak_71 (by decide) ?_
    exact sw_sub [0] (by rfl) (t_Me_speak_74 C hi0 _ hJ)
  replace hJ := iten hs6_3 hJ
  have e6_0 := tbl_ne (1 : Int32) (a := 1) hs6_0 (by decide)
  have e6_1 := tbl_ne (2 : Int32) (a := 2) hs6_1 (by decide)
  have e6_2 := tbl_ne (3 : Int32) (a := 3) hs6_2 (by decide)
  have e6_3 := tbl_ne (4 : Int32) (a := 4) hs6_3 (by decide)
  refine sw_tblOut (pc := 6) (tgt := 74) C dX4_speak_6 (by omega) (by decide) ?_
  exact sw_sub [0] (by rfl) (t_Me_speak_74 C hi0 _ hJ)
set_option maxHeartbeats 4000000 in
set_option maxRecDepth 100000 in
theorem k_Me_speak {l : Launch} {D : va_G} {cy : Nat → ClassId} {ad : Nat → Nat} {A : Nat → Prop} (hD : ∀ X, va_D A (wC cy ad X)) {X : St} {i0 : Nat} {a1 : Int32} {r : Int32} (hi0 : i0 < 8) (hJ : jMe_speak X i0 a1 = some r) : Met l yX4_speak (wsY yX4_speak cX4_speak 3 (some .int)) ({ frames := 1, cells := 0, slots := 0, locals := 21 } : Room) (prX D cy (wC cy ad) X [.ref (ad (14 + i0)), .int a1]) (poI D (wC cy ad) A r X) 0 0 A := sw_met (by decide +kernel) (Nat.le_of_ble_eq_true rfl) hD (fun p e s m args below meth c C => t_Me_speak C hi0 _ hJ)
set_option maxHeartbeats 4000000 in
set_option maxRecDepth 100000 in
theorem t_Ch_billOf_10 {p : Program} {l : Launch} {e : Env} {s : State} {m : MethodId} {args : Array Value} {below : List Frame} {meth : Method} {c : Code} {D : va_G} {cy : Nat → ClassId} {ad : Nat → Nat} {A : Nat → Prop} (C : Cx p s m args meth c D cy cX1_billOf 5 RX1 (some .int) A (wC cy ad)) {X : St} {r : Int32} : ∀ (n : Nat) (v2 : Int32) (v3 : Int32) (v4 : Int32), jCh_billOf_10 X n v2 v3 v4 = some r → SW p l e ({ frames := 2, cells := 0, slots := 0, locals := 44 } : Room) s m args below meth c D 5 A (wC cy ad) (MQ below (poI D (wC cy ad) A r X) args s 0 0 A) X [(0, .ref (ad 5)), (2, .int v2), (3, .int v3), (4, .int v4)] 10 [] := by
  intro n
  induction n with
  | zero => intro v2 v3 v4 hJ; exact absurd (show (none : Option (Int32)) = some r from hJ) (fun h => by cases h)
  | succ n ih =>
    intro v2 v3 v4 hJ
    rw [jCh_billOf_10] at hJ
    refine sw_iload (pc := 10) C 3 dX1_billOf_10 rfl ?_
    refine sw_bipush (pc := 12) C (v := (7 : Int32)) dX1_billOf_12 (by decide) ?_
    refine sw_icmp_ge (pc := 14) (tgt := 45) C dX1_billOf_14 (by decide) (fun hb14 => ?_) (fun hb14 => ?_)
    · replace hJ := itep hb14 hJ
      refine sw_iload_n (pc := 45) C 1 dX1_billOf_45 rfl rfl ?_
      obtain rfl := Option.some.inj hJ
      exact sw_iret (pc := 46) C dX1_billOf_46
    · replace hJ := iten hb14 hJ
      refine sw_iload_n (pc := 17) C 2 dX1_billOf_17 rfl rfl ?_
      refine sw_if_eq (pc := 18) (tgt := 45) C dX1_billOf_18 (by decide) (fun hb18 => ?_) (fun hb18 => ?_)
      · replace hJ := itep hb18 hJ
        refine sw_iload_n (pc := 45) C 1 dX1_billOf_45 rfl rfl ?_
        obtain rfl := Option.some.inj hJ
        exact sw_iret (pc := 46) C dX1_billOf_46
      · replace hJ := iten hb18 hJ
        refine sw_aload_n (pc := 21) C 0 dX1_billOf_21 rfl rfl ?_
        refine sw_iload_n (pc := 22) C 2 dX1_billOf_22 rfl rfl ?_
        obtain ⟨q23, hq23, hJ⟩ := bind_some hJ
        refine sw_callS_i (pc := 23) C (st := [.ref (ad 5)]) (As := [.int v3]) (k_Ro_top C.2.2.2.2.2.2.1 hq23) pk_X6_top wd_16_14 ⟨Nat.le_of_ble_eq_true rfl, Nat.le_of_ble_eq_true rfl⟩ ⟨rfl, rfl⟩ rfl rfl (Nat.le_of_ble_eq_true rfl) dX1_billOf_23 ?_
        obtain ⟨q26, hq26, hJ⟩ := bind_some hJ
        refine sw_callV_r (pc := 26) C (st := []) (As := [.int q23]) (k_Ch_who C.2.2.2.2.2.2.1 hq26) pk_X1_who wd_13_14 5 rfl rfl rfl ⟨Nat.le_of_ble_eq_true rfl, Nat.le_of_ble_eq_true rfl⟩ ⟨rfl, rfl⟩ rfl rfl (Nat.le_of_ble_eq_true rfl) dX1_billOf_26 ?_
        obtain ⟨hm26, hJ⟩ := gd hJ
        refine sw_iload_n (pc := 29) C 1 dX1_billOf_29 rfl rfl ?_
        obtain ⟨q30, hq30, hJ⟩ := bind_some hJ
        refine sw_callV_i (pc := 30) C (st := []) (As := [.int v2]) (k_Me_speak C.2.2.2.2.2.2.1 hm26 hq30) pk_X4_speak wd_22_14 (14 + q26) (wC_mem _ hm26) rfl rfl ⟨Nat.le_of_ble_eq_true rfl, Nat.le_of_ble_eq_true rfl⟩ ⟨rfl, rfl⟩ rfl rfl (Nat.le_of_ble_eq_true rfl) dX1_billOf_30 ?_
        refine sw_istore_n (pc := 33) C dX1_billOf_33 rfl (by decide) (ll2 := [(2, .int q30), (0, .ref (ad 5)), (3, .int v3), (4, .int v4)]) rfl ?_
        refine sw_iload_n (pc := 34) C 2 dX1_billOf_34 rfl rfl ?_
        obtain ⟨q35, hq35, hJ⟩ := bind_some hJ
        refine sw_callS_i (pc := 35) C (st := []) (As := [.int v3]) (k_Ro_belowTop C.2.2.2.2.2.2.1 hq35) pk_X6_belowTop wd_16_19 ⟨Nat.le_of_ble_eq_true rfl, Nat.le_of_ble_eq_true rfl⟩ ⟨rfl, rfl⟩ rfl rfl (Nat.le_of_ble_eq_true rfl) dX1_billOf_35 ?_
        refine sw_istore_n (pc := 38) C dX1_billOf_38 rfl (by decide) (ll2 := [(3, .int q35), (2, .int q30), (0, .ref (ad 5)), (4, .int v4)]) rfl ?_
        refine sw_iinc (pc := 39) C 3 dX1_billOf_39 rfl (v := (v4 + (1 : Int32))) (congrArg (fun z => v4 + z) (by decide)) (by decide) (ll2 := [(4, .int (v4 + (1 : Int32))), (3, .int q35), (2, .int q30), (0, .ref (ad 5))]) rfl ?_
        refine sw_goto (pc := 42) (tgt := 10) C dX1_billOf_42 (by decide) ?_
        exact sw_sub [3, 2, 1, 0] (by rfl) (ih _ _ _ hJ)
set_option maxHeartbeats 4000000 in
set_option maxRecDepth 100000 in
theorem t_Ch_billOf {p : Program} {l : Launch} {e : Env} {s : State} {m : MethodId} {args : Array Value} {below : List Frame} {meth : Method} {c : Code} {D : va_G} {cy : Nat → ClassId} {ad : Nat → Nat} {A : Nat → Prop} (C : Cx p s m args meth c D cy cX1_billOf 5 RX1 (some .int) A (wC cy ad)) {X : St} {r : Int32} : ∀ (a1 : Int32), jCh_billOf X a1 = some r → SW p l e ({ frames := 2, cells := 0, slots := 0, locals := 44 } : Room) s m args below meth c D 5 A (wC cy ad) (MQ below (poI D (wC cy ad) A r X) args s 0 0 A) X [(0, .ref (ad 5)), (1, .int a1)] 0 [] := by
  intro a1 hJ
  unfold jCh_billOf at hJ
  refine sw_iconst (pc := 0) C (v := (0 : Int32)) dX1_billOf_0 (by decide) ?_
  refine sw_istore_n (pc := 1) C dX1_billOf_1 rfl (by decide) (ll2 := [(2, .int (0 : Int32)), (0, .ref (ad 5)), (1, .int a1)]) rfl ?_
  refine sw_iload_n (pc := 2) C 2 dX1_billOf_2 rfl rfl ?_
  obtain ⟨q3, hq3, hJ⟩ := bind_some hJ
  refine sw_callS_i (pc := 3) C (st := []) (As := [.int a1]) (k_Ro_turned C.2.2.2.2.2.2.1 hq3) pk_X6_turned wd_22_10 ⟨Nat.le_of_ble_eq_true rfl, Nat.le_of_ble_eq_true rfl⟩ ⟨rfl, rfl⟩ rfl rfl (Nat.le_of_ble_eq_true rfl) dX1_billOf_3 ?_
  refine sw_istore_n (pc := 6) C dX1_billOf_6 rfl (by decide) (ll2 := [(3, .int q3), (2, .int (0 : Int32)), (0, .ref (ad 5)), (1, .int a1)]) rfl ?_
  refine sw_iconst (pc := 7) C (v := (0 : Int32)) dX1_billOf_7 (by decide) ?_
  refine sw_istore (pc := 8) C dX1_billOf_8 (by decide) (ll2 := [(4, .int (0 : Int32)), (3, .int q3), (2, .int (0 : Int32)), (0, .ref (ad 5)), (1, .int a1)]) rfl ?_
  exact sw_sub [3, 2, 1, 0] (by rfl) (t_Ch_billOf_10 C _ _ _ _ hJ)
set_option maxHeartbeats 4000000 in
set_option maxRecDepth 100000 in
theorem k_Ch_billOf {l : Launch} {D : va_G} {cy : Nat → ClassId} {ad : Nat → Nat} {A : Nat → Prop} (hD : ∀ X, va_D A (wC cy ad X)) {X : St} {a1 : Int32} {r : Int32} (hJ : jCh_billOf X a1 = some r) : Met l yX1_billOf (wsY yX1_billOf cX1_billOf 5 (some .int)) ({ frames := 2, cells := 0, slots := 0, locals := 44 } : Room) (prX D cy (wC cy ad) X [.ref (ad 5), .int a1]) (poI D (wC cy ad) A r X) 0 0 A := sw_met (by decide +kernel) (Nat.le_of_ble_eq_true rfl) hD (fun p e s m args below meth c C => t_Ch_billOf C _ hJ)
set_option maxHeartbeats 4000000 in
set_option maxRecDepth 100000 in
theorem t_Ro_size_2 {p : Program} {l : Launch} {e : Env} {s : State} {m : MethodId} {args : Array Value} {below : List Frame} {meth : Method} {c : Code} {D : va_G} {cy : Nat → ClassId} {ad : Nat → Nat} {A : Nat → Prop} (C : Cx p s m args meth c D cy cX6_size 2 RX6 (some .int) A (wC cy ad)) {X : St} {r : Int32} : ∀ (n : Nat) (v0 : Int32) (v1 : Int32), jRo_size_2 n v0 v1 = some r → SW p l e ({ frames := 0, cells := 0, slots := 0, locals := 0 } : Room) s m args below meth c D 2 A (wC cy ad) (MQ below (poI D (wC cy ad) A r X) args s 0 0 A) X [(0, .int v0), (1, .int v1)] 2 [] := by
  intro n
  induction n with
  | zero => intro v0 v1 hJ; exact absurd (show (none : Option (Int32)) = some r from hJ) (fun h => by cases h)
  | succ n ih =>
    intro v0 v1 hJ
    rw [jRo_size_2] at hJ
    refine sw_iload_n (pc := 2) C 1 dX6_size_2 rfl rfl ?_
    refine sw_bipush (pc := 3) C (v := (7 : Int32)) dX6_size_3 (by decide) ?_
    refine sw_icmp_ge (pc := 5) (tgt := 22) C dX6_size_5 (by decide) (fun hb5 => ?_) (fun hb5 => ?_)
    · replace hJ := itep hb5 hJ
      refine sw_iload_n (pc := 22) C 1 dX6_size_22 rfl rfl ?_
      obtain rfl := Option.some.inj hJ
      exact sw_iret (pc := 23) C dX6_size_23
    · replace hJ := iten hb5 hJ
      refine sw_iload_n (pc := 8) C 0 dX6_size_8 rfl rfl ?_
      refine sw_iconst (pc := 9) C (v := (3 : Int32)) dX6_size_9 (by decide) ?_
      refine sw_iload_n (pc := 10) C 1 dX6_size_10 rfl rfl ?_
      refine sw_imul (pc := 11) C dX6_size_11 ?_
      refine sw_iushr (pc := 12) C dX6_size_12 ?_
      refine sw_if_eq (pc := 13) (tgt := 22) C dX6_size_13 (by decide) (fun hb13 => ?_) (fun hb13 => ?_)
      · replace hJ := itep hb13 hJ
        refine sw_iload_n (pc := 22) C 1 dX6_size_22 rfl rfl ?_
        obtain rfl := Option.some.inj hJ
        exact sw_iret (pc := 23) C dX6_size_23
      · replace hJ := iten hb13 hJ
        refine sw_iinc (pc := 16) C 1 dX6_size_16 rfl (v := (v1 + (1 : Int32))) (congrArg (fun z => v1 + z) (by decide)) (by decide) (ll2 := [(1, .int (v1 + (1 : Int32))), (0, .int v0)]) rfl ?_
        refine sw_goto (pc := 19) (tgt := 2) C dX6_size_19 (by decide) ?_
        exact sw_sub [1, 0] (by rfl) (ih _ _ hJ)
set_option maxHeartbeats 4000000 in
set_option maxRecDepth 100000 in
theorem t_Ro_size {p : Program} {l : Launch} {e : Env} {s : State} {m : MethodId} {args : Array Value} {below : List Frame} {meth : Method} {c : Code} {D : va_G} {cy : Nat → ClassId} {ad : Nat → Nat} {A : Nat → Prop} (C : Cx p s m args meth c D cy cX6_size 2 RX6 (some .int) A (wC cy ad)) {X : St} {r : Int32} : ∀ (a0 : Int32), jRo_size a0 = some r → SW p l e ({ frames := 0, cells := 0, slots := 0, locals := 0 } : Room) s m args below meth c D 2 A (wC cy ad) (MQ below (poI D (wC cy ad) A r X) args s 0 0 A) X [(0, .int a0)] 0 [] := by
  intro a0 hJ
  unfold jRo_size at hJ
  refine sw_iconst (pc := 0) C (v := (0 : Int32)) dX6_size_0 (by decide) ?_
  refine sw_istore_n (pc := 1) C dX6_size_1 rfl (by decide) (ll2 := [(1, .int (0 : Int32)), (0, .int a0)]) rfl ?_
  exact sw_sub [1, 0] (by rfl) (t_Ro_size_2 C _ _ _ hJ)
set_option maxHeartbeats 4000000 in
set_option maxRecDepth 100000 in
theorem k_Ro_size {l : Launch} {D : va_G} {cy : Nat → ClassId} {ad : Nat → Nat} {A : Nat → Prop} (hD : ∀ X, va_D A (wC cy ad X)) {X : St} {a0 : Int32} {r : Int32} (hJ : jRo_size a0 = some r) : Met l yX6_size (wsY yX6_size cX6_size 2 (some .int)) ({ frames := 0, cells := 0, slots := 0, locals := 0 } : Room) (prX D cy (wC cy ad) X [.int a0]) (poI D (wC cy ad) A r X) 0 0 A := sw_met (by decide +kernel) (Nat.le_of_ble_eq_true rfl) hD (fun p e s m args below meth c C => t_Ro_size C _ hJ)
set_option maxHeartbeats 4000000 in
set_option maxRecDepth 100000 in
theorem t_Ro_memberAt {p : Program} {l : Launch} {e : Env} {s : State} {m : MethodId} {args : Array Value} {below : List Frame} {meth : Method} {c : Code} {D : va_G} {cy : Nat → ClassId} {ad : Nat → Nat} {A : Nat → Prop} (C : Cx p s m args meth c D cy cX6_memberAt 3 RX6 (some .int) A (wC cy ad)) {X : St} {r : Int32} : ∀ (a0 : Int32) (a1 : Int32), jRo_memberAt a0 a1 = some r → SW p l e ({ frames := 1, cells := 0, slots := 0, locals := 21 } : Room) s m args below meth c D 3 A (wC cy ad) (MQ below (poI D (wC cy ad) A r X) args s 0 0 A) X [(0, .int a0), (1, .int a1)] 0 [] := by
  intro a0 a1 hJ
  unfold jRo_memberAt at hJ
  refine sw_iload_n (pc := 0) C 0 dX6_memberAt_0 rfl rfl ?_
  obtain ⟨q1, hq1, hJ⟩ := bind_some hJ
  refine sw_callS_i (pc := 1) C (st := []) (As := [.int a0]) (k_Ro_size C.2.2.2.2.2.2.1 hq1) pk_X6_size wd_15_20 ⟨Nat.le_of_ble_eq_true rfl, Nat.le_of_ble_eq_true rfl⟩ ⟨rfl, rfl⟩ rfl rfl (Nat.le_of_ble_eq_true rfl) dX6_memberAt_1 ?_
  refine sw_istore_n (pc := 4) C dX6_memberAt_4 rfl (by decide) (ll2 := [(2, .int q1), (0, .int a0), (1, .int a1)]) rfl ?_
  refine sw_iload_n (pc := 5) C 2 dX6_memberAt_5 rfl rfl ?_
  refine sw_iconst (pc := 6) C (v := (1 : Int32)) dX6_memberAt_6 (by decide) ?_
  refine sw_icmp_lt (pc := 7) (tgt := 15) C dX6_memberAt_7 (by decide) (fun hb7 => ?_) (fun hb7 => ?_)
  · replace hJ := itep hb7 hJ
    refine sw_iconst (pc := 15) C (v := (-1 : Int32)) dX6_memberAt_15 (by decide) ?_
    obtain rfl := Option.some.inj hJ
    exact sw_iret (pc := 16) C dX6_memberAt_16
  · replace hJ := iten hb7 hJ
    refine sw_iload_n (pc := 10) C 2 dX6_memberAt_10 rfl rfl ?_
    refine sw_iload_n (pc := 11) C 0 dX6_memberAt_11 rfl rfl ?_
    refine sw_icmp_le (pc := 12) (tgt := 17) C dX6_memberAt_12 (by decide) (fun hb12 => ?_) (fun hb12 => ?_)
    · replace hJ := itep hb12 hJ
      refine sw_iload_n (pc := 17) C 1 dX6_memberAt_17 rfl rfl ?_
      refine sw_iconst (pc := 18) C (v := (3 : Int32)) dX6_memberAt_18 (by decide) ?_
      refine sw_iload_n (pc := 19) C 0 dX6_memberAt_19 rfl rfl ?_
      refine sw_iload_n (pc := 20) C 2 dX6_memberAt_20 rfl rfl ?_
      refine sw_isub (pc := 21) C dX6_memberAt_21 ?_
      refine sw_imul (pc := 22) C dX6_memberAt_22 ?_
      refine sw_iushr (pc := 23) C dX6_memberAt_23 ?_
      obtain ⟨q24, hq24, hJ⟩ := bind_some hJ
      refine sw_callS_i (pc := 24) C (st := []) (As := [.int (ush a0 ((3 : Int32) * (q1 - a1)))]) (k_Ro_top C.2.2.2.2.2.2.1 hq24) pk_X6_top wd_15_23 ⟨Nat.le_of_ble_eq_true rfl, Nat.le_of_ble_eq_true rfl⟩ ⟨rfl, rfl⟩ rfl rfl (Nat.le_of_ble_eq_true rfl) dX6_memberAt_24 ?_
      obtain rfl := Option.some.inj hJ
      exact sw_iret (pc := 27) C dX6_memberAt_27
    · replace hJ := iten hb12 hJ
      refine sw_iconst (pc := 15) C (v := (-1 : Int32)) dX6_memberAt_15 (by decide) ?_
      obtain rfl := Option.some.inj hJ
      exact sw_iret (pc := 16) C dX6_memberAt_16
set_option maxHeartbeats 4000000 in
set_option maxRecDepth 100000 in
theorem k_Ro_memberAt {l : Launch} {D : va_G} {cy : Nat → ClassId} {ad : Nat → Nat} {A : Nat → Prop} (hD : ∀ X, va_D A (wC cy ad X)) {X : St} {a0 : Int32} {a1 : Int32} {r : Int32} (hJ : jRo_memberAt a0 a1 = some r) : Met l yX6_memberAt (wsY yX6_memberAt cX6_memberAt 3 (some .int)) ({ frames := 1, cells := 0, slots := 0, locals := 21 } : Room) (prX D cy (wC cy ad) X [.int a0, .int a1]) (poI D (wC cy ad) A r X) 0 0 A := sw_met (by decide +kernel) (Nat.le_of_ble_eq_true rfl) hD (fun p e s m args below meth c C => t_Ro_memberAt C _ _ hJ)
set_option maxHeartbeats 4000000 in
set_option maxRecDepth 100000 in
theorem t_Ch_insert_40 {p : Program} {l : Launch} {e : Env} {s : State} {m : MethodId} {args : Array Value} {below : List Frame} {meth : Method} {c : Code} {D : va_G} {cy : Nat → ClassId} {ad : Nat → Nat} {A : Nat → Prop} (C : Cx p s m args meth c D cy cX1_insert 4 RX1 none A (wC cy ad)) {ak : Nat} {r : St} (hak : b7 ak) : ∀ (X : St) (v2 : Int32) (v3 : Int32), jCh_insert_40 ak X v2 v3 = some r → SW p l e ({ frames := 0, cells := 0, slots := 0, locals := 0 } : Room) s m args below meth c D 4 A (wC cy ad) (MQ below (poV D (wC cy ad) A r) args s 0 0 A) X [(0, .ref (ad ak)), (2, .int v2), (3, .int v3)] 40 [] := by
  intro X v2 v3 hJ
  unfold jCh_insert_40 at hJ
  refine sw_aload_n (pc := 40) C 0 dX1_insert_40 rfl rfl ?_
  refine sw_iload_n (pc := 41) C 2 dX1_insert_41 rfl rfl ?_
  refine sw_iload_n (pc := 42) C 1 dX1_insert_42 rfl rfl ?_
  obtain ⟨hi43, hJ⟩ := gd hJ
  refine tC_b (pc := 43) C hak hi43 dX1_insert_43 ?_
  obtain rfl := Option.some.inj hJ
  exact sw_vret (pc := 44) C dX1_insert_44
set_option maxHeartbeats 4000000 in
set_option maxRecDepth 100000 in
theorem t_Ch_insert_13 {p : Program} {l : Launch} {e : Env} {s : State} {m : MethodId} {args : Array Value} {below : List Frame} {meth : Method} {c : Code} {D : va_G} {cy : Nat → ClassId} {ad : Nat → Nat} {A : Nat → Prop} (C : Cx p s m args meth c D cy cX1_insert 4 RX1 none A (wC cy ad)) {ak : Nat} {r : St} (hak : b7 ak) : ∀ (n : Nat) (X : St) (v2 : Int32) (v3 : Int32), jCh_insert_13 ak n X v2 v3 = some r → SW p l e ({ frames := 0, cells := 0, slots := 0, locals := 0 } : Room) s m args below meth c D 4 A (wC cy ad) (MQ below (poV D (wC cy ad) A r) args s 0 0 A) X [(0, .ref (ad ak)), (2, .int v2), (3, .int v3)] 13 [] := by
  intro n
  induction n with
  | zero => intro X v2 v3 hJ; exact absurd (show (none : Option (St)) = some r from hJ) (fun h => by cases h)
  | succ n ih =>
    intro X v2 v3 hJ
    rw [jCh_insert_13] at hJ
    refine sw_iload_n (pc := 13) C 2 dX1_insert_13 rfl rfl ?_
    refine sw_if_le (pc := 14) (tgt := 40) C dX1_insert_14 (by decide) (fun hb14 => ?_) (fun hb14 => ?_)
    · replace hJ := itep hb14 hJ
      exact sw_sub [0, 1, 2] (by rfl) (t_Ch_insert_40 C hak _ _ _ hJ)
    · replace hJ := iten hb14 hJ
      refine sw_aload_n (pc := 17) C 0 dX1_insert_17 rfl rfl ?_
      refine sw_iload_n (pc := 18) C 2 dX1_insert_18 rfl rfl ?_
      refine sw_iconst (pc := 19) C (v := (1 : Int32)) dX1_insert_19 (by decide) ?_
      refine sw_isub (pc := 20) C dX1_insert_20 ?_
      obtain ⟨hi21, hJ⟩ := gd hJ
      refine lC_b (pc := 21) C hak hi21 dX1_insert_21 ?_
      refine sw_iload_n (pc := 22) C 1 dX1_insert_22 rfl rfl ?_
      refine sw_icmp_le (pc := 23) (tgt := 40) C dX1_insert_23 (by decide) (fun hb23 => ?_) (fun hb23 => ?_)
      · replace hJ := itep hb23 hJ
        exact sw_sub [0, 1, 2] (by rfl) (t_Ch_insert_40 C hak _ _ _ hJ)
      · replace hJ := iten hb23 hJ
        refine sw_aload_n (pc := 26) C 0 dX1_insert_26 rfl rfl ?_
        refine sw_iload_n (pc := 27) C 2 dX1_insert_27 rfl rfl ?_
        refine sw_aload_n (pc := 28) C 0 dX1_insert_28 rfl rfl ?_
        refine sw_iload_n (pc := 29) C 2 dX1_insert_29 rfl rfl ?_
        refine sw_iconst (pc := 30) C (v := (1 : Int32)) dX1_insert_30 (by decide) ?_
        refine sw_isub (pc := 31) C dX1_insert_31 ?_
        obtain ⟨hi32, hJ⟩ := gd hJ
        refine lC_b (pc := 32) C hak hi32 dX1_insert_32 ?_
        obtain ⟨hi33, hJ⟩ := gd hJ
        refine tC_b (pc := 33) C hak hi33 dX1_insert_33 ?_
        refine sw_iinc (pc := 34) C 2 dX1_insert_34 rfl (v := (v3 + (-1 : Int32))) (congrArg (fun z => v3 + z) (by decide)) (by decide) (ll2 := [(3, .int (v3 + (-1 : Int32))), (0, .ref (ad ak)), (2, .int v2)]) rfl ?_
        refine sw_goto (pc := 37) (tgt := 13) C dX1_insert_37 (by decide) ?_
        exact sw_sub [1, 2, 0] (by rfl) (ih _ _ _ hJ)
set_option maxHeartbeats 4000000 in
set_option maxRecDepth 100000 in
theorem t_Ch_insert {p : Program} {l : Launch} {e : Env} {s : State} {m : MethodId} {args : Array Value} {below : List Frame} {meth : Method} {c : Code} {D : va_G} {cy : Nat → ClassId} {ad : Nat → Nat} {A : Nat → Prop} (C : Cx p s m args meth c D cy cX1_insert 4 RX1 none A (wC cy ad)) {ak : Nat} {r : St} (hak : b7 ak) : ∀ (X : St) (a1 : Int32) (a2 : Int32), jCh_insert ak X a1 a2 = some r → SW p l e ({ frames := 0, cells := 0, slots := 0, locals := 0 } : Room) s m args below meth c D 4 A (wC cy ad) (MQ below (poV D (wC cy ad) A r) args s 0 0 A) X [(0, .ref (ad ak)), (1, .int a1), (2, .int a2)] 0 [] := by
  intro X a1 a2 hJ
  unfold jCh_insert at hJ
  refine sw_iload_n (pc := 0) C 1 dX1_insert_0 rfl rfl ?_
  refine sw_if_lt (pc := 1) (tgt := 10) C dX1_insert_1 (by decide) (fun hb1 => ?_) (fun hb1 => ?_)
  · replace hJ := itep hb1 hJ
    obtain rfl := Option.some.inj hJ
    exact sw_vret (pc := 10) C dX1_insert_10
  · replace hJ := iten hb1 hJ
    refine sw_iload_n (pc := 4) C 1 dX1_insert_4 rfl rfl ?_
    refine sw_aload_n (pc := 5) C 0 dX1_insert_5 rfl rfl ?_
    refine nC_b (pc := 6) C hak dX1_insert_6 ?_
    refine sw_icmp_lt (pc := 7) (tgt := 11) C dX1_insert_7 (by decide) (fun hb7 => ?_) (fun hb7 => ?_)
    · replace hJ := itep hb7 hJ
      refine sw_iload_n (pc := 11) C 1 dX1_insert_11 rfl rfl ?_
      refine sw_istore_n (pc := 12) C dX1_insert_12 rfl (by decide) (ll2 := [(3, .int a1), (0, .ref (ad ak)), (1, .int a1), (2, .int a2)]) rfl ?_
      exact sw_sub [1, 3, 0] (by rfl) (t_Ch_insert_13 C hak _ _ _ _ hJ)
    · replace hJ := iten hb7 hJ
      obtain rfl := Option.some.inj hJ
      exact sw_vret (pc := 10) C dX1_insert_10
set_option maxHeartbeats 4000000 in
set_option maxRecDepth 100000 in
theorem k_Ch_insert {l : Launch} {D : va_G} {cy : Nat → ClassId} {ad : Nat → Nat} {A : Nat → Prop} (hD : ∀ X, va_D A (wC cy ad X)) {X : St} {ak : Nat} {a1 : Int32} {a2 : Int32} {r : St} (hak : b7 ak) (hJ : jCh_insert ak X a1 a2 = some r) : Met l yX1_insert (wsY yX1_insert cX1_insert 4 none) ({ frames := 0, cells := 0, slots := 0, locals := 0 } : Room) (prX D cy (wC cy ad) X [.ref (ad ak), .int a1, .int a2]) (poV D (wC cy ad) A r) 0 0 A := sw_met (by decide +kernel) (Nat.le_of_ble_eq_true rfl) hD (fun p e s m args below meth c C => t_Ch_insert C hak _ _ _ hJ)
set_option maxHeartbeats 4000000 in
set_option maxRecDepth 100000 in
theorem t_Ch_bestSpare_86 {p : Program} {l : Launch} {e : Env} {s : State} {m : MethodId} {args : Array Value} {below : List Frame} {meth : Method} {c : Code} {D : va_G} {cy : Nat → ClassId} {ad : Nat → Nat} {A : Nat → Prop} (C : Cx p s m args meth c D cy cX1_bestSpare 6 RX1 (some .int) A (wC cy ad)) {r : Int32 × St} : ∀ (n : Nat) (X : St) (v2 : Int32) (v3 : Int32) (v4 : Int32), jCh_bestSpare_86 n X v2 v3 v4 = some r → SW p l e ({ frames := 2, cells := 0, slots := 0, locals := 47 } : Room) s m args below meth c D 6 A (wC cy ad) (MQ below (poI D (wC cy ad) A r.1 r.2) args s 0 0 A) X [(0, .ref (ad 5)), (2, .int v2), (3, .int v3), (4, .int v4)] 86 [] := by
  intro n
  induction n with
  | zero => intro X v2 v3 v4 hJ; exact absurd (show (none : Option (Int32 × St)) = some r from hJ) (fun h => by cases h)
  | succ n ih =>
    intro X v2 v3 v4 hJ
    rw [jCh_bestSpare_86] at hJ
    refine sw_iload (pc := 86) C 3 dX1_bestSpare_86 rfl ?_
    refine sw_iload_n (pc := 88) C 1 dX1_bestSpare_88 rfl rfl ?_
    refine sw_icmp_ge (pc := 89) (tgt := 125) C dX1_bestSpare_89 (by decide) (fun hb89 => ?_) (fun hb89 => ?_)
    · replace hJ := itep hb89 hJ
      refine sw_iload_n (pc := 125) C 2 dX1_bestSpare_125 rfl rfl ?_
      obtain rfl := Option.some.inj hJ
      exact sw_iret (pc := 126) C dX1_bestSpare_126
    · replace hJ := iten hb89 hJ
      refine sw_iload (pc := 92) C 3 dX1_bestSpare_92 rfl ?_
      refine sw_bipush (pc := 94) C (v := (7 : Int32)) dX1_bestSpare_94 (by decide) ?_
      refine sw_icmp_ge (pc := 96) (tgt := 125) C dX1_bestSpare_96 (by decide) (fun hb96 => ?_) (fun hb96 => ?_)
      · replace hJ := itep hb96 hJ
        refine sw_iload_n (pc := 125) C 2 dX1_bestSpare_125 rfl rfl ?_
        obtain rfl := Option.some.inj hJ
        exact sw_iret (pc := 126) C dX1_bestSpare_126
      · replace hJ := iten hb96 hJ
        refine sw_iload_n (pc := 99) C 2 dX1_bestSpare_99 rfl rfl ?_
        refine sw_aload_n (pc := 100) C 0 dX1_bestSpare_100 rfl rfl ?_
        refine gC_5_2 (pc := 101) C wd_3_12 dX1_bestSpare_101 ?_
        refine sw_iload (pc := 104) C 3 dX1_bestSpare_104 rfl ?_
        obtain ⟨hi106, hJ⟩ := gd hJ
        refine lC_7 (pc := 106) C hi106 dX1_bestSpare_106 ?_
        refine sw_aload_n (pc := 107) C 0 dX1_bestSpare_107 rfl rfl ?_
        refine gC_5_3 (pc := 108) C wd_3_13 dX1_bestSpare_108 ?_
        refine sw_iload (pc := 111) C 3 dX1_bestSpare_111 rfl ?_
        obtain ⟨hi113, hJ⟩ := gd hJ
        refine lC_8 (pc := 113) C hi113 dX1_bestSpare_113 ?_
        refine sw_isub (pc := 114) C dX1_bestSpare_114 ?_
        refine sw_mmin (pc := 115) C (st := []) wd_13_10 wd_13_11 wd_13_12 wd_13_13 ⟨Nat.le_of_ble_eq_true rfl, Nat.le_of_ble_eq_true rfl⟩ dX1_bestSpare_115 ?_
        refine sw_istore_n (pc := 118) C dX1_bestSpare_118 rfl (by decide) (ll2 := [(3, .int (if ((sA X 7 v4.toNatClampNeg) - (sA X 8 v4.toNatClampNeg)) < v3 then ((sA X 7 v4.toNatClampNeg) - (sA X 8 v4.toNatClampNeg)) else v3)), (0, .ref (ad 5)), (2, .int v2), (4, .int v4)]) rfl ?_
        refine sw_iinc (pc := 119) C 3 dX1_bestSpare_119 rfl (v := (v4 + (1 : Int32))) (congrArg (fun z => v4 + z) (by decide)) (by decide) (ll2 := [(4, .int (v4 + (1 : Int32))), (3, .int (if ((sA X 7 v4.toNatClampNeg) - (sA X 8 v4.toNatClampNeg)) < v3 then ((sA X 7 v4.toNatClampNeg) - (sA X 8 v4.toNatClampNeg)) else v3)), (0, .ref (ad 5)), (2, .int v2)]) rfl ?_
        refine sw_goto (pc := 122) (tgt := 86) C dX1_bestSpare_122 (by decide) ?_
        exact sw_sub [2, 3, 1, 0] (by rfl) (ih _ _ _ _ hJ)
set_option maxHeartbeats 4000000 in
set_option maxRecDepth 100000 in
theorem t_Ch_bestSpare_7 {p : Program} {l : Launch} {e : Env} {s : State} {m : MethodId} {args : Array Value} {below : List Frame} {meth : Method} {c : Code} {D : va_G} {cy : Nat → ClassId} {ad : Nat → Nat} {A : Nat → Prop} (C : Cx p s m args meth c D cy cX1_bestSpare 6 RX1 (some .int) A (wC cy ad)) {r : Int32 × St} : ∀ (n : Nat) (X : St) (v1 : Int32) (v2 : Int32) (v3 : Int32), jCh_bestSpare_7 n X v1 v2 v3 = some r → SW p l e ({ frames := 2, cells := 0, slots := 0, locals := 47 } : Room) s m args below meth c D 6 A (wC cy ad) (MQ below (poI D (wC cy ad) A r.1 r.2) args s 0 0 A) X [(0, .ref (ad 5)), (1, .int v1), (2, .int v2), (3, .int v3)] 7 [] := by
  intro n
  induction n with
  | zero => intro X v1 v2 v3 hJ; exact absurd (show (none : Option (Int32 × St)) = some r from hJ) (fun h => by cases h)
  | succ n ih =>
    intro X v1 v2 v3 hJ
    rw [jCh_bestSpare_7] at hJ
    refine sw_iload_n (pc := 7) C 3 dX1_bestSpare_7 rfl rfl ?_
    refine sw_iload_n (pc := 8) C 2 dX1_bestSpare_8 rfl rfl ?_
    refine sw_icmp_ge (pc := 9) (tgt := 69) C dX1_bestSpare_9 (by decide) (fun hb9 => ?_) (fun hb9 => ?_)
    · replace hJ := itep hb9 hJ
      refine sw_aload_n (pc := 69) C 0 dX1_bestSpare_69 rfl rfl ?_
      refine gC_5_2 (pc := 70) C wd_3_12 dX1_bestSpare_70 ?_
      refine sw_iconst (pc := 73) C (v := (0 : Int32)) dX1_bestSpare_73 (by decide) ?_
      obtain ⟨hi74, hJ⟩ := gd hJ
      refine lC_7 (pc := 74) C hi74 dX1_bestSpare_74 ?_
      refine sw_aload_n (pc := 75) C 0 dX1_bestSpare_75 rfl rfl ?_
      refine gC_5_3 (pc := 76) C wd_3_13 dX1_bestSpare_76 ?_
      refine sw_iconst (pc := 79) C (v := (0 : Int32)) dX1_bestSpare_79 (by decide) ?_
      obtain ⟨hi80, hJ⟩ := gd hJ
      refine lC_8 (pc := 80) C hi80 dX1_bestSpare_80 ?_
      refine sw_isub (pc := 81) C dX1_bestSpare_81 ?_
      refine sw_istore_n (pc := 82) C dX1_bestSpare_82 rfl (by decide) (ll2 := [(3, .int ((sA X 7 (0 : Int32).toNatClampNeg) - (sA X 8 (0 : Int32).toNatClampNeg))), (0, .ref (ad 5)), (1, .int v1), (2, .int v2)]) rfl ?_
      refine sw_iconst (pc := 83) C (v := (1 : Int32)) dX1_bestSpare_83 (by decide) ?_
      refine sw_istore (pc := 84) C dX1_bestSpare_84 (by decide) (ll2 := [(4, .int (1 : Int32)), (3, .int ((sA X 7 (0 : Int32).toNatClampNeg) - (sA X 8 (0 : Int32).toNatClampNeg))), (0, .ref (ad 5)), (1, .int v1), (2, .int v2)]) rfl ?_
      exact sw_sub [2, 4, 1, 0] (by rfl) (t_Ch_bestSpare_86 C _ _ _ _ _ hJ)
    · replace hJ := iten hb9 hJ
      refine sw_iload_n (pc := 12) C 1 dX1_bestSpare_12 rfl rfl ?_
      refine sw_iload_n (pc := 13) C 3 dX1_bestSpare_13 rfl rfl ?_
      refine sw_iconst (pc := 14) C (v := (1 : Int32)) dX1_bestSpare_14 (by decide) ?_
      refine sw_iadd (pc := 15) C dX1_bestSpare_15 ?_
      obtain ⟨q16, hq16, hJ⟩ := bind_some hJ
      refine sw_callS_i (pc := 16) C (st := []) (As := [.int v1, .int (v3 + (1 : Int32))]) (k_Ro_memberAt C.2.2.2.2.2.2.1 hq16) pk_X6_memberAt wd_29_7 ⟨Nat.le_of_ble_eq_true rfl, Nat.le_of_ble_eq_true rfl⟩ ⟨rfl, rfl⟩ rfl rfl (Nat.le_of_ble_eq_true rfl) dX1_bestSpare_16 ?_
      refine sw_istore (pc := 19) C dX1_bestSpare_19 (by decide) (ll2 := [(4, .int q16), (0, .ref (ad 5)), (1, .int v1), (2, .int v2), (3, .int v3)]) rfl ?_
      refine sw_aload_n (pc := 21) C 1 dX1_bestSpare_21 rfl rfl ?_
      refine sw_iload (pc := 22) C 0 dX1_bestSpare_22 rfl ?_
      obtain ⟨q24, hq24, hJ⟩ := bind_some hJ
      refine sw_callV_r (pc := 24) C (st := []) (As := [.int q16]) (k_Ch_who C.2.2.2.2.2.2.1 hq24) pk_X1_who wd_13_14 5 rfl rfl rfl ⟨Nat.le_of_ble_eq_true rfl, Nat.le_of_ble_eq_true rfl⟩ ⟨rfl, rfl⟩ rfl rfl (Nat.le_of_ble_eq_true rfl) dX1_bestSpare_24 ?_
      obtain ⟨hm24, hJ⟩ := gd hJ
      refine sw_astore (pc := 27) C dX1_bestSpare_27 (by decide) (ll2 := [(5, .ref (ad (14 + q24))), (4, .int q16), (0, .ref (ad 5)), (1, .int v1), (2, .int v2), (3, .int v3)]) rfl ?_
      refine sw_aload_n (pc := 29) C 2 dX1_bestSpare_29 rfl rfl ?_
      refine gC_5_2 (pc := 30) C wd_3_12 dX1_bestSpare_30 ?_
      refine sw_iload_n (pc := 33) C 5 dX1_bestSpare_33 rfl rfl ?_
      refine sw_aload (pc := 34) C 0 dX1_bestSpare_34 rfl ?_
      refine gC_m_4N (pc := 36) C (i := q24) hm24 nd_F7 dX1_bestSpare_36 ?_
      obtain ⟨q39, hq39, hJ⟩ := bind_some hJ
      refine sw_callS_v (pc := 39) C (st := []) (As := [.ref (ad 7), .int v3, .int (sM X q24 4)]) (k_Ch_insert C.2.2.2.2.2.2.1 b7_7 hq39) pk_X1_insert wd_29_8 ⟨Nat.le_of_ble_eq_true rfl, Nat.le_of_ble_eq_true rfl⟩ ⟨rfl, rfl⟩ rfl rfl (Nat.le_of_ble_eq_true rfl) dX1_bestSpare_39 ?_
      refine sw_aload_n (pc := 42) C 2 dX1_bestSpare_42 rfl rfl ?_
      refine gC_5_3 (pc := 43) C wd_3_13 dX1_bestSpare_43 ?_
      refine sw_iload_n (pc := 46) C 5 dX1_bestSpare_46 rfl rfl ?_
      refine sw_aload_n (pc := 47) C 2 dX1_bestSpare_47 rfl rfl ?_
      refine sw_iload_n (pc := 48) C 3 dX1_bestSpare_48 rfl rfl ?_
      refine sw_iload (pc := 49) C 1 dX1_bestSpare_49 rfl ?_
      obtain ⟨q51, hq51, hJ⟩ := bind_some hJ
      refine sw_callV_i (pc := 51) C (st := [.int v3, .ref (ad 8)]) (As := [.int v1, .int q16]) (k_Ch_loadOn C.2.2.2.2.2.2.1 hq51) pk_X1_loadOn wd_29_11 5 rfl rfl rfl ⟨Nat.le_of_ble_eq_true rfl, Nat.le_of_ble_eq_true rfl⟩ ⟨rfl, rfl⟩ rfl rfl (Nat.le_of_ble_eq_true rfl) dX1_bestSpare_51 ?_
      refine sw_aload (pc := 54) C 0 dX1_bestSpare_54 rfl ?_
      refine gC_m_10N (pc := 56) C (i := q24) hm24 nd_F15 dX1_bestSpare_56 ?_
      refine sw_isub (pc := 59) C dX1_bestSpare_59 ?_
      obtain ⟨q60, hq60, hJ⟩ := bind_some hJ
      refine sw_callS_v (pc := 60) C (st := []) (As := [.ref (ad 8), .int v3, .int (q51 - (sM q39 q24 10))]) (k_Ch_insert C.2.2.2.2.2.2.1 b7_8 hq60) pk_X1_insert wd_29_8 ⟨Nat.le_of_ble_eq_true rfl, Nat.le_of_ble_eq_true rfl⟩ ⟨rfl, rfl⟩ rfl rfl (Nat.le_of_ble_eq_true rfl) dX1_bestSpare_60 ?_
      refine sw_iinc (pc := 63) C 5 dX1_bestSpare_63 rfl (v := (v3 + (1 : Int32))) (congrArg (fun z => v3 + z) (by decide)) (by decide) (ll2 := [(3, .int (v3 + (1 : Int32))), (5, .ref (ad (14 + q24))), (4, .int q16), (0, .ref (ad 5)), (1, .int v1), (2, .int v2)]) rfl ?_
      refine sw_goto (pc := 66) (tgt := 7) C dX1_bestSpare_66 (by decide) ?_
      exact sw_sub [3, 4, 5, 0] (by rfl) (ih _ _ _ _ hJ)
set_option maxHeartbeats 4000000 in
set_option maxRecDepth 100000 in
theorem t_Ch_bestSpare {p : Program} {l : Launch} {e : Env} {s : State} {m : MethodId} {args : Array Value} {below : List Frame} {meth : Method} {c : Code} {D : va_G} {cy : Nat → ClassId} {ad : Nat → Nat} {A : Nat → Prop} (C : Cx p s m args meth c D cy cX1_bestSpare 6 RX1 (some .int) A (wC cy ad)) {r : Int32 × St} : ∀ (X : St) (a1 : Int32), jCh_bestSpare X a1 = some r → SW p l e ({ frames := 2, cells := 0, slots := 0, locals := 47 } : Room) s m args below meth c D 6 A (wC cy ad) (MQ below (poI D (wC cy ad) A r.1 r.2) args s 0 0 A) X [(0, .ref (ad 5)), (1, .int a1)] 0 [] := by
  intro X a1 hJ
  unfold jCh_bestSpare at hJ
  refine sw_iload_n (pc := 0) C 1 dX1_bestSpare_0 rfl rfl ?_
  obtain ⟨q1, hq1, hJ⟩ := bind_some hJ
  refine sw_callS_i (pc := 1) C (st := []) (As := [.int a1]) (k_Ro_size C.2.2.2.2.2.2.1 hq1) pk_X6_size wd_29_6 ⟨Nat.le_of_ble_eq_true rfl, Nat.le_of_ble_eq_true rfl⟩ ⟨rfl, rfl⟩ rfl rfl (Nat.le_of_ble_eq_true rfl) dX1_bestSpare_1 ?_
  refine sw_istore_n (pc := 4) C dX1_bestSpare_4 rfl (by decide) (ll2 := [(2, .int q1), (0, .ref (ad 5)), (1, .int a1)]) rfl ?_
  refine sw_iconst (pc := 5) C (v := (0 : Int32)) dX1_bestSpare_5 (by decide) ?_
  refine sw_istore_n (pc := 6) C dX1_bestSpare_6 rfl (by decide) (ll2 := [(3, .int (0 : Int32)), (2, .int q1), (0, .ref (ad 5)), (1, .int a1)]) rfl ?_
  exact sw_sub [2, 3, 1, 0] (by rfl) (t_Ch_bestSpare_7 C _ _ _ _ _ hJ)
set_option maxHeartbeats 4000000 in
set_option maxRecDepth 100000 in
theorem k_Ch_bestSpare {l : Launch} {D : va_G} {cy : Nat → ClassId} {ad : Nat → Nat} {A : Nat → Prop} (hD : ∀ X, va_D A (wC cy ad X)) {X : St} {a1 : Int32} {r : Int32 × St} (hJ : jCh_bestSpare X a1 = some r) : Met l yX1_bestSpare (wsY yX1_bestSpare cX1_bestSpare 6 (some .int)) ({ frames := 2, cells := 0, slots := 0, locals := 47 } : Room) (prX D cy (wC cy ad) X [.ref (ad 5), .int a1]) (poI D (wC cy ad) A r.1 r.2) 0 0 A := sw_met (by decide +kernel) (Nat.le_of_ble_eq_true rfl) hD (fun p e s m args below meth c C => t_Ch_bestSpare C _ _ hJ)
set_option maxHeartbeats 4000000 in
set_option maxRecDepth 100000 in
theorem t_Ch_sideOnTop {p : Program} {l : Launch} {e : Env} {s : State} {m : MethodId} {args : Array Value} {below : List Frame} {meth : Method} {c : Code} {D : va_G} {cy : Nat → ClassId} {ad : Nat → Nat} {A : Nat → Prop} (C : Cx p s m args meth c D cy cX1_sideOnTop 3 RX1 (some .int) A (wC cy ad)) {X : St} {r : Int32} : ∀ (a1 : Int32), jCh_sideOnTop X a1 = some r → SW p l e ({ frames := 1, cells := 0, slots := 0, locals := 21 } : Room) s m args below meth c D 3 A (wC cy ad) (MQ below (poI D (wC cy ad) A r X) args s 0 0 A) X [(0, .ref (ad 5)), (1, .int a1)] 0 [] := by
  intro a1 hJ
  unfold jCh_sideOnTop at hJ
  refine sw_iload_n (pc := 0) C 1 dX1_sideOnTop_0 rfl rfl ?_
  refine sw_if_ne (pc := 1) (tgt := 6) C dX1_sideOnTop_1 (by decide) (fun hb1 => ?_) (fun hb1 => ?_)
  · replace hJ := iten hb1 hJ
    refine sw_aload_n (pc := 6) C 0 dX1_sideOnTop_6 rfl rfl ?_
    refine sw_iload_n (pc := 7) C 1 dX1_sideOnTop_7 rfl rfl ?_
    obtain ⟨q8, hq8, hJ⟩ := bind_some hJ
    refine sw_callS_i (pc := 8) C (st := [.ref (ad 5)]) (As := [.int a1]) (k_Ro_top C.2.2.2.2.2.2.1 hq8) pk_X6_top wd_16_14 ⟨Nat.le_of_ble_eq_true rfl, Nat.le_of_ble_eq_true rfl⟩ ⟨rfl, rfl⟩ rfl rfl (Nat.le_of_ble_eq_true rfl) dX1_sideOnTop_8 ?_
    obtain ⟨q11, hq11, hJ⟩ := bind_some hJ
    refine sw_callV_r (pc := 11) C (st := []) (As := [.int q8]) (k_Ch_who C.2.2.2.2.2.2.1 hq11) pk_X1_who wd_13_14 5 rfl rfl rfl ⟨Nat.le_of_ble_eq_true rfl, Nat.le_of_ble_eq_true rfl⟩ ⟨rfl, rfl⟩ rfl rfl (Nat.le_of_ble_eq_true rfl) dX1_sideOnTop_11 ?_
    obtain ⟨hm11, hJ⟩ := gd hJ
    refine gC_m_3N (pc := 14) C (i := q11) hm11 nd_F4 dX1_sideOnTop_14 ?_
    refine sw_istore_n (pc := 17) C dX1_sideOnTop_17 rfl (by decide) (ll2 := [(2, .int (sM X q11 3)), (0, .ref (ad 5)), (1, .int a1)]) rfl ?_
    refine sw_iload_n (pc := 18) C 0 dX1_sideOnTop_18 rfl rfl ?_
    refine sw_if_ne (pc := 19) (tgt := 26) C dX1_sideOnTop_19 (by decide) (fun hb19 => ?_) (fun hb19 => ?_)
    · replace hJ := iten hb19 hJ
      refine sw_iload_n (pc := 26) C 0 dX1_sideOnTop_26 rfl rfl ?_
      refine sw_iconst (pc := 27) C (v := (1 : Int32)) dX1_sideOnTop_27 (by decide) ?_
      refine sw_icmp_ne (pc := 28) (tgt := 35) C dX1_sideOnTop_28 (by decide) (fun hb28 => ?_) (fun hb28 => ?_)
      · replace hJ := iten hb28 hJ
        refine sw_iconst (pc := 35) C (v := (0 : Int32)) dX1_sideOnTop_35 (by decide) ?_
        obtain rfl := Option.some.inj hJ
        exact sw_iret (pc := 36) C dX1_sideOnTop_36
      · replace hJ := itep hb28 hJ
        refine sw_iconst (pc := 31) C (v := (-1 : Int32)) dX1_sideOnTop_31 (by decide) ?_
        refine sw_goto (pc := 32) (tgt := 36) C dX1_sideOnTop_32 (by decide) ?_
        obtain rfl := Option.some.inj hJ
        exact sw_iret (pc := 36) C dX1_sideOnTop_36
    · replace hJ := itep hb19 hJ
      refine sw_iconst (pc := 22) C (v := (1 : Int32)) dX1_sideOnTop_22 (by decide) ?_
      refine sw_goto (pc := 23) (tgt := 36) C dX1_sideOnTop_23 (by decide) ?_
      obtain rfl := Option.some.inj hJ
      exact sw_iret (pc := 36) C dX1_sideOnTop_36
  · replace hJ := itep hb1 hJ
    refine sw_iconst (pc := 4) C (v := (0 : Int32)) dX1_sideOnTop_4 (by decide) ?_
    obtain rfl := Option.some.inj hJ
    exact sw_iret (pc := 5) C dX1_sideOnTop_5
set_option maxHeartbeats 4000000 in
set_option maxRecDepth 100000 in
theorem k_Ch_sideOnTop {l : Launch} {D : va_G} {cy : Nat → ClassId} {ad : Nat → Nat} {A : Nat → Prop} (hD : ∀ X, va_D A (wC cy ad X)) {X : St} {a1 : Int32} {r : Int32} (hJ : jCh_sideOnTop X a1 = some r) : Met l yX1_sideOnTop (wsY yX1_sideOnTop cX1_sideOnTop 3 (some .int)) ({ frames := 1, cells := 0, slots := 0, locals := 21 } : Room) (prX D cy (wC cy ad) X [.ref (ad 5), .int a1]) (poI D (wC cy ad) A r X) 0 0 A := sw_met (by decide +kernel) (Nat.le_of_ble_eq_true rfl) hD (fun p e s m args below meth c C => t_Ch_sideOnTop C _ hJ)
set_option maxHeartbeats 4000000 in
set_option maxRecDepth 100000 in
theorem t_Ch_bruise_7 {p : Program} {l : Launch} {e : Env} {s : State} {m : MethodId} {args : Array Value} {below : List Frame} {meth : Method} {c : Code} {D : va_G} {cy : Nat → ClassId} {ad : Nat → Nat} {A : Nat → Prop} (C : Cx p s m args meth c D cy cX1_bruise 4 RX1 none A (wC cy ad)) {r : St} : ∀ (n : Nat) (X : St) (v2 : Int32) (v3 : Int32), jCh_bruise_7 n X v2 v3 = some r → SW p l e ({ frames := 2, cells := 0, slots := 0, locals := 43 } : Room) s m args below meth c D 4 A (wC cy ad) (MQ below (poV D (wC cy ad) A r) args s 0 0 A) X [(0, .ref (ad 5)), (2, .int v2), (3, .int v3)] 7 [] := by
  intro n
  induction n with
  | zero => intro X v2 v3 hJ; exact absurd (show (none : Option (St)) = some r from hJ) (fun h => by cases h)
  | succ n ih =>
    intro X v2 v3 hJ
    rw [jCh_bruise_7] at hJ
    refine sw_iload_n (pc := 7) C 2 dX1_bruise_7 rfl rfl ?_
    refine sw_aload_n (pc := 8) C 0 dX1_bruise_8 rfl rfl ?_
    refine gC_5_4 (pc := 9) C wd_13_5 dX1_bruise_9 ?_
    refine sw_icmp_ge (pc := 12) (tgt := 39) C dX1_bruise_12 (by decide) (fun hb12 => ?_) (fun hb12 => ?_)
    · replace hJ := itep hb12 hJ
      obtain rfl := Option.some.inj hJ
      exact sw_vret (pc := 39) C dX1_bruise_39
    · replace hJ := iten hb12 hJ
      refine sw_aload_n (pc := 15) C 0 dX1_bruise_15 rfl rfl ?_
      refine sw_iload_n (pc := 16) C 2 dX1_bruise_16 rfl rfl ?_
      obtain ⟨q17, hq17, hJ⟩ := bind_some hJ
      refine sw_callV_r (pc := 17) C (st := []) (As := [.int v3]) (k_Ch_who C.2.2.2.2.2.2.1 hq17) pk_X1_who wd_13_14 5 rfl rfl rfl ⟨Nat.le_of_ble_eq_true rfl, Nat.le_of_ble_eq_true rfl⟩ ⟨rfl, rfl⟩ rfl rfl (Nat.le_of_ble_eq_true rfl) dX1_bruise_17 ?_
      obtain ⟨hm17, hJ⟩ := gd hJ
      refine sw_dup (pc := 20) C dX1_bruise_20 rfl ?_
      refine gC_m_7N (pc := 21) C (i := q17) hm17 nd_F12 dX1_bruise_21 ?_
      refine sw_iload_n (pc := 24) C 1 dX1_bruise_24 rfl rfl ?_
      refine sw_iload_n (pc := 25) C 2 dX1_bruise_25 rfl rfl ?_
      refine sw_iushr (pc := 26) C dX1_bruise_26 ?_
      refine sw_iconst (pc := 27) C (v := (1 : Int32)) dX1_bruise_27 (by decide) ?_
      refine sw_iand (pc := 28) C dX1_bruise_28 ?_
      refine sw_iadd (pc := 29) C dX1_bruise_29 ?_
      refine pC_m_7N (pc := 30) C (i := q17) hm17 nd_F12 dX1_bruise_30 ?_
      refine sw_iinc (pc := 33) C 2 dX1_bruise_33 rfl (v := (v3 + (1 : Int32))) (congrArg (fun z => v3 + z) (by decide)) (by decide) (ll2 := [(3, .int (v3 + (1 : Int32))), (0, .ref (ad 5)), (2, .int v2)]) rfl ?_
      refine sw_goto (pc := 36) (tgt := 7) C dX1_bruise_36 (by decide) ?_
      exact sw_sub [1, 2, 0] (by rfl) (ih _ _ _ hJ)
set_option maxHeartbeats 4000000 in
set_option maxRecDepth 100000 in
theorem t_Ch_bruise {p : Program} {l : Launch} {e : Env} {s : State} {m : MethodId} {args : Array Value} {below : List Frame} {meth : Method} {c : Code} {D : va_G} {cy : Nat → ClassId} {ad : Nat → Nat} {A : Nat → Prop} (C : Cx p s m args meth c D cy cX1_bruise 4 RX1 none A (wC cy ad)) {r : St} : ∀ (X : St) (a1 : Int32), jCh_bruise X a1 = some r → SW p l e ({ frames := 2, cells := 0, slots := 0, locals := 43 } : Room) s m args below meth c D 4 A (wC cy ad) (MQ below (poV D (wC cy ad) A r) args s 0 0 A) X [(0, .ref (ad 5)), (1, .int a1)] 0 [] := by
  intro X a1 hJ
  unfold jCh_bruise at hJ
  refine sw_iload_n (pc := 0) C 1 dX1_bruise_0 rfl rfl ?_
  obtain ⟨q1, hq1, hJ⟩ := bind_some hJ
  refine sw_callS_i (pc := 1) C (st := []) (As := [.int a1]) (k_Ro_members C.2.2.2.2.2.2.1 hq1) pk_X6_members wd_18_23 ⟨Nat.le_of_ble_eq_true rfl, Nat.le_of_ble_eq_true rfl⟩ ⟨rfl, rfl⟩ rfl rfl (Nat.le_of_ble_eq_true rfl) dX1_bruise_1 ?_
  refine sw_istore_n (pc := 4) C dX1_bruise_4 rfl (by decide) (ll2 := [(2, .int q1), (0, .ref (ad 5)), (1, .int a1)]) rfl ?_
  refine sw_iconst (pc := 5) C (v := (0 : Int32)) dX1_bruise_5 (by decide) ?_
  refine sw_istore_n (pc := 6) C dX1_bruise_6 rfl (by decide) (ll2 := [(3, .int (0 : Int32)), (2, .int q1), (0, .ref (ad 5)), (1, .int a1)]) rfl ?_
  exact sw_sub [2, 1, 0] (by rfl) (t_Ch_bruise_7 C _ _ _ _ hJ)
set_option maxHeartbeats 4000000 in
set_option maxRecDepth 100000 in
theorem k_Ch_bruise {l : Launch} {D : va_G} {cy : Nat → ClassId} {ad : Nat → Nat} {A : Nat → Prop} (hD : ∀ X, va_D A (wC cy ad X)) {X : St} {a1 : Int32} {r : St} (hJ : jCh_bruise X a1 = some r) : Met l yX1_bruise (wsY yX1_bruise cX1_bruise 4 none) ({ frames := 2, cells := 0, slots := 0, locals := 43 } : Room) (prX D cy (wC cy ad) X [.ref (ad 5), .int a1]) (poV D (wC cy ad) A r) 0 0 A := sw_met (by decide +kernel) (Nat.le_of_ble_eq_true rfl) hD (fun p e s m args below meth c C => t_Ch_bruise C _ _ hJ)
set_option maxHeartbeats 4000000 in
set_option maxRecDepth 100000 in
theorem t_Dt_begin {p : Program} {l : Launch} {e : Env} {s : State} {m : MethodId} {args : Array Value} {below : List Frame} {meth : Method} {c : Code} {D : va_G} {cy : Nat → ClassId} {ad : Nat → Nat} {A : Nat → Prop} (C : Cx p s m args meth c D cy cX2_begin 1 RX2 none A (wC cy ad)) {r : St} : ∀ (X : St), jDt_begin X = some r → SW p l e ({ frames := 0, cells := 0, slots := 0, locals := 0 } : Room) s m args below meth c D 1 A (wC cy ad) (MQ below (poV D (wC cy ad) A r) args s 0 0 A) X [(0, .ref (ad 4))] 0 [] := by
  intro X hJ
  unfold jDt_begin at hJ
  refine sw_aload_n (pc := 0) C 0 dX2_begin_0 rfl rfl ?_
  refine sw_iconst (pc := 1) C (v := (0 : Int32)) dX2_begin_1 (by decide) ?_
  refine pC_4_0 (pc := 2) C wd_7_14 dX2_begin_2 ?_
  refine sw_aload_n (pc := 5) C 0 dX2_begin_5 rfl rfl ?_
  refine sw_iconst (pc := 6) C (v := (0 : Int32)) dX2_begin_6 (by decide) ?_
  refine pC_4_1 (pc := 7) C wd_7_15 dX2_begin_7 ?_
  obtain rfl := Option.some.inj hJ
  exact sw_vret (pc := 10) C dX2_begin_10
set_option maxHeartbeats 4000000 in
set_option maxRecDepth 100000 in
theorem k_Dt_begin {l : Launch} {D : va_G} {cy : Nat → ClassId} {ad : Nat → Nat} {A : Nat → Prop} (hD : ∀ X, va_D A (wC cy ad X)) {X : St}  {r : St} (hJ : jDt_begin X = some r) : Met l yX2_begin (wsY yX2_begin cX2_begin 1 none) ({ frames := 0, cells := 0, slots := 0, locals := 0 } : Room) (prX D cy (wC cy ad) X [.ref (ad 4)]) (poV D (wC cy ad) A r) 0 0 A := sw_met (by decide +kernel) (Nat.le_of_ble_eq_true rfl) hD (fun p e s m args below meth c C => t_Dt_begin C _ hJ)
set_option maxHeartbeats 4000000 in
set_option maxRecDepth 100000 in
theorem t_T_isBetween {p : Program} {l : Launch} {e : Env} {s : State} {m : MethodId} {args : Array Value} {below : List Frame} {meth : Method} {c : Code} {D : va_G} {cy : Nat → ClassId} {ad : Nat → Nat} {A : Nat → Prop} (C : Cx p s m args meth c D cy cX9_isBetween 3 RX9 (some .boolean) A (wC cy ad)) {X : St} {r : Int32} : ∀ (a0 : Int32) (a1 : Int32) (a2 : Int32), jT_isBetween a0 a1 a2 = some r → SW p l e ({ frames := 0, cells := 0, slots := 0, locals := 0 } : Room) s m args below meth c D 3 A (wC cy ad) (MQ below (poI D (wC cy ad) A r X) args s 0 0 A) X [(0, .int a0), (1, .int a1), (2, .int a2)] 0 [] := by
  intro a0 a1 a2 hJ
  unfold jT_isBetween at hJ
  refine sw_iload_n (pc := 0) C 0 dX9_isBetween_0 rfl rfl ?_
  refine sw_iload_n (pc := 1) C 1 dX9_isBetween_1 rfl rfl ?_
  refine sw_icmp_lt (pc := 2) (tgt := 14) C dX9_isBetween_2 (by decide) (fun hb2 => ?_) (fun hb2 => ?_)
  · replace hJ := itep hb2 hJ
    refine sw_iconst (pc := 14) C (v := (0 : Int32)) dX9_isBetween_14 (by decide) ?_
    obtain rfl := Option.some.inj hJ
    exact sw_zret (pc := 15) (v := (0 : Int32)) C (by decide) dX9_isBetween_15
  · replace hJ := iten hb2 hJ
    refine sw_iload_n (pc := 5) C 0 dX9_isBetween_5 rfl rfl ?_
    refine sw_iload_n (pc := 6) C 2 dX9_isBetween_6 rfl rfl ?_
    refine sw_icmp_gt (pc := 7) (tgt := 14) C dX9_isBetween_7 (by decide) (fun hb7 => ?_) (fun hb7 => ?_)
    · replace hJ := itep hb7 hJ
      refine sw_iconst (pc := 14) C (v := (0 : Int32)) dX9_isBetween_14 (by decide) ?_
      obtain rfl := Option.some.inj hJ
      exact sw_zret (pc := 15) (v := (0 : Int32)) C (by decide) dX9_isBetween_15
    · replace hJ := iten hb7 hJ
      refine sw_iconst (pc := 10) C (v := (1 : Int32)) dX9_isBetween_10 (by decide) ?_
      refine sw_goto (pc := 11) (tgt := 15) C dX9_isBetween_11 (by decide) ?_
      obtain rfl := Option.some.inj hJ
      exact sw_zret (pc := 15) (v := (1 : Int32)) C (by decide) dX9_isBetween_15
set_option maxHeartbeats 4000000 in
set_option maxRecDepth 100000 in
theorem k_T_isBetween {l : Launch} {D : va_G} {cy : Nat → ClassId} {ad : Nat → Nat} {A : Nat → Prop} (hD : ∀ X, va_D A (wC cy ad X)) {X : St} {a0 : Int32} {a1 : Int32} {a2 : Int32} {r : Int32} (hJ : jT_isBetween a0 a1 a2 = some r) : Met l yX9_isBetween (wsY yX9_isBetween cX9_isBetween 3 (some .boolean)) ({ frames := 0, cells := 0, slots := 0, locals := 0 } : Room) (prX D cy (wC cy ad) X [.int a0, .int a1, .int a2]) (poI D (wC cy ad) A r X) 0 0 A := sw_met (by decide +kernel) (Nat.le_of_ble_eq_true rfl) hD (fun p e s m args below meth c C => t_T_isBetween C _ _ _ hJ)
set_option maxHeartbeats 4000000 in
set_option maxRecDepth 100000 in
theorem t_Dt_takes {p : Program} {l : Launch} {e : Env} {s : State} {m : MethodId} {args : Array Value} {below : List Frame} {meth : Method} {c : Code} {D : va_G} {cy : Nat → ClassId} {ad : Nat → Nat} {A : Nat → Prop} (C : Cx p s m args meth c D cy cX2_takes 3 RX2 (some .boolean) A (wC cy ad)) {r : Int32 × St} : ∀ (X : St) (a1 : Int32), jDt_takes X a1 = some r → SW p l e ({ frames := 1, cells := 0, slots := 0, locals := 22 } : Room) s m args below meth c D 3 A (wC cy ad) (MQ below (poI D (wC cy ad) A r.1 r.2) args s 0 0 A) X [(0, .ref (ad 4)), (1, .int a1)] 0 [] := by
  intro X a1 hJ
  unfold jDt_takes at hJ
  refine sw_iload_n (pc := 0) C 1 dX2_takes_0 rfl rfl ?_
  refine sw_bipush (pc := 1) C (v := (48 : Int32)) dX2_takes_1 (by decide) ?_
  refine sw_isub (pc := 3) C dX2_takes_3 ?_
  refine sw_istore_n (pc := 4) C dX2_takes_4 rfl (by decide) (ll2 := [(2, .int (a1 - (48 : Int32))), (0, .ref (ad 4)), (1, .int a1)]) rfl ?_
  refine sw_iload_n (pc := 5) C 0 dX2_takes_5 rfl rfl ?_
  refine sw_iconst (pc := 6) C (v := (0 : Int32)) dX2_takes_6 (by decide) ?_
  refine sw_bipush (pc := 7) C (v := (6 : Int32)) dX2_takes_7 (by decide) ?_
  obtain ⟨q9, hq9, hJ⟩ := bind_some hJ
  refine sw_callSN_i (pc := 9) C (st := []) (As := [.int (a1 - (48 : Int32)), .int (0 : Int32), .int (6 : Int32)]) (k_T_isBetween C.2.2.2.2.2.2.1 hq9) pk_X9_isBetween nd_M5 ⟨Nat.le_of_ble_eq_true rfl, Nat.le_of_ble_eq_true rfl⟩ ⟨rfl, rfl⟩ rfl rfl (Nat.le_of_ble_eq_true rfl) dX2_takes_9 ?_
  refine sw_if_eq (pc := 12) (tgt := 27) C dX2_takes_12 (by decide) (fun hb12 => ?_) (fun hb12 => ?_)
  · replace hJ := itep hb12 hJ
    refine sw_iconst (pc := 27) C (v := (0 : Int32)) dX2_takes_27 (by decide) ?_
    obtain rfl := Option.some.inj hJ
    exact sw_zret (pc := 28) (v := (0 : Int32)) C (by decide) dX2_takes_28
  · replace hJ := iten hb12 hJ
    refine sw_aload_n (pc := 15) C 1 dX2_takes_15 rfl rfl ?_
    refine gC_4_0 (pc := 16) C wd_7_14 dX2_takes_16 ?_
    refine sw_iload_n (pc := 19) C 0 dX2_takes_19 rfl rfl ?_
    refine sw_iushr (pc := 20) C dX2_takes_20 ?_
    refine sw_iconst (pc := 21) C (v := (1 : Int32)) dX2_takes_21 (by decide) ?_
    refine sw_iand (pc := 22) C dX2_takes_22 ?_
    refine sw_iconst (pc := 23) C (v := (1 : Int32)) dX2_takes_23 (by decide) ?_
    refine sw_icmp_ne (pc := 24) (tgt := 29) C dX2_takes_24 (by decide) (fun hb24 => ?_) (fun hb24 => ?_)
    · replace hJ := iten hb24 hJ
      refine sw_aload_n (pc := 29) C 1 dX2_takes_29 rfl rfl ?_
      refine sw_dup (pc := 30) C dX2_takes_30 rfl ?_
      refine gC_4_0 (pc := 31) C wd_7_14 dX2_takes_31 ?_
      refine sw_iconst (pc := 34) C (v := (1 : Int32)) dX2_takes_34 (by decide) ?_
      refine sw_iload_n (pc := 35) C 0 dX2_takes_35 rfl rfl ?_
      refine sw_ishl (pc := 36) C dX2_takes_36 ?_
      refine sw_ior (pc := 37) C dX2_takes_37 ?_
      refine pC_4_0 (pc := 38) C wd_7_14 dX2_takes_38 ?_
      refine sw_aload_n (pc := 41) C 1 dX2_takes_41 rfl rfl ?_
      refine sw_aload_n (pc := 42) C 1 dX2_takes_42 rfl rfl ?_
      refine gC_4_1 (pc := 43) C wd_7_15 dX2_takes_43 ?_
      refine sw_iload_n (pc := 46) C 0 dX2_takes_46 rfl rfl ?_
      obtain ⟨q47, hq47, hJ⟩ := bind_some hJ
      refine sw_callS_i (pc := 47) C (st := [.ref (ad 4)]) (As := [.int (sF (pF X 64 ((sF X 64) ||| ((1 : Int32) <<< ((a1 - (48 : Int32)) &&& 31)))) 65), .int (a1 - (48 : Int32))]) (k_Ro_with C.2.2.2.2.2.2.1 hq47) pk_X6_with wd_8_11 ⟨Nat.le_of_ble_eq_true rfl, Nat.le_of_ble_eq_true rfl⟩ ⟨rfl, rfl⟩ rfl rfl (Nat.le_of_ble_eq_true rfl) dX2_takes_47 ?_
      refine pC_4_1 (pc := 50) C wd_7_15 dX2_takes_50 ?_
      refine sw_iconst (pc := 53) C (v := (1 : Int32)) dX2_takes_53 (by decide) ?_
      obtain rfl := Option.some.inj hJ
      exact sw_zret (pc := 54) (v := (1 : Int32)) C (by decide) dX2_takes_54
    · replace hJ := itep hb24 hJ
      refine sw_iconst (pc := 27) C (v := (0 : Int32)) dX2_takes_27 (by decide) ?_
      obtain rfl := Option.some.inj hJ
      exact sw_zret (pc := 28) (v := (0 : Int32)) C (by decide) dX2_takes_28
set_option maxHeartbeats 4000000 in
set_option maxRecDepth 100000 in
theorem k_Dt_takes {l : Launch} {D : va_G} {cy : Nat → ClassId} {ad : Nat → Nat} {A : Nat → Prop} (hD : ∀ X, va_D A (wC cy ad X)) {X : St} {a1 : Int32} {r : Int32 × St} (hJ : jDt_takes X a1 = some r) : Met l yX2_takes (wsY yX2_takes cX2_takes 3 (some .boolean)) ({ frames := 1, cells := 0, slots := 0, locals := 22 } : Room) (prX D cy (wC cy ad) X [.ref (ad 4), .int a1]) (poI D (wC cy ad) A r.1 r.2) 0 0 A := sw_met (by decide +kernel) (Nat.le_of_ble_eq_true rfl) hD (fun p e s m args below meth c C => t_Dt_takes C _ _ hJ)
set_option maxHeartbeats 4000000 in
set_option maxRecDepth 100000 in
theorem t_Dt_canEnd {p : Program} {l : Launch} {e : Env} {s : State} {m : MethodId} {args : Array Value} {below : List Frame} {meth : Method} {c : Code} {D : va_G} {cy : Nat → ClassId} {ad : Nat → Nat} {A : Nat → Prop} (C : Cx p s m args meth c D cy cX2_canEnd 1 RX2 (some .boolean) A (wC cy ad)) {X : St} {r : Int32} : jDt_canEnd X = some r → SW p l e ({ frames := 0, cells := 0, slots := 0, locals := 0 } : Room) s m args below meth c D 1 A (wC cy ad) (MQ below (poI D (wC cy ad) A r X) args s 0 0 A) X [(0, .ref (ad 4))] 0 [] := by
  intro  hJ
  unfold jDt_canEnd at hJ
  refine sw_aload_n (pc := 0) C 0 dX2_canEnd_0 rfl rfl ?_
  refine gC_4_0 (pc := 1) C wd_7_14 dX2_canEnd_1 ?_
  refine sw_if_eq (pc := 4) (tgt := 11) C dX2_canEnd_4 (by decide) (fun hb4 => ?_) (fun hb4 => ?_)
  · replace hJ := itep hb4 hJ
    refine sw_iconst (pc := 11) C (v := (0 : Int32)) dX2_canEnd_11 (by decide) ?_
    obtain rfl := Option.some.inj hJ
    exact sw_zret (pc := 12) (v := (0 : Int32)) C (by decide) dX2_canEnd_12
  · replace hJ := iten hb4 hJ
    refine sw_iconst (pc := 7) C (v := (1 : Int32)) dX2_canEnd_7 (by decide) ?_
    refine sw_goto (pc := 8) (tgt := 12) C dX2_canEnd_8 (by decide) ?_
    obtain rfl := Option.some.inj hJ
    exact sw_zret (pc := 12) (v := (1 : Int32)) C (by decide) dX2_canEnd_12
set_option maxHeartbeats 4000000 in
set_option maxRecDepth 100000 in
theorem k_Dt_canEnd {l : Launch} {D : va_G} {cy : Nat → ClassId} {ad : Nat → Nat} {A : Nat → Prop} (hD : ∀ X, va_D A (wC cy ad X)) {X : St}  {r : Int32} (hJ : jDt_canEnd X = some r) : Met l yX2_canEnd (wsY yX2_canEnd cX2_canEnd 1 (some .boolean)) ({ frames := 0, cells := 0, slots := 0, locals := 0 } : Room) (prX D cy (wC cy ad) X [.ref (ad 4)]) (poI D (wC cy ad) A r X) 0 0 A := sw_met (by decide +kernel) (Nat.le_of_ble_eq_true rfl) hD (fun p e s m args below meth c C => t_Dt_canEnd C hJ)
set_option maxHeartbeats 4000000 in
set_option maxRecDepth 100000 in
theorem t_Dt_said {p : Program} {l : Launch} {e : Env} {s : State} {m : MethodId} {args : Array Value} {below : List Frame} {meth : Method} {c : Code} {D : va_G} {cy : Nat → ClassId} {ad : Nat → Nat} {A : Nat → Prop} (C : Cx p s m args meth c D cy cX2_said 1 RX2 (some .int) A (wC cy ad)) {X : St} {r : Int32} : jDt_said X = some r → SW p l e ({ frames := 0, cells := 0, slots := 0, locals := 0 } : Room) s m args below meth c D 1 A (wC cy ad) (MQ below (poI D (wC cy ad) A r X) args s 0 0 A) X [(0, .ref (ad 4))] 0 [] := by
  intro  hJ
  unfold jDt_said at hJ
  refine sw_aload_n (pc := 0) C 0 dX2_said_0 rfl rfl ?_
  refine gC_4_0 (pc := 1) C wd_7_14 dX2_said_1 ?_
  obtain rfl := Option.some.inj hJ
  exact sw_iret (pc := 4) C dX2_said_4
set_option maxHeartbeats 4000000 in
set_option maxRecDepth 100000 in
theorem k_Dt_said {l : Launch} {D : va_G} {cy : Nat → ClassId} {ad : Nat → Nat} {A : Nat → Prop} (hD : ∀ X, va_D A (wC cy ad X)) {X : St}  {r : Int32} (hJ : jDt_said X = some r) : Met l yX2_said (wsY yX2_said cX2_said 1 (some .int)) ({ frames := 0, cells := 0, slots := 0, locals := 0 } : Room) (prX D cy (wC cy ad) X [.ref (ad 4)]) (poI D (wC cy ad) A r X) 0 0 A := sw_met (by decide +kernel) (Nat.le_of_ble_eq_true rfl) hD (fun p e s m args below meth c C => t_Dt_said C hJ)
set_option maxHeartbeats 4000000 in
set_option maxRecDepth 100000 in
theorem t_Dt_row {p : Program} {l : Launch} {e : Env} {s : State} {m : MethodId} {args : Array Value} {below : List Frame} {meth : Method} {c : Code} {D : va_G} {cy : Nat → ClassId} {ad : Nat → Nat} {A : Nat → Prop} (C : Cx p s m args meth c D cy cX2_row 1 RX2 (some .int) A (wC cy ad)) {X : St} {r : Int32} : jDt_row X = some r → SW p l e ({ frames := 0, cells := 0, slots := 0, locals := 0 } : Room) s m args below meth c D 1 A (wC cy ad) (MQ below (poI D (wC cy ad) A r X) args s 0 0 A) X [(0, .ref (ad 4))] 0 [] := by
  intro  hJ
  unfold jDt_row at hJ
  refine sw_aload_n (pc := 0) C 0 dX2_row_0 rfl rfl ?_
  refine gC_4_1 (pc := 1) C wd_7_15 dX2_row_1 ?_
  obtain rfl := Option.some.inj hJ
  exact sw_iret (pc := 4) C dX2_row_4
set_option maxHeartbeats 4000000 in
set_option maxRecDepth 100000 in
theorem k_Dt_row {l : Launch} {D : va_G} {cy : Nat → ClassId} {ad : Nat → Nat} {A : Nat → Prop} (hD : ∀ X, va_D A (wC cy ad X)) {X : St}  {r : Int32} (hJ : jDt_row X = some r) : Met l yX2_row (wsY yX2_row cX2_row 1 (some .int)) ({ frames := 0, cells := 0, slots := 0, locals := 0 } : Room) (prX D cy (wC cy ad) X [.ref (ad 4)]) (poI D (wC cy ad) A r X) 0 0 A := sw_met (by decide +kernel) (Nat.le_of_ble_eq_true rfl) hD (fun p e s m args below meth c C => t_Dt_row C hJ)
set_option maxHeartbeats 4000000 in
set_option maxRecDepth 100000 in
theorem t_Im_keep_15 {p : Program} {l : Launch} {e : Env} {s : State} {m : MethodId} {args : Array Value} {below : List Frame} {meth : Method} {c : Code} {D : va_G} {cy : Nat → ClassId} {ad : Nat → Nat} {A : Nat → Prop} (C : Cx p s m args meth c D cy cX3_keep 4 RX3 none A (wC cy ad)) {r : St} : ∀ (n : Nat) (X : St) (v3 : Int32), jIm_keep_15 n X v3 = some r → SW p l e ({ frames := 1, cells := 0, slots := 0, locals := 21 } : Room) s m args below meth c D 4 A (wC cy ad) (MQ below (poV D (wC cy ad) A r) args s 0 0 A) X [(0, .ref (ad 9)), (1, .ref (ad 5)), (3, .int v3)] 15 [] := by
  intro n
  induction n with
  | zero => intro X v3 hJ; exact absurd (show (none : Option (St)) = some r from hJ) (fun h => by cases h)
  | succ n ih =>
    intro X v3 hJ
    rw [jIm_keep_15] at hJ
    refine sw_iload_n (pc := 15) C 2 dX3_keep_15 rfl rfl ?_
    refine sw_aload_n (pc := 16) C 0 dX3_keep_16 rfl rfl ?_
    refine gC_9_3 (pc := 17) C wd_4_0 dX3_keep_17 ?_
    refine sw_icmp_ge (pc := 20) (tgt := 63) C dX3_keep_20 (by decide) (fun hb20 => ?_) (fun hb20 => ?_)
    · replace hJ := itep hb20 hJ
      obtain rfl := Option.some.inj hJ
      exact sw_vret (pc := 63) C dX3_keep_63
    · replace hJ := iten hb20 hJ
      refine sw_iload_n (pc := 23) C 2 dX3_keep_23 rfl rfl ?_
      refine sw_bipush (pc := 24) C (v := (7 : Int32)) dX3_keep_24 (by decide) ?_
      refine sw_icmp_ge (pc := 26) (tgt := 63) C dX3_keep_26 (by decide) (fun hb26 => ?_) (fun hb26 => ?_)
      · replace hJ := itep hb26 hJ
        obtain rfl := Option.some.inj hJ
        exact sw_vret (pc := 63) C dX3_keep_63
      · replace hJ := iten hb26 hJ
        refine sw_aload_n (pc := 29) C 0 dX3_keep_29 rfl rfl ?_
        refine gC_9_0 (pc := 30) C wd_3_22 dX3_keep_30 ?_
        refine sw_iload_n (pc := 33) C 2 dX3_keep_33 rfl rfl ?_
        refine sw_aload_n (pc := 34) C 1 dX3_keep_34 rfl rfl ?_
        refine sw_iload_n (pc := 35) C 2 dX3_keep_35 rfl rfl ?_
        obtain ⟨q36, hq36, hJ⟩ := bind_some hJ
        refine sw_callV_r (pc := 36) C (st := [.int v3, .ref (ad 10)]) (As := [.int v3]) (k_Ch_who C.2.2.2.2.2.2.1 hq36) pk_X1_who wd_33_9 5 rfl rfl rfl ⟨Nat.le_of_ble_eq_true rfl, Nat.le_of_ble_eq_true rfl⟩ ⟨rfl, rfl⟩ rfl rfl (Nat.le_of_ble_eq_true rfl) dX3_keep_36 ?_
        obtain ⟨hm36, hJ⟩ := gd hJ
        refine gC_m_4N (pc := 39) C (i := q36) hm36 nd_F5 dX3_keep_39 ?_
        obtain ⟨hi42, hJ⟩ := gd hJ
        refine tC_10 (pc := 42) C hi42 dX3_keep_42 ?_
        refine sw_aload_n (pc := 43) C 0 dX3_keep_43 rfl rfl ?_
        refine gC_9_1 (pc := 44) C wd_3_23 dX3_keep_44 ?_
        refine sw_iload_n (pc := 47) C 2 dX3_keep_47 rfl rfl ?_
        refine sw_aload_n (pc := 48) C 1 dX3_keep_48 rfl rfl ?_
        refine sw_iload_n (pc := 49) C 2 dX3_keep_49 rfl rfl ?_
        obtain ⟨q50, hq50, hJ⟩ := bind_some hJ
        refine sw_callV_r (pc := 50) C (st := [.int v3, .ref (ad 11)]) (As := [.int v3]) (k_Ch_who C.2.2.2.2.2.2.1 hq50) pk_X1_who wd_33_9 5 rfl rfl rfl ⟨Nat.le_of_ble_eq_true rfl, Nat.le_of_ble_eq_true rfl⟩ ⟨rfl, rfl⟩ rfl rfl (Nat.le_of_ble_eq_true rfl) dX3_keep_50 ?_
        obtain ⟨hm50, hJ⟩ := gd hJ
        refine gC_m_7N (pc := 53) C (i := q50) hm50 nd_F10 dX3_keep_53 ?_
        obtain ⟨hi56, hJ⟩ := gd hJ
        refine tC_11 (pc := 56) C hi56 dX3_keep_56 ?_
        refine sw_iinc (pc := 57) C 2 dX3_keep_57 rfl (v := (v3 + (1 : Int32))) (congrArg (fun z => v3 + z) (by decide)) (by decide) (ll2 := [(3, .int (v3 + (1 : Int32))), (0, .ref (ad 9)), (1, .ref (ad 5))]) rfl ?_
        refine sw_goto (pc := 60) (tgt := 15) C dX3_keep_60 (by decide) ?_
        exact sw_sub [1, 2, 0] (by rfl) (ih _ _ hJ)
set_option maxHeartbeats 4000000 in
set_option maxRecDepth 100000 in
theorem t_Im_keep {p : Program} {l : Launch} {e : Env} {s : State} {m : MethodId} {args : Array Value} {below : List Frame} {meth : Method} {c : Code} {D : va_G} {cy : Nat → ClassId} {ad : Nat → Nat} {A : Nat → Prop} (C : Cx p s m args meth c D cy cX3_keep 4 RX3 none A (wC cy ad)) {r : St} : ∀ (X : St) (a2 : Int32), jIm_keep X a2 = some r → SW p l e ({ frames := 1, cells := 0, slots := 0, locals := 21 } : Room) s m args below meth c D 4 A (wC cy ad) (MQ below (poV D (wC cy ad) A r) args s 0 0 A) X [(0, .ref (ad 9)), (1, .ref (ad 5)), (2, .int a2)] 0 [] := by
  intro X a2 hJ
  unfold jIm_keep at hJ
  refine sw_aload_n (pc := 0) C 0 dX3_keep_0 rfl rfl ?_
  refine sw_iload_n (pc := 1) C 2 dX3_keep_1 rfl rfl ?_
  refine pC_9_2 (pc := 2) C wd_33_7 dX3_keep_2 ?_
  refine sw_aload_n (pc := 5) C 0 dX3_keep_5 rfl rfl ?_
  refine sw_aload_n (pc := 6) C 1 dX3_keep_6 rfl rfl ?_
  obtain ⟨q7, hq7, hJ⟩ := bind_some hJ
  refine sw_callV_i (pc := 7) C (st := [.ref (ad 9)]) (As := []) (k_Ch_size C.2.2.2.2.2.2.1 hq7) pk_X1_size wd_33_8 5 rfl rfl rfl ⟨Nat.le_of_ble_eq_true rfl, Nat.le_of_ble_eq_true rfl⟩ ⟨rfl, rfl⟩ rfl rfl (Nat.le_of_ble_eq_true rfl) dX3_keep_7 ?_
  refine pC_9_3 (pc := 10) C wd_4_0 dX3_keep_10 ?_
  refine sw_iconst (pc := 13) C (v := (0 : Int32)) dX3_keep_13 (by decide) ?_
  refine sw_istore_n (pc := 14) C dX3_keep_14 rfl (by decide) (ll2 := [(3, .int (0 : Int32)), (0, .ref (ad 9)), (1, .ref (ad 5)), (2, .int a2)]) rfl ?_
  exact sw_sub [1, 2, 0] (by rfl) (t_Im_keep_15 C _ _ _ hJ)
set_option maxHeartbeats 4000000 in
set_option maxRecDepth 100000 in
theorem k_Im_keep {l : Launch} {D : va_G} {cy : Nat → ClassId} {ad : Nat → Nat} {A : Nat → Prop} (hD : ∀ X, va_D A (wC cy ad X)) {X : St} {a2 : Int32} {r : St} (hJ : jIm_keep X a2 = some r) : Met l yX3_keep (wsY yX3_keep cX3_keep 4 none) ({ frames := 1, cells := 0, slots := 0, locals := 21 } : Room) (prX D cy (wC cy ad) X [.ref (ad 9), .ref (ad 5), .int a2]) (poV D (wC cy ad) A r) 0 0 A := sw_met (by decide +kernel) (Nat.le_of_ble_eq_true rfl) hD (fun p e s m args below meth c C => t_Im_keep C _ _ hJ)
set_option maxHeartbeats 4000000 in
set_option maxRecDepth 100000 in
theorem t_Im_fits {p : Program} {l : Launch} {e : Env} {s : State} {m : MethodId} {args : Array Value} {below : List Frame} {meth : Method} {c : Code} {D : va_G} {cy : Nat → ClassId} {ad : Nat → Nat} {A : Nat → Prop} (C : Cx p s m args meth c D cy cX3_fits 2 RX3 (some .boolean) A (wC cy ad)) {X : St} {r : Int32} : jIm_fits X = some r → SW p l e ({ frames := 1, cells := 0, slots := 0, locals := 20 } : Room) s m args below meth c D 2 A (wC cy ad) (MQ below (poI D (wC cy ad) A r X) args s 0 0 A) X [(0, .ref (ad 9)), (1, .ref (ad 5))] 0 [] := by
  intro  hJ
  unfold jIm_fits at hJ
  refine sw_aload_n (pc := 0) C 0 dX3_fits_0 rfl rfl ?_
  refine gC_9_3 (pc := 1) C wd_4_0 dX3_fits_1 ?_
  refine sw_aload_n (pc := 4) C 1 dX3_fits_4 rfl rfl ?_
  obtain ⟨q5, hq5, hJ⟩ := bind_some hJ
  refine sw_callV_i (pc := 5) C (st := [.int (sF X 147)]) (As := []) (k_Ch_size C.2.2.2.2.2.2.1 hq5) pk_X1_size wd_33_8 5 rfl rfl rfl ⟨Nat.le_of_ble_eq_true rfl, Nat.le_of_ble_eq_true rfl⟩ ⟨rfl, rfl⟩ rfl rfl (Nat.le_of_ble_eq_true rfl) dX3_fits_5 ?_
  refine sw_icmp_ne (pc := 8) (tgt := 15) C dX3_fits_8 (by decide) (fun hb8 => ?_) (fun hb8 => ?_)
  · replace hJ := iten hb8 hJ
    refine sw_iconst (pc := 15) C (v := (0 : Int32)) dX3_fits_15 (by decide) ?_
    obtain rfl := Option.some.inj hJ
    exact sw_zret (pc := 16) (v := (0 : Int32)) C (by decide) dX3_fits_16
  · replace hJ := itep hb8 hJ
    refine sw_iconst (pc := 11) C (v := (1 : Int32)) dX3_fits_11 (by decide) ?_
    refine sw_goto (pc := 12) (tgt := 16) C dX3_fits_12 (by decide) ?_
    obtain rfl := Option.some.inj hJ
    exact sw_zret (pc := 16) (v := (1 : Int32)) C (by decide) dX3_fits_16
set_option maxHeartbeats 4000000 in
set_option maxRecDepth 100000 in
theorem k_Im_fits {l : Launch} {D : va_G} {cy : Nat → ClassId} {ad : Nat → Nat} {A : Nat → Prop} (hD : ∀ X, va_D A (wC cy ad X)) {X : St}  {r : Int32} (hJ : jIm_fits X = some r) : Met l yX3_fits (wsY yX3_fits cX3_fits 2 (some .boolean)) ({ frames := 1, cells := 0, slots := 0, locals := 20 } : Room) (prX D cy (wC cy ad) X [.ref (ad 9), .ref (ad 5)]) (poI D (wC cy ad) A r X) 0 0 A := sw_met (by decide +kernel) (Nat.le_of_ble_eq_true rfl) hD (fun p e s m args below meth c C => t_Im_fits C hJ)
set_option maxHeartbeats 4000000 in
set_option maxRecDepth 100000 in
theorem t_Im_giveBack_50 {p : Program} {l : Launch} {e : Env} {s : State} {m : MethodId} {args : Array Value} {below : List Frame} {meth : Method} {c : Code} {D : va_G} {cy : Nat → ClassId} {ad : Nat → Nat} {A : Nat → Prop} (C : Cx p s m args meth c D cy cX3_giveBack 3 RX3 (some .int) A (wC cy ad)) {r : Int32 × St} : ∀ (X : St), jIm_giveBack_50 X = some r → SW p l e ({ frames := 1, cells := 0, slots := 0, locals := 21 } : Room) s m args below meth c D 3 A (wC cy ad) (MQ below (poI D (wC cy ad) A r.1 r.2) args s 0 0 A) X [(0, .ref (ad 9))] 50 [] := by
  intro X hJ
  unfold jIm_giveBack_50 at hJ
  refine sw_aload_n (pc := 50) C 0 dX3_giveBack_50 rfl rfl ?_
  refine gC_9_2 (pc := 51) C wd_33_7 dX3_giveBack_51 ?_
  obtain rfl := Option.some.inj hJ
  exact sw_iret (pc := 54) C dX3_giveBack_54
set_option maxHeartbeats 4000000 in
set_option maxRecDepth 100000 in
theorem t_Im_giveBack_2 {p : Program} {l : Launch} {e : Env} {s : State} {m : MethodId} {args : Array Value} {below : List Frame} {meth : Method} {c : Code} {D : va_G} {cy : Nat → ClassId} {ad : Nat → Nat} {A : Nat → Prop} (C : Cx p s m args meth c D cy cX3_giveBack 3 RX3 (some .int) A (wC cy ad)) {r : Int32 × St} : ∀ (n : Nat) (X : St) (v2 : Int32), jIm_giveBack_2 n X v2 = some r → SW p l e ({ frames := 1, cells := 0, slots := 0, locals := 21 } : Room) s m args below meth c D 3 A (wC cy ad) (MQ below (poI D (wC cy ad) A r.1 r.2) args s 0 0 A) X [(0, .ref (ad 9)), (1, .ref (ad 5)), (2, .int v2)] 2 [] := by
  intro n
  induction n with
  | zero => intro X v2 hJ; exact absurd (show (none : Option (Int32 × St)) = some r from hJ) (fun h => by cases h)
  | succ n ih =>
    intro X v2 hJ
    rw [jIm_giveBack_2] at hJ
    refine sw_iload_n (pc := 2) C 2 dX3_giveBack_2 rfl rfl ?_
    refine sw_aload_n (pc := 3) C 0 dX3_giveBack_3 rfl rfl ?_
    refine gC_9_3 (pc := 4) C wd_4_0 dX3_giveBack_4 ?_
    refine sw_icmp_ge (pc := 7) (tgt := 50) C dX3_giveBack_7 (by decide) (fun hb7 => ?_) (fun hb7 => ?_)
    · replace hJ := itep hb7 hJ
      exact sw_sub [0] (by rfl) (t_Im_giveBack_50 C _ hJ)
    · replace hJ := iten hb7 hJ
      refine sw_iload_n (pc := 10) C 2 dX3_giveBack_10 rfl rfl ?_
      refine sw_bipush (pc := 11) C (v := (7 : Int32)) dX3_giveBack_11 (by decide) ?_
      refine sw_icmp_ge (pc := 13) (tgt := 50) C dX3_giveBack_13 (by decide) (fun hb13 => ?_) (fun hb13 => ?_)
      · replace hJ := itep hb13 hJ
        exact sw_sub [0] (by rfl) (t_Im_giveBack_50 C _ hJ)
      · replace hJ := iten hb13 hJ
        refine sw_aload_n (pc := 16) C 1 dX3_giveBack_16 rfl rfl ?_
        refine sw_iload_n (pc := 17) C 2 dX3_giveBack_17 rfl rfl ?_
        obtain ⟨q18, hq18, hJ⟩ := bind_some hJ
        refine sw_callV_r (pc := 18) C (st := []) (As := [.int v2]) (k_Ch_who C.2.2.2.2.2.2.1 hq18) pk_X1_who wd_33_9 5 rfl rfl rfl ⟨Nat.le_of_ble_eq_true rfl, Nat.le_of_ble_eq_true rfl⟩ ⟨rfl, rfl⟩ rfl rfl (Nat.le_of_ble_eq_true rfl) dX3_giveBack_18 ?_
        obtain ⟨hm18, hJ⟩ := gd hJ
        refine sw_aload_n (pc := 21) C 0 dX3_giveBack_21 rfl rfl ?_
        refine gC_9_0 (pc := 22) C wd_3_22 dX3_giveBack_22 ?_
        refine sw_iload_n (pc := 25) C 2 dX3_giveBack_25 rfl rfl ?_
        obtain ⟨hi26, hJ⟩ := gd hJ
        refine lC_10 (pc := 26) C hi26 dX3_giveBack_26 ?_
        refine pC_m_4N (pc := 27) C (i := q18) hm18 nd_F5 dX3_giveBack_27 ?_
        refine sw_aload_n (pc := 30) C 1 dX3_giveBack_30 rfl rfl ?_
        refine sw_iload_n (pc := 31) C 2 dX3_giveBack_31 rfl rfl ?_
        obtain ⟨q32, hq32, hJ⟩ := bind_some hJ
        refine sw_callV_r (pc := 32) C (st := []) (As := [.int v2]) (k_Ch_who C.2.2.2.2.2.2.1 hq32) pk_X1_who wd_33_9 5 rfl rfl rfl ⟨Nat.le_of_ble_eq_true rfl, Nat.le_of_ble_eq_true rfl⟩ ⟨rfl, rfl⟩ rfl rfl (Nat.le_of_ble_eq_true rfl) dX3_giveBack_32 ?_
        obtain ⟨hm32, hJ⟩ := gd hJ
        refine sw_aload_n (pc := 35) C 0 dX3_giveBack_35 rfl rfl ?_
        refine gC_9_1 (pc := 36) C wd_3_23 dX3_giveBack_36 ?_
        refine sw_iload_n (pc := 39) C 2 dX3_giveBack_39 rfl rfl ?_
        obtain ⟨hi40, hJ⟩ := gd hJ
        refine lC_11 (pc := 40) C hi40 dX3_giveBack_40 ?_
        refine pC_m_7N (pc := 41) C (i := q32) hm32 nd_F10 dX3_giveBack_41 ?_
        refine sw_iinc (pc := 44) C 2 dX3_giveBack_44 rfl (v := (v2 + (1 : Int32))) (congrArg (fun z => v2 + z) (by decide)) (by decide) (ll2 := [(2, .int (v2 + (1 : Int32))), (0, .ref (ad 9)), (1, .ref (ad 5))]) rfl ?_
        refine sw_goto (pc := 47) (tgt := 2) C dX3_giveBack_47 (by decide) ?_
        exact sw_sub [1, 2, 0] (by rfl) (ih _ _ hJ)
set_option maxHeartbeats 4000000 in
set_option maxRecDepth 100000 in
theorem t_Im_giveBack {p : Program} {l : Launch} {e : Env} {s : State} {m : MethodId} {args : Array Value} {below : List Frame} {meth : Method} {c : Code} {D : va_G} {cy : Nat → ClassId} {ad : Nat → Nat} {A : Nat → Prop} (C : Cx p s m args meth c D cy cX3_giveBack 3 RX3 (some .int) A (wC cy ad)) {r : Int32 × St} : ∀ (X : St), jIm_giveBack X = some r → SW p l e ({ frames := 1, cells := 0, slots := 0, locals := 21 } : Room) s m args below meth c D 3 A (wC cy ad) (MQ below (poI D (wC cy ad) A r.1 r.2) args s 0 0 A) X [(0, .ref (ad 9)), (1, .ref (ad 5))] 0 [] := by
  intro X hJ
  unfold jIm_giveBack at hJ
  refine sw_iconst (pc := 0) C (v := (0 : Int32)) dX3_giveBack_0 (by decide) ?_
  refine sw_istore_n (pc := 1) C dX3_giveBack_1 rfl (by decide) (ll2 := [(2, .int (0 : Int32)), (0, .ref (ad 9)), (1, .ref (ad 5))]) rfl ?_
  exact sw_sub [1, 2, 0] (by rfl) (t_Im_giveBack_2 C _ _ _ hJ)
set_option maxHeartbeats 4000000 in
set_option maxRecDepth 100000 in
theorem k_Im_giveBack {l : Launch} {D : va_G} {cy : Nat → ClassId} {ad : Nat → Nat} {A : Nat → Prop} (hD : ∀ X, va_D A (wC cy ad X)) {X : St}  {r : Int32 × St} (hJ : jIm_giveBack X = some r) : Met l yX3_giveBack (wsY yX3_giveBack cX3_giveBack 3 (some .int)) ({ frames := 1, cells := 0, slots := 0, locals := 21 } : Room) (prX D cy (wC cy ad) X [.ref (ad 9), .ref (ad 5)]) (poI D (wC cy ad) A r.1 r.2) 0 0 A := sw_met (by decide +kernel) (Nat.le_of_ble_eq_true rfl) hD (fun p e s m args below meth c C => t_Im_giveBack C _ hJ)
set_option maxHeartbeats 4000000 in
set_option maxRecDepth 100000 in
theorem t_Me_isA_25 {p : Program} {l : Launch} {e : Env} {s : State} {m : MethodId} {args : Array Value} {below : List Frame} {meth : Method} {c : Code} {D : va_G} {cy : Nat → ClassId} {ad : Nat → Nat} {A : Nat → Prop} (C : Cx p s m args meth c D cy cX4_isA 2 RX4 (some .boolean) A (wC cy ad)) {X : St} {i0 : Nat} {r : Int32} (hi0 : i0 < 8) : jMe_isA_25 X i0 = some r → SW p l e ({ frames := 0, cells := 0, slots := 0, locals := 0 } : Room) s m args below meth c D 2 A (wC cy ad) (MQ below (poI D (wC cy ad) A r X) args s 0 0 A) X [] 25 [] := by
  intro  hJ
  unfold jMe_isA_25 at hJ
  refine sw_iconst (pc := 25) C (v := (1 : Int32)) dX4_isA_25 (by decide) ?_
  refine sw_goto (pc := 26) (tgt := 30) C dX4_isA_26 (by decide) ?_
  obtain rfl := Option.some.inj hJ
  exact sw_zret (pc := 30) (v := (1 : Int32)) C (by decide) dX4_isA_30
set_option maxHeartbeats 4000000 in
set_option maxRecDepth 100000 in
theorem t_Me_isA {p : Program} {l : Launch} {e : Env} {s : State} {m : MethodId} {args : Array Value} {below : List Frame} {meth : Method} {c : Code} {D : va_G} {cy : Nat → ClassId} {ad : Nat → Nat} {A : Nat → Prop} (C : Cx p s m args meth c D cy cX4_isA 2 RX4 (some .boolean) A (wC cy ad)) {X : St} {i0 : Nat} {r : Int32} (hi0 : i0 < 8) : ∀ (a1 : Int32), jMe_isA X i0 a1 = some r → SW p l e ({ frames := 0, cells := 0, slots := 0, locals := 0 } : Room) s m args below meth c D 2 A (wC cy ad) (MQ below (poI D (wC cy ad) A r X) args s 0 0 A) X [(0, .ref (ad (14 + i0))), (1, .int a1)] 0 [] := by
  intro a1 hJ
  unfold jMe_isA at hJ
  refine sw_iload_n (pc := 0) C 1 dX4_isA_0 rfl rfl ?_
  refine sw_if_eq (pc := 1) (tgt := 25) C dX4_isA_1 (by decide) (fun hb1 => ?_) (fun hb1 => ?_)
  · replace hJ := itep hb1 hJ
    exact sw_sub [] (by rfl) (t_Me_isA_25 C hi0 hJ)
  · replace hJ := iten hb1 hJ
    refine sw_iload_n (pc := 4) C 1 dX4_isA_4 rfl rfl ?_
    refine sw_aload_n (pc := 5) C 0 dX4_isA_5 rfl rfl ?_
    refine gC_m_0 (pc := 6) C (i := i0) hi0 wd_13_22 dX4_isA_6 ?_
    refine sw_icmp_eq (pc := 9) (tgt := 25) C dX4_isA_9 (by decide) (fun hb9 => ?_) (fun hb9 => ?_)
    · replace hJ := itep hb9 hJ
      exact sw_sub [] (by rfl) (t_Me_isA_25 C hi0 hJ)
    · replace hJ := iten hb9 hJ
      refine sw_iload_n (pc := 12) C 1 dX4_isA_12 rfl rfl ?_
      refine sw_iconst (pc := 13) C (v := (2 : Int32)) dX4_isA_13 (by decide) ?_
      refine sw_icmp_ne (pc := 14) (tgt := 29) C dX4_isA_14 (by decide) (fun hb14 => ?_) (fun hb14 => ?_)
      · replace hJ := iten hb14 hJ
        refine sw_iconst (pc := 29) C (v := (0 : Int32)) dX4_isA_29 (by decide) ?_
        obtain rfl := Option.some.inj hJ
        exact sw_zret (pc := 30) (v := (0 : Int32)) C (by decide) dX4_isA_30
      · replace hJ := itep hb14 hJ
        refine sw_aload_n (pc := 17) C 0 dX4_isA_17 rfl rfl ?_
        refine gC_m_0 (pc := 18) C (i := i0) hi0 wd_13_22 dX4_isA_18 ?_
        refine sw_iconst (pc := 21) C (v := (4 : Int32)) dX4_isA_21 (by decide) ?_
        refine sw_icmp_ne (pc := 22) (tgt := 29) C dX4_isA_22 (by decide) (fun hb22 => ?_) (fun hb22 => ?_)
        · replace hJ := iten hb22 hJ
          refine sw_iconst (pc := 29) C (v := (0 : Int32)) dX4_isA_29 (by decide) ?_
          obtain rfl := Option.some.inj hJ
          exact sw_zret (pc := 30) (v := (0 : Int32)) C (by decide) dX4_isA_30
        · replace hJ := itep hb22 hJ
          exact sw_sub [] (by rfl) (t_Me_isA_25 C hi0 hJ)
set_option maxHeartbeats 4000000 in
set_option maxRecDepth 100000 in
theorem k_Me_isA {l : Launch} {D : va_G} {cy : Nat → ClassId} {ad : Nat → Nat} {A : Nat → Prop} (hD : ∀ X, va_D A (wC cy ad X)) {X : St} {i0 : Nat} {a1 : Int32} {r : Int32} (hi0 : i0 < 8) (hJ : jMe_isA X i0 a1 = some r) : Met l yX4_isA (wsY yX4_isA cX4_isA 2 (some .boolean)) ({ frames := 0, cells := 0, slots := 0, locals := 0 } : Room) (prX D cy (wC cy ad) X [.ref (ad (14 + i0)), .int a1]) (poI D (wC cy ad) A r X) 0 0 A := sw_met (by decide +kernel) (Nat.le_of_ble_eq_true rfl) hD (fun p e s m args below meth c C => t_Me_isA C hi0 _ hJ)
set_option maxHeartbeats 4000000 in
set_option maxRecDepth 100000 in
theorem t_Me_become_91 {p : Program} {l : Launch} {e : Env} {s : State} {m : MethodId} {args : Array Value} {below : List Frame} {meth : Method} {c : Code} {D : va_G} {cy : Nat → ClassId} {ad : Nat → Nat} {A : Nat → Prop} (C : Cx p s m args meth c D cy cX4_become 4 RX4 none A (wC cy ad)) {i0 : Nat} {r : St} (hi0 : i0 < 8) : ∀ (X : St) (s0 : Nat) (s1 : Int32), jMe_become_91 i0 X s0 s1 = some r → SW p l e ({ frames := 1, cells := 0, slots := 0, locals := 21 } : Room) s m args below meth c D 4 A (wC cy ad) (MQ below (poV D (wC cy ad) A r) args s 0 0 A) X [] 91 [.int s1, .ref (ad (14 + s0))] := by
  intro X s0 s1 hJ
  unfold jMe_become_91 at hJ
  obtain ⟨hs0, hJ⟩ := gd hJ
  refine pC_m_11 (pc := 91) C (i := s0) hs0 wd_14_4 dX4_become_91 ?_
  obtain rfl := Option.some.inj hJ
  exact sw_vret (pc := 94) C dX4_become_94
set_option maxHeartbeats 4000000 in
set_option maxRecDepth 100000 in
theorem t_Me_become_83 {p : Program} {l : Launch} {e : Env} {s : State} {m : MethodId} {args : Array Value} {below : List Frame} {meth : Method} {c : Code} {D : va_G} {cy : Nat → ClassId} {ad : Nat → Nat} {A : Nat → Prop} (C : Cx p s m args meth c D cy cX4_become 4 RX4 none A (wC cy ad)) {i0 : Nat} {r : St} (hi0 : i0 < 8) : ∀ (X : St) (s0 : Nat), jMe_become_83 i0 X s0 = some r → SW p l e ({ frames := 1, cells := 0, slots := 0, locals := 21 } : Room) s m args below meth c D 4 A (wC cy ad) (MQ below (poV D (wC cy ad) A r) args s 0 0 A) X [] 83 [.ref (ad (14 + s0))] := by
  intro X s0 hJ
  unfold jMe_become_83 at hJ
  obtain ⟨hs0, hJ⟩ := gd hJ
  refine sw_iconst (pc := 83) C (v := (0 : Int32)) dX4_become_83 (by decide) ?_
  refine sw_goto (pc := 84) (tgt := 91) C dX4_become_84 (by decide) ?_
  exact sw_sub [] (by rfl) (t_Me_become_91 C hi0 _ _ _ hJ)
set_option maxHeartbeats 4000000 in
set_option maxRecDepth 100000 in
theorem t_Me_become_63 {p : Program} {l : Launch} {e : Env} {s : State} {m : MethodId} {args : Array Value} {below : List Frame} {meth : Method} {c : Code} {D : va_G} {cy : Nat → ClassId} {ad : Nat → Nat} {A : Nat → Prop} (C : Cx p s m args meth c D cy cX4_become 4 RX4 none A (wC cy ad)) {i0 : Nat} {r : St} (hi0 : i0 < 8) : ∀ (X : St) (s0 : Nat) (s1 : Int32), jMe_become_63 i0 X s0 s1 = some r → SW p l e ({ frames := 1, cells := 0, slots := 0, locals := 21 } : Room) s m args below meth c D 4 A (wC cy ad) (MQ below (poV D (wC cy ad) A r) args s 0 0 A) X [(0, .ref (ad (14 + i0)))] 63 [.int s1, .ref (ad (14 + s0))] := by
  intro X s0 s1 hJ
  unfold jMe_become_63 at hJ
  obtain ⟨hs0, hJ⟩ := gd hJ
  refine pC_m_10 (pc := 63) C (i := s0) hs0 wd_14_3 dX4_become_63 ?_
  refine sw_aload_n (pc := 66) C 0 dX4_become_66 rfl rfl ?_
  refine sw_aload_n (pc := 67) C 0 dX4_become_67 rfl rfl ?_
  refine sw_iconst (pc := 68) C (v := (3 : Int32)) dX4_become_68 (by decide) ?_
  obtain ⟨q69, hq69, hJ⟩ := bind_some hJ
  refine sw_callV_i (pc := 69) C (st := [.ref (ad (14 + i0))]) (As := [.int (3 : Int32)]) (k_Me_isA C.2.2.2.2.2.2.1 hi0 hq69) pk_X4_isA wd_14_5 (14 + i0) (wC_mem _ hi0) rfl rfl ⟨Nat.le_of_ble_eq_true rfl, Nat.le_of_ble_eq_true rfl⟩ ⟨rfl, rfl⟩ rfl rfl (Nat.le_of_ble_eq_true rfl) dX4_become_69 ?_
  refine sw_if_ne (pc := 72) (tgt := 83) C dX4_become_72 (by decide) (fun hb72 => ?_) (fun hb72 => ?_)
  · replace hJ := iten hb72 hJ
    exact sw_sub [] (by rfl) (t_Me_become_83 C hi0 _ _ hJ)
  · replace hJ := itep hb72 hJ
    refine sw_aload_n (pc := 75) C 0 dX4_become_75 rfl rfl ?_
    refine sw_iconst (pc := 76) C (v := (4 : Int32)) dX4_become_76 (by decide) ?_
    obtain ⟨q77, hq77, hJ⟩ := bind_some hJ
    refine sw_callV_i (pc := 77) C (st := [.ref (ad (14 + i0))]) (As := [.int (4 : Int32)]) (k_Me_isA C.2.2.2.2.2.2.1 hi0 hq77) pk_X4_isA wd_14_5 (14 + i0) (wC_mem _ hi0) rfl rfl ⟨Nat.le_of_ble_eq_true rfl, Nat.le_of_ble_eq_true rfl⟩ ⟨rfl, rfl⟩ rfl rfl (Nat.le_of_ble_eq_true rfl) dX4_become_77 ?_
    refine sw_if_eq (pc := 80) (tgt := 87) C dX4_become_80 (by decide) (fun hb80 => ?_) (fun hb80 => ?_)
    · replace hJ := itep hb80 hJ
      refine sw_aload_n (pc := 87) C 0 dX4_become_87 rfl rfl ?_
      refine gC_m_2 (pc := 88) C (i := i0) hi0 wd_14_0 dX4_become_88 ?_
      exact sw_sub [] (by rfl) (t_Me_become_91 C hi0 _ _ _ hJ)
    · replace hJ := iten hb80 hJ
      exact sw_sub [] (by rfl) (t_Me_become_83 C hi0 _ _ hJ)
set_option maxHeartbeats 4000000 in
set_option maxRecDepth 100000 in
theorem t_Me_become_45 {p : Program} {l : Launch} {e : Env} {s : State} {m : MethodId} {args : Array Value} {below : List Frame} {meth : Method} {c : Code} {D : va_G} {cy : Nat → ClassId} {ad : Nat → Nat} {A : Nat → Prop} (C : Cx p s m args meth c D cy cX4_become 4 RX4 none A (wC cy ad)) {i0 : Nat} {r : St} (hi0 : i0 < 8) : ∀ (X : St) (s0 : Nat) (s1 : Int32), jMe_become_45 i0 X s0 s1 = some r → SW p l e ({ frames := 1, cells := 0, slots := 0, locals := 21 } : Room) s m args below meth c D 4 A (wC cy ad) (MQ below (poV D (wC cy ad) A r) args s 0 0 A) X [(0, .ref (ad (14 + i0)))] 45 [.int s1, .ref (ad (14 + s0))] := by
  intro X s0 s1 hJ
  unfold jMe_become_45 at hJ
  obtain ⟨hs0, hJ⟩ := gd hJ
  refine pC_m_9 (pc := 45) C (i := s0) hs0 wd_14_2 dX4_become_45 ?_
  refine sw_aload_n (pc := 48) C 0 dX4_become_48 rfl rfl ?_
  refine sw_aload_n (pc := 49) C 0 dX4_become_49 rfl rfl ?_
  refine sw_iconst (pc := 50) C (v := (2 : Int32)) dX4_become_50 (by decide) ?_
  obtain ⟨q51, hq51, hJ⟩ := bind_some hJ
  refine sw_callV_i (pc := 51) C (st := [.ref (ad (14 + i0))]) (As := [.int (2 : Int32)]) (k_Me_isA C.2.2.2.2.2.2.1 hi0 hq51) pk_X4_isA wd_14_5 (14 + i0) (wC_mem _ hi0) rfl rfl ⟨Nat.le_of_ble_eq_true rfl, Nat.le_of_ble_eq_true rfl⟩ ⟨rfl, rfl⟩ rfl rfl (Nat.le_of_ble_eq_true rfl) dX4_become_51 ?_
  refine sw_if_eq (pc := 54) (tgt := 62) C dX4_become_54 (by decide) (fun hb54 => ?_) (fun hb54 => ?_)
  · replace hJ := itep hb54 hJ
    refine sw_iconst (pc := 62) C (v := (0 : Int32)) dX4_become_62 (by decide) ?_
    exact sw_sub [0] (by rfl) (t_Me_become_63 C hi0 _ _ _ hJ)
  · replace hJ := iten hb54 hJ
    refine sw_bipush (pc := 57) C (v := (10 : Int32)) dX4_become_57 (by decide) ?_
    refine sw_goto (pc := 59) (tgt := 63) C dX4_become_59 (by decide) ?_
    exact sw_sub [0] (by rfl) (t_Me_become_63 C hi0 _ _ _ hJ)
set_option maxHeartbeats 4000000 in
set_option maxRecDepth 100000 in
theorem t_Me_become {p : Program} {l : Launch} {e : Env} {s : State} {m : MethodId} {args : Array Value} {below : List Frame} {meth : Method} {c : Code} {D : va_G} {cy : Nat → ClassId} {ad : Nat → Nat} {A : Nat → Prop} (C : Cx p s m args meth c D cy cX4_become 4 RX4 none A (wC cy ad)) {i0 : Nat} {r : St} (hi0 : i0 < 8) : ∀ (X : St) (a1 : Int32) (a2 : Int32) (a3 : Int32), jMe_become i0 X a1 a2 a3 = some r → SW p l e ({ frames := 1, cells := 0, slots := 0, locals := 21 } : Room) s m args below meth c D 4 A (wC cy ad) (MQ below (poV D (wC cy ad) A r) args s 0 0 A) X [(0, .ref (ad (14 + i0))), (1, .int a1), (2, .int a2), (3, .int a3)] 0 [] := by
  intro X a1 a2 a3 hJ
  unfold jMe_become at hJ
  refine sw_aload_n (pc := 0) C 0 dX4_become_0 rfl rfl ?_
  refine sw_iload_n (pc := 1) C 1 dX4_become_1 rfl rfl ?_
  refine pC_m_0 (pc := 2) C (i := i0) hi0 wd_13_22 dX4_become_2 ?_
  refine sw_aload_n (pc := 5) C 0 dX4_become_5 rfl rfl ?_
  refine sw_iload_n (pc := 6) C 2 dX4_become_6 rfl rfl ?_
  refine pC_m_1 (pc := 7) C (i := i0) hi0 wd_13_23 dX4_become_7 ?_
  refine sw_aload_n (pc := 10) C 0 dX4_become_10 rfl rfl ?_
  refine sw_iload_n (pc := 11) C 3 dX4_become_11 rfl rfl ?_
  refine pC_m_2 (pc := 12) C (i := i0) hi0 wd_14_0 dX4_become_12 ?_
  refine sw_aload_n (pc := 15) C 0 dX4_become_15 rfl rfl ?_
  refine sw_aload_n (pc := 16) C 0 dX4_become_16 rfl rfl ?_
  refine sw_iconst (pc := 17) C (v := (1 : Int32)) dX4_become_17 (by decide) ?_
  obtain ⟨q18, hq18, hJ⟩ := bind_some hJ
  refine sw_callV_i (pc := 18) C (st := [.ref (ad (14 + i0))]) (As := [.int (1 : Int32)]) (k_Me_isA C.2.2.2.2.2.2.1 hi0 hq18) pk_X4_isA wd_14_5 (14 + i0) (wC_mem _ hi0) rfl rfl ⟨Nat.le_of_ble_eq_true rfl, Nat.le_of_ble_eq_true rfl⟩ ⟨rfl, rfl⟩ rfl rfl (Nat.le_of_ble_eq_true rfl) dX4_become_18 ?_
  obtain ⟨hz21, hJ⟩ := gd hJ
  refine pC_m_8 (pc := 21) C (i := i0) hi0 hz21 wd_14_1 dX4_become_21 ?_
  refine sw_aload_n (pc := 24) C 0 dX4_become_24 rfl rfl ?_
  refine sw_aload_n (pc := 25) C 0 dX4_become_25 rfl rfl ?_
  refine gC_m_8 (pc := 26) C (i := i0) hi0 wd_14_1 dX4_become_26 ?_
  refine sw_if_eq (pc := 29) (tgt := 41) C dX4_become_29 (by decide) (fun hb29 => ?_) (fun hb29 => ?_)
  · replace hJ := itep hb29 hJ
    refine sw_aload_n (pc := 41) C 0 dX4_become_41 rfl rfl ?_
    refine gC_m_1 (pc := 42) C (i := i0) hi0 wd_13_23 dX4_become_42 ?_
    exact sw_sub [0] (by rfl) (t_Me_become_45 C hi0 _ _ _ hJ)
  · replace hJ := iten hb29 hJ
    refine sw_iconst (pc := 32) C (v := (2 : Int32)) dX4_become_32 (by decide) ?_
    refine sw_aload_n (pc := 33) C 0 dX4_become_33 rfl rfl ?_
    refine gC_m_1 (pc := 34) C (i := i0) hi0 wd_13_23 dX4_become_34 ?_
    refine sw_imul (pc := 37) C dX4_become_37 ?_
    refine sw_goto (pc := 38) (tgt := 45) C dX4_become_38 (by decide) ?_
    exact sw_sub [0] (by rfl) (t_Me_become_45 C hi0 _ _ _ hJ)
set_option maxHeartbeats 4000000 in
set_option maxRecDepth 100000 in
theorem k_Me_become {l : Launch} {D : va_G} {cy : Nat → ClassId} {ad : Nat → Nat} {A : Nat → Prop} (hD : ∀ X, va_D A (wC cy ad X)) {X : St} {i0 : Nat} {a1 : Int32} {a2 : Int32} {a3 : Int32} {r : St} (hi0 : i0 < 8) (hJ : jMe_become i0 X a1 a2 a3 = some r) : Met l yX4_become (wsY yX4_become cX4_become 4 none) ({ frames := 1, cells := 0, slots := 0, locals := 21 } : Room) (prX D cy (wC cy ad) X [.ref (ad (14 + i0)), .int a1, .int a2, .int a3]) (poV D (wC cy ad) A r) 0 0 A := sw_met (by decide +kernel) (Nat.le_of_ble_eq_true rfl) hD (fun p e s m args below meth c C => t_Me_become C hi0 _ _ _ _ hJ)
set_option maxHeartbeats 4000000 in
set_option maxRecDepth 100000 in
theorem t_Pg_codeIn {p : Program} {l : Launch} {e : Env} {s : State} {m : MethodId} {args : Array Value} {below : List Frame} {meth : Method} {c : Code} {D : va_G} {cy : Nat → ClassId} {ad : Nat → Nat} {A : Nat → Prop} (C : Cx p s m args meth c D cy cX5_codeIn 3 RX5 (some .int) A (wC cy ad)) {X : St} {r : Int32} : ∀ (a0 : Int64) (a2 : Int32), jPg_codeIn a0 a2 = some r → SW p l e ({ frames := 0, cells := 0, slots := 0, locals := 0 } : Room) s m args below meth c D 3 A (wC cy ad) (MQ below (poI D (wC cy ad) A r X) args s 0 0 A) X [(0, .long a0), (2, .int a2)] 0 [] := by
  intro a0 a2 hJ
  unfold jPg_codeIn at hJ
  refine sw_lload_n (pc := 0) C 0 dX5_codeIn_0 rfl rfl ?_
  refine sw_bipush (pc := 1) C (v := (8 : Int32)) dX5_codeIn_1 (by decide) ?_
  refine sw_iload_n (pc := 3) C 1 dX5_codeIn_3 rfl rfl ?_
  refine sw_imul (pc := 4) C dX5_codeIn_4 ?_
  refine sw_lushr (pc := 5) C dX5_codeIn_5 ?_
  refine sw_l2i (pc := 6) C dX5_codeIn_6 ?_
  refine sw_sipush (pc := 7) C (v := (255 : Int32)) dX5_codeIn_7 (by decide) ?_
  refine sw_iand (pc := 10) C dX5_codeIn_10 ?_
  obtain rfl := Option.some.inj hJ
  exact sw_iret (pc := 11) C dX5_codeIn_11
set_option maxHeartbeats 4000000 in
set_option maxRecDepth 100000 in
theorem k_Pg_codeIn {l : Launch} {D : va_G} {cy : Nat → ClassId} {ad : Nat → Nat} {A : Nat → Prop} (hD : ∀ X, va_D A (wC cy ad X)) {X : St} {a0 : Int64} {a2 : Int32} {r : Int32} (hJ : jPg_codeIn a0 a2 = some r) : Met l yX5_codeIn (wsY yX5_codeIn cX5_codeIn 3 (some .int)) ({ frames := 0, cells := 0, slots := 0, locals := 0 } : Room) (prX D cy (wC cy ad) X [.long a0, .int a2]) (poI D (wC cy ad) A r X) 0 0 A := sw_met (by decide +kernel) (Nat.le_of_ble_eq_true rfl) hD (fun p e s m args below meth c C => t_Pg_codeIn C _ _ hJ)
