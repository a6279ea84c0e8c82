set_option maxHeartbeats 4000000 in
set_option maxRecDepth 100000 in
theorem t_M_heightOf_2 {p : Program} {l : Launch} {e : Env} {s : State} {m : MethodId} {args : Array Value} {below : List Frame} {meth : Method} {c : Code} {D : va_G} {cy : Nat → ClassId} {ad : Nat → Nat} {A : Nat → Prop} (C : Cx p s m args meth c D cy cX10_heightOf 3 RX10 (some .int) A (wM cy ad)) {X : St} {r : Int32} : ∀ (n : Nat) (v1 : Int32) (v2 : Int32), jM_heightOf_2 X n v1 v2 = some r → SW p l e ({ frames := 0, cells := 0, slots := 0, locals := 0 } : Room) s m args below meth c D 3 A (wM cy ad) (MQ below (poI D (wM cy ad) A r X) args s 0 0 A) X [(0, .ref (ad 0)), (1, .int v1), (2, .int v2)] 2 [] := by
  intro n
  induction n with
  | zero => intro v1 v2 hJ; exact absurd (show (none : Option (Int32)) = some r from hJ) (fun h => by cases h)
  | succ n ih =>
    intro v1 v2 hJ
    rw [jM_heightOf_2] at hJ
    refine sw_iload_n (pc := 2) C 2 dX10_heightOf_2 rfl rfl ?_
    refine sw_aload_n (pc := 3) C 0 dX10_heightOf_3 rfl rfl ?_
    refine gM_0_14 (pc := 4) C wd_17_4 dX10_heightOf_4 ?_
    refine sw_icmp_ge (pc := 7) (tgt := 30) C dX10_heightOf_7 (by decide) (fun hb7 => ?_) (fun hb7 => ?_)
    · replace hJ := itep hb7 hJ
      refine sw_iconst (pc := 30) C (v := (0 : Int32)) dX10_heightOf_30 (by decide) ?_
      obtain rfl := Option.some.inj hJ
      exact sw_iret (pc := 31) C dX10_heightOf_31
    · replace hJ := iten hb7 hJ
      refine sw_aload_n (pc := 10) C 0 dX10_heightOf_10 rfl rfl ?_
      refine gM_0_15 (pc := 11) C wd_4_16 dX10_heightOf_11 ?_
      refine sw_iload_n (pc := 14) C 2 dX10_heightOf_14 rfl rfl ?_
      obtain ⟨hi15, hJ⟩ := gd hJ
      refine lM_6 (pc := 15) C hi15 dX10_heightOf_15 ?_
      refine sw_iload_n (pc := 16) C 1 dX10_heightOf_16 rfl rfl ?_
      refine sw_icmp_ne (pc := 17) (tgt := 24) C dX10_heightOf_17 (by decide) (fun hb17 => ?_) (fun hb17 => ?_)
      · replace hJ := iten hb17 hJ
        refine sw_iinc (pc := 24) C 2 dX10_heightOf_24 rfl (v := (v2 + (1 : Int32))) (congrArg (fun z => v2 + z) (by decide)) (by decide) (ll2 := [(2, .int (v2 + (1 : Int32))), (0, .ref (ad 0)), (1, .int v1)]) rfl ?_
        refine sw_goto (pc := 27) (tgt := 2) C dX10_heightOf_27 (by decide) ?_
        exact sw_sub [1, 2, 0] (by rfl) (ih _ _ hJ)
      · replace hJ := itep hb17 hJ
        refine sw_iload_n (pc := 20) C 2 dX10_heightOf_20 rfl rfl ?_
        refine sw_iconst (pc := 21) C (v := (1 : Int32)) dX10_heightOf_21 (by decide) ?_
        refine sw_iadd (pc := 22) C dX10_heightOf_22 ?_
        obtain rfl := Option.some.inj hJ
        exact sw_iret (pc := 23) C dX10_heightOf_23
set_option maxHeartbeats 4000000 in
set_option maxRecDepth 100000 in
theorem t_M_heightOf {p : Program} {l : Launch} {e : Env} {s : State} {m : MethodId} {args : Array Value} {below : List Frame} {meth : Method} {c : Code} {D : va_G} {cy : Nat → ClassId} {ad : Nat → Nat} {A : Nat → Prop} (C : Cx p s m args meth c D cy cX10_heightOf 3 RX10 (some .int) A (wM cy ad)) {X : St} {r : Int32} : ∀ (a1 : Int32), jM_heightOf X a1 = some r → SW p l e ({ frames := 0, cells := 0, slots := 0, locals := 0 } : Room) s m args below meth c D 3 A (wM cy ad) (MQ below (poI D (wM cy ad) A r X) args s 0 0 A) X [(0, .ref (ad 0)), (1, .int a1)] 0 [] := by
  intro a1 hJ
  unfold jM_heightOf at hJ
  refine sw_iconst (pc := 0) C (v := (0 : Int32)) dX10_heightOf_0 (by decide) ?_
  refine sw_istore_n (pc := 1) C dX10_heightOf_1 rfl (by decide) (ll2 := [(2, .int (0 : Int32)), (0, .ref (ad 0)), (1, .int a1)]) rfl ?_
  exact sw_sub [1, 2, 0] (by rfl) (t_M_heightOf_2 C _ _ _ hJ)
set_option maxHeartbeats 4000000 in
set_option maxRecDepth 100000 in
theorem k_M_heightOf {l : Launch} {D : va_G} {cy : Nat → ClassId} {ad : Nat → Nat} {A : Nat → Prop} (hD : ∀ X, va_D A (wM cy ad X)) {X : St} {a1 : Int32} {r : Int32} (hJ : jM_heightOf X a1 = some r) : Met l yX10_heightOf (wsY yX10_heightOf cX10_heightOf 3 (some .int)) ({ frames := 0, cells := 0, slots := 0, locals := 0 } : Room) (prX D cy (wM cy ad) X [.ref (ad 0), .int a1]) (poI D (wM cy ad) A r X) 0 0 A := sw_met (by decide +kernel) (Nat.le_of_ble_eq_true rfl) hD (fun p e s m args below meth c C => t_M_heightOf C _ hJ)
set_option maxHeartbeats 4000000 in
set_option maxRecDepth 100000 in
theorem t_M_tell {p : Program} {l : Launch} {e : Env} {s : State} {m : MethodId} {args : Array Value} {below : List Frame} {meth : Method} {c : Code} {D : va_G} {cy : Nat → ClassId} {ad : Nat → Nat} {A : Nat → Prop} (C : Cx p s m args meth c D cy cX10_tell 3 RX10 (some .int) A (wM cy ad)) {X : St} {r : Int32} : ∀ (a1 : Int32) (a2 : Int32), jM_tell X a1 a2 = some r → SW p l e ({ frames := 2, cells := 0, slots := 0, locals := 46 } : Room) s m args below meth c D 3 A (wM cy ad) (MQ below (poI D (wM cy ad) A r X) args s 0 0 A) X [(0, .ref (ad 0)), (1, .int a1), (2, .int a2)] 0 [] := by
  intro a1 a2 hJ
  unfold jM_tell at hJ
  refine sw_iload_n (pc := 0) C 2 dX10_tell_0 rfl rfl ?_
  by_cases hs1_0 : a2 = (7 : Int32)
  · replace hJ := itep hs1_0 hJ
    refine sw_tblIn (pc := 1) C (7 : Int32) (off := 35) (tgt := 36) dX10_tell_1 hs1_0 (by decide) (by decide) rfl (by decide) ?_
    refine sw_aload_n (pc := 36) C 0 dX10_tell_36 rfl rfl ?_
    refine sw_iload_n (pc := 37) C 1 dX10_tell_37 rfl rfl ?_
    obtain ⟨q38, hq38, hJ⟩ := bind_some hJ
    refine sw_callV_i (pc := 38) C (st := []) (As := [.int a1]) (k_M_heightOf C.2.2.2.2.2.2.1 hq38) pk_X10_heightOf wd_17_5 0 rfl rfl rfl ⟨Nat.le_of_ble_eq_true rfl, Nat.le_of_ble_eq_true rfl⟩ ⟨rfl, rfl⟩ rfl rfl (Nat.le_of_ble_eq_true rfl) dX10_tell_38 ?_
    obtain rfl := Option.some.inj hJ
    exact sw_iret (pc := 41) C dX10_tell_41
  replace hJ := iten hs1_0 hJ
  by_cases hs1_1 : a2 = (8 : Int32)
  · replace hJ := itep hs1_1 hJ
    refine sw_tblIn (pc := 1) C (8 : Int32) (off := 41) (tgt := 42) dX10_tell_1 hs1_1 (by decide) (by decide) rfl (by decide) ?_
    refine sw_aload_n (pc := 42) C 0 dX10_tell_42 rfl rfl ?_
    refine gM_0_13 (pc := 43) C wd_4_15 dX10_tell_43 ?_
    refine sw_bipush (pc := 46) C (v := (8 : Int32)) dX10_tell_46 (by decide) ?_
    refine sw_iload_n (pc := 48) C 1 dX10_tell_48 rfl rfl ?_
    refine sw_imul (pc := 49) C dX10_tell_49 ?_
    refine sw_bipush (pc := 50) C (v := (7 : Int32)) dX10_tell_50 (by decide) ?_
    refine sw_iadd (pc := 52) C dX10_tell_52 ?_
    obtain ⟨hi53, hJ⟩ := gd hJ
    refine lM_5 (pc := 53) C hi53 dX10_tell_53 ?_
    obtain rfl := Option.some.inj hJ
    exact sw_iret (pc := 54) C dX10_tell_54
  replace hJ := iten hs1_1 hJ
  by_cases hs1_2 : a2 = (9 : Int32)
  · replace hJ := itep hs1_2 hJ
    refine sw_tblIn (pc := 1) C (9 : Int32) (off := 54) (tgt := 55) dX10_tell_1 hs1_2 (by decide) (by decide) rfl (by decide) ?_
    refine sw_aload_n (pc := 55) C 0 dX10_tell_55 rfl rfl ?_
    refine sw_iload_n (pc := 56) C 1 dX10_tell_56 rfl rfl ?_
    obtain ⟨q57, hq57, hJ⟩ := bind_some hJ
    refine sw_callV_i (pc := 57) C (st := []) (As := [.int a1]) (k_M_weighs C.2.2.2.2.2.2.1 hq57) pk_X10_weighs wd_17_9 0 rfl rfl rfl ⟨Nat.le_of_ble_eq_true rfl, Nat.le_of_ble_eq_true rfl⟩ ⟨rfl, rfl⟩ rfl rfl (Nat.le_of_ble_eq_true rfl) dX10_tell_57 ?_
    obtain rfl := Option.some.inj hJ
    exact sw_iret (pc := 60) C dX10_tell_60
  replace hJ := iten hs1_2 hJ
  by_cases hs1_3 : a2 = (10 : Int32)
  · replace hJ := itep hs1_3 hJ
    refine sw_tblIn (pc := 1) C (10 : Int32) (off := 60) (tgt := 61) dX10_tell_1 hs1_3 (by decide) (by decide) rfl (by decide) ?_
    refine sw_aload_n (pc := 61) C 0 dX10_tell_61 rfl rfl ?_
    refine sw_iload_n (pc := 62) C 1 dX10_tell_62 rfl rfl ?_
    obtain ⟨q63, hq63, hJ⟩ := bind_some hJ
    refine sw_callV_i (pc := 63) C (st := []) (As := [.int a1]) (k_M_canBear C.2.2.2.2.2.2.1 hq63) pk_X10_canBear wd_17_13 0 rfl rfl rfl ⟨Nat.le_of_ble_eq_true rfl, Nat.le_of_ble_eq_true rfl⟩ ⟨rfl, rfl⟩ rfl rfl (Nat.le_of_ble_eq_true rfl) dX10_tell_63 ?_
    obtain rfl := Option.some.inj hJ
    exact sw_iret (pc := 66) C dX10_tell_66
  replace hJ := iten hs1_3 hJ
  by_cases hs1_4 : a2 = (11 : Int32)
  · replace hJ := itep hs1_4 hJ
    refine sw_tblIn (pc := 1) C (11 : Int32) (off := 66) (tgt := 67) dX10_tell_1 hs1_4 (by decide) (by decide) rfl (by decide) ?_
    refine sw_aload_n (pc := 67) C 0 dX10_tell_67 rfl rfl ?_
    refine sw_iload_n (pc := 68) C 1 dX10_tell_68 rfl rfl ?_
    obtain ⟨q69, hq69, hJ⟩ := bind_some hJ
    refine sw_callV_i (pc := 69) C (st := []) (As := [.int a1]) (k_M_heightOf C.2.2.2.2.2.2.1 hq69) pk_X10_heightOf wd_17_5 0 rfl rfl rfl ⟨Nat.le_of_ble_eq_true rfl, Nat.le_of_ble_eq_true rfl⟩ ⟨rfl, rfl⟩ rfl rfl (Nat.le_of_ble_eq_true rfl) dX10_tell_69 ?_
    refine sw_if_ne (pc := 72) (tgt := 79) C dX10_tell_72 (by decide) (fun hb72 => ?_) (fun hb72 => ?_)
    · replace hJ := iten hb72 hJ
      refine sw_aload_n (pc := 79) C 0 dX10_tell_79 rfl rfl ?_
      refine sw_aload_n (pc := 80) C 0 dX10_tell_80 rfl rfl ?_
      refine gM_0_15 (pc := 81) C wd_4_16 dX10_tell_81 ?_
      refine sw_aload_n (pc := 84) C 0 dX10_tell_84 rfl rfl ?_
      refine gM_0_14 (pc := 85) C wd_17_4 dX10_tell_85 ?_
      refine sw_aload_n (pc := 88) C 0 dX10_tell_88 rfl rfl ?_
      refine sw_iload_n (pc := 89) C 1 dX10_tell_89 rfl rfl ?_
      obtain ⟨q90, hq90, hJ⟩ := bind_some hJ
      refine sw_callV_i (pc := 90) C (st := [.int (sF X 14), .ref (ad 6), .ref (ad 0)]) (As := [.int a1]) (k_M_heightOf C.2.2.2.2.2.2.1 hq90) pk_X10_heightOf wd_17_5 0 rfl rfl rfl ⟨Nat.le_of_ble_eq_true rfl, Nat.le_of_ble_eq_true rfl⟩ ⟨rfl, rfl⟩ rfl rfl (Nat.le_of_ble_eq_true rfl) dX10_tell_90 ?_
      refine sw_iconst (pc := 93) C (v := (1 : Int32)) dX10_tell_93 (by decide) ?_
      refine sw_isub (pc := 94) C dX10_tell_94 ?_
      obtain ⟨q95, hq95, hJ⟩ := bind_some hJ
      refine sw_callV_i (pc := 95) C (st := []) (As := [.ref (ad 6), .int (sF X 14), .int (q90 - (1 : Int32))]) (k_M_bears C.2.2.2.2.2.2.1 a7_6 hq95) pk_X10_bears wd_17_17 0 rfl rfl rfl ⟨Nat.le_of_ble_eq_true rfl, Nat.le_of_ble_eq_true rfl⟩ ⟨rfl, rfl⟩ rfl rfl (Nat.le_of_ble_eq_true rfl) dX10_tell_95 ?_
      obtain rfl := Option.some.inj hJ
      exact sw_iret (pc := 98) C dX10_tell_98
    · replace hJ := itep hb72 hJ
      refine sw_iconst (pc := 75) C (v := (0 : Int32)) dX10_tell_75 (by decide) ?_
      refine sw_goto (pc := 76) (tgt := 98) C dX10_tell_76 (by decide) ?_
      obtain rfl := Option.some.inj hJ
      exact sw_iret (pc := 98) C dX10_tell_98
  replace hJ := iten hs1_4 hJ
  have e1_0 := tbl_ne (7 : Int32) (a := 7) hs1_0 (by decide)
  have e1_1 := tbl_ne (8 : Int32) (a := 8) hs1_1 (by decide)
  have e1_2 := tbl_ne (9 : Int32) (a := 9) hs1_2 (by decide)
  have e1_3 := tbl_ne (10 : Int32) (a := 10) hs1_3 (by decide)
  have e1_4 := tbl_ne (11 : Int32) (a := 11) hs1_4 (by decide)
  refine sw_tblOut (pc := 1) (tgt := 99) C dX10_tell_1 (by omega) (by decide) ?_
  refine sw_iload_n (pc := 99) C 2 dX10_tell_99 rfl rfl ?_
  refine sw_i2l (pc := 100) C dX10_tell_100 ?_
  refine sw_lconst (pc := 101) C (v := (0 : Int64)) dX10_tell_101 (by decide) ?_
  refine sw_ldc2 (pc := 102) C (v := (6 : Int64)) wd_10_2 dX10_tell_102 ?_
  obtain ⟨q105, hq105, hJ⟩ := bind_some hJ
  refine sw_callS_i (pc := 105) C (st := []) (As := [.long a2.toInt64, .long (0 : Int64), .long (6 : Int64)]) (k_M_in C.2.2.2.2.2.2.1 hq105) pk_X10_in wd_10_4 ⟨Nat.le_of_ble_eq_true rfl, Nat.le_of_ble_eq_true rfl⟩ ⟨rfl, rfl⟩ rfl rfl (Nat.le_of_ble_eq_true rfl) dX10_tell_105 ?_
  refine sw_if_eq (pc := 108) (tgt := 125) C dX10_tell_108 (by decide) (fun hb108 => ?_) (fun hb108 => ?_)
  · replace hJ := itep hb108 hJ
    refine sw_bipush (pc := 125) C (v := (-102 : Int32)) dX10_tell_125 (by decide) ?_
    obtain rfl := Option.some.inj hJ
    exact sw_iret (pc := 127) C dX10_tell_127
  · replace hJ := iten hb108 hJ
    refine sw_aload_n (pc := 111) C 0 dX10_tell_111 rfl rfl ?_
    refine gM_0_13 (pc := 112) C wd_4_15 dX10_tell_112 ?_
    refine sw_bipush (pc := 115) C (v := (8 : Int32)) dX10_tell_115 (by decide) ?_
    refine sw_iload_n (pc := 117) C 1 dX10_tell_117 rfl rfl ?_
    refine sw_imul (pc := 118) C dX10_tell_118 ?_
    refine sw_iload_n (pc := 119) C 2 dX10_tell_119 rfl rfl ?_
    refine sw_iadd (pc := 120) C dX10_tell_120 ?_
    obtain ⟨hi121, hJ⟩ := gd hJ
    refine lM_5 (pc := 121) C hi121 dX10_tell_121 ?_
    refine sw_goto (pc := 122) (tgt := 127) C dX10_tell_122 (by decide) ?_
    obtain rfl := Option.some.inj hJ
    exact sw_iret (pc := 127) C dX10_tell_127
set_option maxHeartbeats 4000000 in
set_option maxRecDepth 100000 in
theorem k_M_tell {l : Launch} {D : va_G} {cy : Nat → ClassId} {ad : Nat → Nat} {A : Nat → Prop} (hD : ∀ X, va_D A (wM cy ad X)) {X : St} {a1 : Int32} {a2 : Int32} {r : Int32} (hJ : jM_tell X a1 a2 = some r) : Met l yX10_tell (wsY yX10_tell cX10_tell 3 (some .int)) ({ frames := 2, cells := 0, slots := 0, locals := 46 } : Room) (prX D cy (wM cy ad) X [.ref (ad 0), .int a1, .int a2]) (poI D (wM cy ad) A r X) 0 0 A := sw_met (by decide +kernel) (Nat.le_of_ble_eq_true rfl) hD (fun p e s m args below meth c C => t_M_tell C _ _ hJ)
set_option maxHeartbeats 4000000 in
set_option maxRecDepth 100000 in
theorem t_M_about {p : Program} {l : Launch} {e : Env} {s : State} {m : MethodId} {args : Array Value} {below : List Frame} {meth : Method} {c : Code} {D : va_G} {cy : Nat → ClassId} {ad : Nat → Nat} {A : Nat → Prop} (C : Cx p s m args meth c D cy cX10_about 3 RX10 (some .int) A (wM cy ad)) {X : St} {r : Int32} : ∀ (a1 : Int32) (a2 : Int32), jM_about X a1 a2 = some r → SW p l e ({ frames := 3, cells := 0, slots := 0, locals := 68 } : Room) s m args below meth c D 3 A (wM cy ad) (MQ below (poI D (wM cy ad) A r X) args s 0 0 A) X [(0, .ref (ad 0)), (1, .int a1), (2, .int a2)] 0 [] := by
  intro a1 a2 hJ
  unfold jM_about at hJ
  refine sw_aload_n (pc := 0) C 0 dX10_about_0 rfl rfl ?_
  refine sw_iload_n (pc := 1) C 1 dX10_about_1 rfl rfl ?_
  obtain ⟨q2, hq2, hJ⟩ := bind_some hJ
  refine sw_callV_i (pc := 2) C (st := []) (As := [.int a1]) (k_M_isMember C.2.2.2.2.2.2.1 hq2) pk_X10_isMember wd_15_8 0 rfl rfl rfl ⟨Nat.le_of_ble_eq_true rfl, Nat.le_of_ble_eq_true rfl⟩ ⟨rfl, rfl⟩ rfl rfl (Nat.le_of_ble_eq_true rfl) dX10_about_2 ?_
  refine sw_if_eq (pc := 5) (tgt := 17) C dX10_about_5 (by decide) (fun hb5 => ?_) (fun hb5 => ?_)
  · replace hJ := itep hb5 hJ
    refine sw_bipush (pc := 17) C (v := (-101 : Int32)) dX10_about_17 (by decide) ?_
    obtain rfl := Option.some.inj hJ
    exact sw_iret (pc := 19) C dX10_about_19
  · replace hJ := iten hb5 hJ
    refine sw_aload_n (pc := 8) C 0 dX10_about_8 rfl rfl ?_
    refine sw_iload_n (pc := 9) C 1 dX10_about_9 rfl rfl ?_
    refine sw_iload_n (pc := 10) C 2 dX10_about_10 rfl rfl ?_
    obtain ⟨q11, hq11, hJ⟩ := bind_some hJ
    refine sw_callV_i (pc := 11) C (st := []) (As := [.int a1, .int a2]) (k_M_tell C.2.2.2.2.2.2.1 hq11) pk_X10_tell wd_17_0 0 rfl rfl rfl ⟨Nat.le_of_ble_eq_true rfl, Nat.le_of_ble_eq_true rfl⟩ ⟨rfl, rfl⟩ rfl rfl (Nat.le_of_ble_eq_true rfl) dX10_about_11 ?_
    refine sw_goto (pc := 14) (tgt := 19) C dX10_about_14 (by decide) ?_
    obtain rfl := Option.some.inj hJ
    exact sw_iret (pc := 19) C dX10_about_19
set_option maxHeartbeats 4000000 in
set_option maxRecDepth 100000 in
theorem k_M_about {l : Launch} {D : va_G} {cy : Nat → ClassId} {ad : Nat → Nat} {A : Nat → Prop} (hD : ∀ X, va_D A (wM cy ad X)) {X : St} {a1 : Int32} {a2 : Int32} {r : Int32} (hJ : jM_about X a1 a2 = some r) : Met l yX10_about (wsY yX10_about cX10_about 3 (some .int)) ({ frames := 3, cells := 0, slots := 0, locals := 68 } : Room) (prX D cy (wM cy ad) X [.ref (ad 0), .int a1, .int a2]) (poI D (wM cy ad) A r X) 0 0 A := sw_met (by decide +kernel) (Nat.le_of_ble_eq_true rfl) hD (fun p e s m args below meth c C => t_M_about C _ _ hJ)
set_option maxHeartbeats 4000000 in
set_option maxRecDepth 100000 in
theorem t_M_as_60 {p : Program} {l : Launch} {e : Env} {s : State} {m : MethodId} {args : Array Value} {below : List Frame} {meth : Method} {c : Code} {D : va_G} {cy : Nat → ClassId} {ad : Nat → Nat} {A : Nat → Prop} (C : Cx p s m args meth c D cy cX10_as 5 RX10 (some .int) A (wM cy ad)) {X : St} {r : Int32} : ∀ (v1 : Int32) (s0 : Int32), jM_as_60 X v1 s0 = some r → SW p l e ({ frames := 2, cells := 0, slots := 0, locals := 46 } : Room) s m args below meth c D 5 A (wM cy ad) (MQ below (poI D (wM cy ad) A r X) args s 0 0 A) X [(1, .int v1)] 60 [.int s0] := by
  intro v1 s0 hJ
  unfold jM_as_60 at hJ
  refine sw_istore (pc := 60) C dX10_as_60 (by decide) (ll2 := [(4, .int s0), (1, .int v1)]) rfl ?_
  refine sw_iload (pc := 62) C 0 dX10_as_62 rfl ?_
  refine sw_if_eq (pc := 64) (tgt := 71) C dX10_as_64 (by decide) (fun hb64 => ?_) (fun hb64 => ?_)
  · replace hJ := itep hb64 hJ
    refine sw_iconst (pc := 71) C (v := (-1 : Int32)) dX10_as_71 (by decide) ?_
    obtain rfl := Option.some.inj hJ
    exact sw_iret (pc := 72) C dX10_as_72
  · replace hJ := iten hb64 hJ
    refine sw_iload_n (pc := 67) C 1 dX10_as_67 rfl rfl ?_
    refine sw_goto (pc := 68) (tgt := 72) C dX10_as_68 (by decide) ?_
    obtain rfl := Option.some.inj hJ
    exact sw_iret (pc := 72) C dX10_as_72
set_option maxHeartbeats 4000000 in
set_option maxRecDepth 100000 in
theorem t_M_as_55 {p : Program} {l : Launch} {e : Env} {s : State} {m : MethodId} {args : Array Value} {below : List Frame} {meth : Method} {c : Code} {D : va_G} {cy : Nat → ClassId} {ad : Nat → Nat} {A : Nat → Prop} (C : Cx p s m args meth c D cy cX10_as 5 RX10 (some .int) A (wM cy ad)) {X : St} {r : Int32} : ∀ (v1 : Int32), jM_as_55 X v1 = some r → SW p l e ({ frames := 2, cells := 0, slots := 0, locals := 46 } : Room) s m args below meth c D 5 A (wM cy ad) (MQ below (poI D (wM cy ad) A r X) args s 0 0 A) X [(1, .int v1)] 55 [] := by
  intro v1 hJ
  unfold jM_as_55 at hJ
  refine sw_iconst (pc := 55) C (v := (1 : Int32)) dX10_as_55 (by decide) ?_
  refine sw_goto (pc := 56) (tgt := 60) C dX10_as_56 (by decide) ?_
  exact sw_sub [0] (by rfl) (t_M_as_60 C _ _ hJ)
set_option maxHeartbeats 4000000 in
set_option maxRecDepth 100000 in
theorem t_M_as_59 {p : Program} {l : Launch} {e : Env} {s : State} {m : MethodId} {args : Array Value} {below : List Frame} {meth : Method} {c : Code} {D : va_G} {cy : Nat → ClassId} {ad : Nat → Nat} {A : Nat → Prop} (C : Cx p s m args meth c D cy cX10_as 5 RX10 (some .int) A (wM cy ad)) {X : St} {r : Int32} : ∀ (v1 : Int32), jM_as_59 X v1 = some r → SW p l e ({ frames := 2, cells := 0, slots := 0, locals := 46 } : Room) s m args below meth c D 5 A (wM cy ad) (MQ below (poI D (wM cy ad) A r X) args s 0 0 A) X [(1, .int v1)] 59 [] := by
  intro v1 hJ
  unfold jM_as_59 at hJ
  refine sw_iconst (pc := 59) C (v := (0 : Int32)) dX10_as_59 (by decide) ?_
  exact sw_sub [0] (by rfl) (t_M_as_60 C _ _ hJ)
set_option maxHeartbeats 4000000 in
set_option maxRecDepth 100000 in
theorem t_M_as {p : Program} {l : Launch} {e : Env} {s : State} {m : MethodId} {args : Array Value} {below : List Frame} {meth : Method} {c : Code} {D : va_G} {cy : Nat → ClassId} {ad : Nat → Nat} {A : Nat → Prop} (C : Cx p s m args meth c D cy cX10_as 5 RX10 (some .int) A (wM cy ad)) {X : St} {r : Int32} : ∀ (a1 : Int32) (a2 : Int32), jM_as X a1 a2 = some r → SW p l e ({ frames := 2, cells := 0, slots := 0, locals := 46 } : Room) s m args below meth c D 5 A (wM cy ad) (MQ below (poI D (wM cy ad) A r X) args s 0 0 A) X [(0, .ref (ad 0)), (1, .int a1), (2, .int a2)] 0 [] := by
  intro a1 a2 hJ
  unfold jM_as at hJ
  refine sw_aload_n (pc := 0) C 0 dX10_as_0 rfl rfl ?_
  refine sw_iload_n (pc := 1) C 1 dX10_as_1 rfl rfl ?_
  obtain ⟨q2, hq2, hJ⟩ := bind_some hJ
  refine sw_callV_i (pc := 2) C (st := []) (As := [.int a1]) (k_M_isMember C.2.2.2.2.2.2.1 hq2) pk_X10_isMember wd_15_8 0 rfl rfl rfl ⟨Nat.le_of_ble_eq_true rfl, Nat.le_of_ble_eq_true rfl⟩ ⟨rfl, rfl⟩ rfl rfl (Nat.le_of_ble_eq_true rfl) dX10_as_2 ?_
  refine sw_if_ne (pc := 5) (tgt := 11) C dX10_as_5 (by decide) (fun hb5 => ?_) (fun hb5 => ?_)
  · replace hJ := iten hb5 hJ
    refine sw_iload_n (pc := 11) C 2 dX10_as_11 rfl rfl ?_
    refine sw_i2l (pc := 12) C dX10_as_12 ?_
    refine sw_lconst (pc := 13) C (v := (0 : Int64)) dX10_as_13 (by decide) ?_
    refine sw_ldc2 (pc := 14) C (v := (4 : Int64)) wd_14_13 dX10_as_14 ?_
    obtain ⟨q17, hq17, hJ⟩ := bind_some hJ
    refine sw_callS_i (pc := 17) C (st := []) (As := [.long a2.toInt64, .long (0 : Int64), .long (4 : Int64)]) (k_M_in C.2.2.2.2.2.2.1 hq17) pk_X10_in wd_10_4 ⟨Nat.le_of_ble_eq_true rfl, Nat.le_of_ble_eq_true rfl⟩ ⟨rfl, rfl⟩ rfl rfl (Nat.le_of_ble_eq_true rfl) dX10_as_17 ?_
    refine sw_if_ne (pc := 20) (tgt := 26) C dX10_as_20 (by decide) (fun hb20 => ?_) (fun hb20 => ?_)
    · replace hJ := iten hb20 hJ
      refine sw_aload_n (pc := 26) C 0 dX10_as_26 rfl rfl ?_
      refine gM_0_13 (pc := 27) C wd_4_15 dX10_as_27 ?_
      refine sw_bipush (pc := 30) C (v := (8 : Int32)) dX10_as_30 (by decide) ?_
      refine sw_iload_n (pc := 32) C 1 dX10_as_32 rfl rfl ?_
      refine sw_imul (pc := 33) C dX10_as_33 ?_
      obtain ⟨hi34, hJ⟩ := gd hJ
      refine lM_5 (pc := 34) C hi34 dX10_as_34 ?_
      refine sw_istore_n (pc := 35) C dX10_as_35 rfl (by decide) (ll2 := [(3, .int (sA X 5 ((8 : Int32) * a1).toNatClampNeg)), (0, .ref (ad 0)), (1, .int a1), (2, .int a2)]) rfl ?_
      refine sw_iload_n (pc := 36) C 3 dX10_as_36 rfl rfl ?_
      refine sw_if_eq (pc := 37) (tgt := 55) C dX10_as_37 (by decide) (fun hb37 => ?_) (fun hb37 => ?_)
      · replace hJ := itep hb37 hJ
        exact sw_sub [2] (by rfl) (t_M_as_55 C _ hJ)
      · replace hJ := iten hb37 hJ
        refine sw_iload_n (pc := 40) C 3 dX10_as_40 rfl rfl ?_
        refine sw_iload_n (pc := 41) C 0 dX10_as_41 rfl rfl ?_
        refine sw_icmp_eq (pc := 42) (tgt := 55) C dX10_as_42 (by decide) (fun hb42 => ?_) (fun hb42 => ?_)
        · replace hJ := itep hb42 hJ
          exact sw_sub [2] (by rfl) (t_M_as_55 C _ hJ)
        · replace hJ := iten hb42 hJ
          refine sw_iload_n (pc := 45) C 3 dX10_as_45 rfl rfl ?_
          refine sw_iconst (pc := 46) C (v := (2 : Int32)) dX10_as_46 (by decide) ?_
          refine sw_icmp_ne (pc := 47) (tgt := 59) C dX10_as_47 (by decide) (fun hb47 => ?_) (fun hb47 => ?_)
          · replace hJ := iten hb47 hJ
            exact sw_sub [2] (by rfl) (t_M_as_59 C _ hJ)
          · replace hJ := itep hb47 hJ
            refine sw_iload_n (pc := 50) C 0 dX10_as_50 rfl rfl ?_
            refine sw_iconst (pc := 51) C (v := (4 : Int32)) dX10_as_51 (by decide) ?_
            refine sw_icmp_ne (pc := 52) (tgt := 59) C dX10_as_52 (by decide) (fun hb52 => ?_) (fun hb52 => ?_)
            · replace hJ := iten hb52 hJ
              exact sw_sub [2] (by rfl) (t_M_as_59 C _ hJ)
            · replace hJ := itep hb52 hJ
              exact sw_sub [2] (by rfl) (t_M_as_55 C _ hJ)
    · replace hJ := itep hb20 hJ
      refine sw_bipush (pc := 23) C (v := (-102 : Int32)) dX10_as_23 (by decide) ?_
      obtain rfl := Option.some.inj hJ
      exact sw_iret (pc := 25) C dX10_as_25
  · replace hJ := itep hb5 hJ
    refine sw_bipush (pc := 8) C (v := (-101 : Int32)) dX10_as_8 (by decide) ?_
    obtain rfl := Option.some.inj hJ
    exact sw_iret (pc := 10) C dX10_as_10
set_option maxHeartbeats 4000000 in
set_option maxRecDepth 100000 in
theorem k_M_as {l : Launch} {D : va_G} {cy : Nat → ClassId} {ad : Nat → Nat} {A : Nat → Prop} (hD : ∀ X, va_D A (wM cy ad X)) {X : St} {a1 : Int32} {a2 : Int32} {r : Int32} (hJ : jM_as X a1 a2 = some r) : Met l yX10_as (wsY yX10_as cX10_as 5 (some .int)) ({ frames := 2, cells := 0, slots := 0, locals := 46 } : Room) (prX D cy (wM cy ad) X [.ref (ad 0), .int a1, .int a2]) (poI D (wM cy ad) A r X) 0 0 A := sw_met (by decide +kernel) (Nat.le_of_ble_eq_true rfl) hD (fun p e s m args below meth c C => t_M_as C _ _ hJ)
set_option maxHeartbeats 4000000 in
set_option maxRecDepth 100000 in
theorem t_M_chair {p : Program} {l : Launch} {e : Env} {s : State} {m : MethodId} {args : Array Value} {below : List Frame} {meth : Method} {c : Code} {D : va_G} {cy : Nat → ClassId} {ad : Nat → Nat} {A : Nat → Prop} (C : Cx p s m args meth c D cy cX10_chair 4 RX10 (some .int) A (wM cy ad)) {r : Int32 × St} : ∀ (X : St) (a1 : Int32) (a2 : Int32), jM_chair X a1 a2 = some r → SW p l e ({ frames := 2, cells := 0, slots := 0, locals := 46 } : Room) s m args below meth c D 4 A (wM cy ad) (MQ below (poI D (wM cy ad) A r.1 r.2) args s 0 0 A) X [(0, .ref (ad 0)), (1, .int a1), (2, .int a2)] 0 [] := by
  intro X a1 a2 hJ
  unfold jM_chair at hJ
  refine sw_aload_n (pc := 0) C 0 dX10_chair_0 rfl rfl ?_
  refine sw_iload_n (pc := 1) C 1 dX10_chair_1 rfl rfl ?_
  obtain ⟨q2, hq2, hJ⟩ := bind_some hJ
  refine sw_callV_i (pc := 2) C (st := []) (As := [.int a1]) (k_M_isMember C.2.2.2.2.2.2.1 hq2) pk_X10_isMember wd_15_8 0 rfl rfl rfl ⟨Nat.le_of_ble_eq_true rfl, Nat.le_of_ble_eq_true rfl⟩ ⟨rfl, rfl⟩ rfl rfl (Nat.le_of_ble_eq_true rfl) dX10_chair_2 ?_
  refine sw_if_ne (pc := 5) (tgt := 11) C dX10_chair_5 (by decide) (fun hb5 => ?_) (fun hb5 => ?_)
  · replace hJ := iten hb5 hJ
    refine sw_iload_n (pc := 11) C 2 dX10_chair_11 rfl rfl ?_
    refine sw_i2l (pc := 12) C dX10_chair_12 ?_
    refine sw_lconst (pc := 13) C (v := (0 : Int64)) dX10_chair_13 (by decide) ?_
    refine sw_ldc2 (pc := 14) C (v := (99 : Int64)) wd_14_17 dX10_chair_14 ?_
    obtain ⟨q17, hq17, hJ⟩ := bind_some hJ
    refine sw_callS_i (pc := 17) C (st := []) (As := [.long a2.toInt64, .long (0 : Int64), .long (99 : Int64)]) (k_M_in C.2.2.2.2.2.2.1 hq17) pk_X10_in wd_10_4 ⟨Nat.le_of_ble_eq_true rfl, Nat.le_of_ble_eq_true rfl⟩ ⟨rfl, rfl⟩ rfl rfl (Nat.le_of_ble_eq_true rfl) dX10_chair_17 ?_
    refine sw_if_ne (pc := 20) (tgt := 26) C dX10_chair_20 (by decide) (fun hb20 => ?_) (fun hb20 => ?_)
    · replace hJ := iten hb20 hJ
      refine sw_aload_n (pc := 26) C 0 dX10_chair_26 rfl rfl ?_
      refine sw_iload_n (pc := 27) C 1 dX10_chair_27 rfl rfl ?_
      obtain ⟨q28, hq28, hJ⟩ := bind_some hJ
      refine sw_callV_i (pc := 28) C (st := []) (As := [.int a1]) (k_M_heightOf C.2.2.2.2.2.2.1 hq28) pk_X10_heightOf wd_17_5 0 rfl rfl rfl ⟨Nat.le_of_ble_eq_true rfl, Nat.le_of_ble_eq_true rfl⟩ ⟨rfl, rfl⟩ rfl rfl (Nat.le_of_ble_eq_true rfl) dX10_chair_28 ?_
      refine sw_if_le (pc := 31) (tgt := 37) C dX10_chair_31 (by decide) (fun hb31 => ?_) (fun hb31 => ?_)
      · replace hJ := itep hb31 hJ
        refine sw_aload_n (pc := 37) C 0 dX10_chair_37 rfl rfl ?_
        refine gM_0_13 (pc := 38) C wd_4_15 dX10_chair_38 ?_
        refine sw_bipush (pc := 41) C (v := (8 : Int32)) dX10_chair_41 (by decide) ?_
        refine sw_iload_n (pc := 43) C 1 dX10_chair_43 rfl rfl ?_
        refine sw_imul (pc := 44) C dX10_chair_44 ?_
        refine sw_iconst (pc := 45) C (v := (4 : Int32)) dX10_chair_45 (by decide) ?_
        refine sw_iadd (pc := 46) C dX10_chair_46 ?_
        obtain ⟨hi47, hJ⟩ := gd hJ
        refine lM_5 (pc := 47) C hi47 dX10_chair_47 ?_
        refine sw_istore_n (pc := 48) C dX10_chair_48 rfl (by decide) (ll2 := [(3, .int (sA X 5 (((8 : Int32) * a1) + (4 : Int32)).toNatClampNeg)), (0, .ref (ad 0)), (1, .int a1), (2, .int a2)]) rfl ?_
        refine sw_aload_n (pc := 49) C 1 dX10_chair_49 rfl rfl ?_
        refine gM_0_13 (pc := 50) C wd_4_15 dX10_chair_50 ?_
        refine sw_bipush (pc := 53) C (v := (8 : Int32)) dX10_chair_53 (by decide) ?_
        refine sw_iload_n (pc := 55) C 2 dX10_chair_55 rfl rfl ?_
        refine sw_imul (pc := 56) C dX10_chair_56 ?_
        refine sw_iconst (pc := 57) C (v := (4 : Int32)) dX10_chair_57 (by decide) ?_
        refine sw_iadd (pc := 58) C dX10_chair_58 ?_
        refine sw_iload_n (pc := 59) C 3 dX10_chair_59 rfl rfl ?_
        obtain ⟨hi60, hJ⟩ := gd hJ
        refine tM_5 (pc := 60) C hi60 dX10_chair_60 ?_
        refine sw_iload_n (pc := 61) C 0 dX10_chair_61 rfl rfl ?_
        obtain rfl := Option.some.inj hJ
        exact sw_iret (pc := 62) C dX10_chair_62
      · replace hJ := iten hb31 hJ
        refine sw_bipush (pc := 34) C (v := (-103 : Int32)) dX10_chair_34 (by decide) ?_
        obtain rfl := Option.some.inj hJ
        exact sw_iret (pc := 36) C dX10_chair_36
    · replace hJ := itep hb20 hJ
      refine sw_bipush (pc := 23) C (v := (-102 : Int32)) dX10_chair_23 (by decide) ?_
      obtain rfl := Option.some.inj hJ
      exact sw_iret (pc := 25) C dX10_chair_25
  · replace hJ := itep hb5 hJ
    refine sw_bipush (pc := 8) C (v := (-101 : Int32)) dX10_chair_8 (by decide) ?_
    obtain rfl := Option.some.inj hJ
    exact sw_iret (pc := 10) C dX10_chair_10
set_option maxHeartbeats 4000000 in
set_option maxRecDepth 100000 in
theorem k_M_chair {l : Launch} {D : va_G} {cy : Nat → ClassId} {ad : Nat → Nat} {A : Nat → Prop} (hD : ∀ X, va_D A (wM cy ad X)) {X : St} {a1 : Int32} {a2 : Int32} {r : Int32 × St} (hJ : jM_chair X a1 a2 = some r) : Met l yX10_chair (wsY yX10_chair cX10_chair 4 (some .int)) ({ frames := 2, cells := 0, slots := 0, locals := 46 } : Room) (prX D cy (wM cy ad) X [.ref (ad 0), .int a1, .int a2]) (poI D (wM cy ad) A r.1 r.2) 0 0 A := sw_met (by decide +kernel) (Nat.le_of_ble_eq_true rfl) hD (fun p e s m args below meth c C => t_M_chair C _ _ _ hJ)
set_option maxHeartbeats 4000000 in
set_option maxRecDepth 100000 in
theorem t_M_may {p : Program} {l : Launch} {e : Env} {s : State} {m : MethodId} {args : Array Value} {below : List Frame} {meth : Method} {c : Code} {D : va_G} {cy : Nat → ClassId} {ad : Nat → Nat} {A : Nat → Prop} (C : Cx p s m args meth c D cy cX10_may 2 RX10 (some .int) A (wM cy ad)) {X : St} {r : Int32} : ∀ (a1 : Int32), jM_may X a1 = some r → SW p l e ({ frames := 2, cells := 0, slots := 0, locals := 47 } : Room) s m args below meth c D 2 A (wM cy ad) (MQ below (poI D (wM cy ad) A r X) args s 0 0 A) X [(0, .ref (ad 0)), (1, .int a1)] 0 [] := by
  intro a1 hJ
  unfold jM_may at hJ
  refine sw_aload_n (pc := 0) C 0 dX10_may_0 rfl rfl ?_
  refine sw_iload_n (pc := 1) C 1 dX10_may_1 rfl rfl ?_
  obtain ⟨q2, hq2, hJ⟩ := bind_some hJ
  refine sw_callV_i (pc := 2) C (st := []) (As := [.int a1]) (k_M_isMember C.2.2.2.2.2.2.1 hq2) pk_X10_isMember wd_15_8 0 rfl rfl rfl ⟨Nat.le_of_ble_eq_true rfl, Nat.le_of_ble_eq_true rfl⟩ ⟨rfl, rfl⟩ rfl rfl (Nat.le_of_ble_eq_true rfl) dX10_may_2 ?_
  refine sw_if_ne (pc := 5) (tgt := 11) C dX10_may_5 (by decide) (fun hb5 => ?_) (fun hb5 => ?_)
  · replace hJ := iten hb5 hJ
    refine sw_aload_n (pc := 11) C 0 dX10_may_11 rfl rfl ?_
    refine sw_iload_n (pc := 12) C 1 dX10_may_12 rfl rfl ?_
    refine sw_aload_n (pc := 13) C 0 dX10_may_13 rfl rfl ?_
    refine gM_0_15 (pc := 14) C wd_4_16 dX10_may_14 ?_
    refine sw_aload_n (pc := 17) C 0 dX10_may_17 rfl rfl ?_
    refine gM_0_14 (pc := 18) C wd_17_4 dX10_may_18 ?_
    obtain ⟨q21, hq21, hJ⟩ := bind_some hJ
    refine sw_callV_i (pc := 21) C (st := []) (As := [.int a1, .ref (ad 6), .int (sF X 14)]) (k_M_mayRise C.2.2.2.2.2.2.1 a7_6 hq21) pk_X10_mayRise wd_19_7 0 rfl rfl rfl ⟨Nat.le_of_ble_eq_true rfl, Nat.le_of_ble_eq_true rfl⟩ ⟨rfl, rfl⟩ rfl rfl (Nat.le_of_ble_eq_true rfl) dX10_may_21 ?_
    refine sw_if_eq (pc := 24) (tgt := 31) C dX10_may_24 (by decide) (fun hb24 => ?_) (fun hb24 => ?_)
    · replace hJ := itep hb24 hJ
      refine sw_iconst (pc := 31) C (v := (0 : Int32)) dX10_may_31 (by decide) ?_
      obtain rfl := Option.some.inj hJ
      exact sw_iret (pc := 32) C dX10_may_32
    · replace hJ := iten hb24 hJ
      refine sw_iconst (pc := 27) C (v := (1 : Int32)) dX10_may_27 (by decide) ?_
      refine sw_goto (pc := 28) (tgt := 32) C dX10_may_28 (by decide) ?_
      obtain rfl := Option.some.inj hJ
      exact sw_iret (pc := 32) C dX10_may_32
  · replace hJ := itep hb5 hJ
    refine sw_bipush (pc := 8) C (v := (-101 : Int32)) dX10_may_8 (by decide) ?_
    obtain rfl := Option.some.inj hJ
    exact sw_iret (pc := 10) C dX10_may_10
set_option maxHeartbeats 4000000 in
set_option maxRecDepth 100000 in
theorem k_M_may {l : Launch} {D : va_G} {cy : Nat → ClassId} {ad : Nat → Nat} {A : Nat → Prop} (hD : ∀ X, va_D A (wM cy ad X)) {X : St} {a1 : Int32} {r : Int32} (hJ : jM_may X a1 = some r) : Met l yX10_may (wsY yX10_may cX10_may 2 (some .int)) ({ frames := 2, cells := 0, slots := 0, locals := 47 } : Room) (prX D cy (wM cy ad) X [.ref (ad 0), .int a1]) (poI D (wM cy ad) A r X) 0 0 A := sw_met (by decide +kernel) (Nat.le_of_ble_eq_true rfl) hD (fun p e s m args below meth c C => t_M_may C _ hJ)
set_option maxHeartbeats 4000000 in
set_option maxRecDepth 100000 in
theorem t_M_rise_117 {p : Program} {l : Launch} {e : Env} {s : State} {m : MethodId} {args : Array Value} {below : List Frame} {meth : Method} {c : Code} {D : va_G} {cy : Nat → ClassId} {ad : Nat → Nat} {A : Nat → Prop} (C : Cx p s m args meth c D cy cX10_rise 3 RX10 (some .int) A (wM cy ad)) {r : Int32 × St} : ∀ (X : St), jM_rise_117 X = some r → SW p l e ({ frames := 3, cells := 0, slots := 0, locals := 70 } : Room) s m args below meth c D 3 A (wM cy ad) (MQ below (poI D (wM cy ad) A r.1 r.2) args s 0 0 A) X [(0, .ref (ad 0))] 117 [] := by
  intro X hJ
  unfold jM_rise_117 at hJ
  refine sw_aload_n (pc := 117) C 0 dX10_rise_117 rfl rfl ?_
  refine gM_0_14 (pc := 118) C wd_17_4 dX10_rise_118 ?_
  obtain rfl := Option.some.inj hJ
  exact sw_iret (pc := 121) C dX10_rise_121
set_option maxHeartbeats 4000000 in
set_option maxRecDepth 100000 in
theorem t_M_rise_67 {p : Program} {l : Launch} {e : Env} {s : State} {m : MethodId} {args : Array Value} {below : List Frame} {meth : Method} {c : Code} {D : va_G} {cy : Nat → ClassId} {ad : Nat → Nat} {A : Nat → Prop} (C : Cx p s m args meth c D cy cX10_rise 3 RX10 (some .int) A (wM cy ad)) {r : Int32 × St} : ∀ (n : Nat) (X : St) (v2 : Int32), jM_rise_67 n X v2 = some r → SW p l e ({ frames := 3, cells := 0, slots := 0, locals := 70 } : Room) s m args below meth c D 3 A (wM cy ad) (MQ below (poI D (wM cy ad) A r.1 r.2) args s 0 0 A) X [(0, .ref (ad 0)), (2, .int v2)] 67 [] := by
  intro n
  induction n with
  | zero => intro X v2 hJ; exact absurd (show (none : Option (Int32 × St)) = some r from hJ) (fun h => by cases h)
  | succ n ih =>
    intro X v2 hJ
    rw [jM_rise_67] at hJ
    refine sw_iload_n (pc := 67) C 1 dX10_rise_67 rfl rfl ?_
    refine sw_aload_n (pc := 68) C 0 dX10_rise_68 rfl rfl ?_
    refine gM_0_14 (pc := 69) C wd_17_4 dX10_rise_69 ?_
    refine sw_icmp_ge (pc := 72) (tgt := 102) C dX10_rise_72 (by decide) (fun hb72 => ?_) (fun hb72 => ?_)
    · replace hJ := itep hb72 hJ
      refine sw_aload_n (pc := 102) C 0 dX10_rise_102 rfl rfl ?_
      refine sw_iconst (pc := 103) C (v := (0 : Int32)) dX10_rise_103 (by decide) ?_
      refine pM_0_14 (pc := 104) C wd_17_4 dX10_rise_104 ?_
      refine sw_aload_n (pc := 107) C 0 dX10_rise_107 rfl rfl ?_
      refine sw_dup (pc := 108) C dX10_rise_108 rfl ?_
      refine gM_0_16 (pc := 109) C wd_20_18 dX10_rise_109 ?_
      refine sw_iconst (pc := 112) C (v := (1 : Int32)) dX10_rise_112 (by decide) ?_
      refine sw_iadd (pc := 113) C dX10_rise_113 ?_
      refine pM_0_16 (pc := 114) C wd_20_18 dX10_rise_114 ?_
      exact sw_sub [0] (by rfl) (t_M_rise_117 C _ hJ)
    · replace hJ := iten hb72 hJ
      refine sw_aload_n (pc := 75) C 0 dX10_rise_75 rfl rfl ?_
      refine gM_0_13 (pc := 76) C wd_4_15 dX10_rise_76 ?_
      refine sw_bipush (pc := 79) C (v := (8 : Int32)) dX10_rise_79 (by decide) ?_
      refine sw_aload_n (pc := 81) C 0 dX10_rise_81 rfl rfl ?_
      refine gM_0_15 (pc := 82) C wd_4_16 dX10_rise_82 ?_
      refine sw_iload_n (pc := 85) C 1 dX10_rise_85 rfl rfl ?_
      obtain ⟨hi86, hJ⟩ := gd hJ
      refine lM_6 (pc := 86) C hi86 dX10_rise_86 ?_
      refine sw_imul (pc := 87) C dX10_rise_87 ?_
      refine sw_bipush (pc := 88) C (v := (7 : Int32)) dX10_rise_88 (by decide) ?_
      refine sw_iadd (pc := 90) C dX10_rise_90 ?_
      refine sw_dup2 (pc := 91) C dX10_rise_91 rfl rfl ?_
      obtain ⟨hi92, hJ⟩ := gd hJ
      refine lM_5 (pc := 92) C hi92 dX10_rise_92 ?_
      refine sw_iconst (pc := 93) C (v := (1 : Int32)) dX10_rise_93 (by decide) ?_
      refine sw_iadd (pc := 94) C dX10_rise_94 ?_
      obtain ⟨hi95, hJ⟩ := gd hJ
      refine tM_5 (pc := 95) C hi95 dX10_rise_95 ?_
      refine sw_iinc (pc := 96) C 1 dX10_rise_96 rfl (v := (v2 + (1 : Int32))) (congrArg (fun z => v2 + z) (by decide)) (by decide) (ll2 := [(2, .int (v2 + (1 : Int32))), (0, .ref (ad 0))]) rfl ?_
      refine sw_goto (pc := 99) (tgt := 67) C dX10_rise_99 (by decide) ?_
      exact sw_sub [1, 0] (by rfl) (ih _ _ hJ)
set_option maxHeartbeats 4000000 in
set_option maxRecDepth 100000 in
theorem t_M_rise {p : Program} {l : Launch} {e : Env} {s : State} {m : MethodId} {args : Array Value} {below : List Frame} {meth : Method} {c : Code} {D : va_G} {cy : Nat → ClassId} {ad : Nat → Nat} {A : Nat → Prop} (C : Cx p s m args meth c D cy cX10_rise 3 RX10 (some .int) A (wM cy ad)) {r : Int32 × St} : ∀ (X : St) (a1 : Int32), jM_rise X a1 = some r → SW p l e ({ frames := 3, cells := 0, slots := 0, locals := 70 } : Room) s m args below meth c D 3 A (wM cy ad) (MQ below (poI D (wM cy ad) A r.1 r.2) args s 0 0 A) X [(0, .ref (ad 0)), (1, .int a1)] 0 [] := by
  intro X a1 hJ
  unfold jM_rise at hJ
  refine sw_aload_n (pc := 0) C 0 dX10_rise_0 rfl rfl ?_
  refine sw_iload_n (pc := 1) C 1 dX10_rise_1 rfl rfl ?_
  obtain ⟨q2, hq2, hJ⟩ := bind_some hJ
  refine sw_callV_i (pc := 2) C (st := []) (As := [.int a1]) (k_M_isMember C.2.2.2.2.2.2.1 hq2) pk_X10_isMember wd_15_8 0 rfl rfl rfl ⟨Nat.le_of_ble_eq_true rfl, Nat.le_of_ble_eq_true rfl⟩ ⟨rfl, rfl⟩ rfl rfl (Nat.le_of_ble_eq_true rfl) dX10_rise_2 ?_
  refine sw_if_ne (pc := 5) (tgt := 11) C dX10_rise_5 (by decide) (fun hb5 => ?_) (fun hb5 => ?_)
  · replace hJ := iten hb5 hJ
    refine sw_aload_n (pc := 11) C 0 dX10_rise_11 rfl rfl ?_
    refine sw_iload_n (pc := 12) C 1 dX10_rise_12 rfl rfl ?_
    refine sw_aload_n (pc := 13) C 0 dX10_rise_13 rfl rfl ?_
    refine gM_0_15 (pc := 14) C wd_4_16 dX10_rise_14 ?_
    refine sw_aload_n (pc := 17) C 0 dX10_rise_17 rfl rfl ?_
    refine gM_0_14 (pc := 18) C wd_17_4 dX10_rise_18 ?_
    obtain ⟨q21, hq21, hJ⟩ := bind_some hJ
    refine sw_callV_i (pc := 21) C (st := []) (As := [.int a1, .ref (ad 6), .int (sF X 14)]) (k_M_mayRise C.2.2.2.2.2.2.1 a7_6 hq21) pk_X10_mayRise wd_19_7 0 rfl rfl rfl ⟨Nat.le_of_ble_eq_true rfl, Nat.le_of_ble_eq_true rfl⟩ ⟨rfl, rfl⟩ rfl rfl (Nat.le_of_ble_eq_true rfl) dX10_rise_21 ?_
    refine sw_if_ne (pc := 24) (tgt := 30) C dX10_rise_24 (by decide) (fun hb24 => ?_) (fun hb24 => ?_)
    · replace hJ := iten hb24 hJ
      refine sw_aload_n (pc := 30) C 0 dX10_rise_30 rfl rfl ?_
      refine gM_0_15 (pc := 31) C wd_4_16 dX10_rise_31 ?_
      refine sw_aload_n (pc := 34) C 0 dX10_rise_34 rfl rfl ?_
      refine gM_0_14 (pc := 35) C wd_17_4 dX10_rise_35 ?_
      refine sw_iload_n (pc := 38) C 1 dX10_rise_38 rfl rfl ?_
      obtain ⟨hi39, hJ⟩ := gd hJ
      refine tM_6 (pc := 39) C hi39 dX10_rise_39 ?_
      refine sw_aload_n (pc := 40) C 0 dX10_rise_40 rfl rfl ?_
      refine sw_dup (pc := 41) C dX10_rise_41 rfl ?_
      refine gM_0_14 (pc := 42) C wd_17_4 dX10_rise_42 ?_
      refine sw_iconst (pc := 45) C (v := (1 : Int32)) dX10_rise_45 (by decide) ?_
      refine sw_iadd (pc := 46) C dX10_rise_46 ?_
      refine pM_0_14 (pc := 47) C wd_17_4 dX10_rise_47 ?_
      refine sw_aload_n (pc := 50) C 0 dX10_rise_50 rfl rfl ?_
      refine sw_aload_n (pc := 51) C 0 dX10_rise_51 rfl rfl ?_
      refine gM_0_15 (pc := 52) C wd_4_16 dX10_rise_52 ?_
      refine sw_aload_n (pc := 55) C 0 dX10_rise_55 rfl rfl ?_
      refine gM_0_14 (pc := 56) C wd_17_4 dX10_rise_56 ?_
      obtain ⟨q59, hq59, hJ⟩ := bind_some hJ
      refine sw_callV_i (pc := 59) C (st := []) (As := [.ref (ad 6), .int (sF (pF (pA X 6 (sF X 14).toNatClampNeg a1) 14 ((sF (pA X 6 (sF X 14).toNatClampNeg a1) 14) + (1 : Int32))) 14)]) (k_M_holds C.2.2.2.2.2.2.1 a7_6 hq59) pk_X10_holds wd_20_19 0 rfl rfl rfl ⟨Nat.le_of_ble_eq_true rfl, Nat.le_of_ble_eq_true rfl⟩ ⟨rfl, rfl⟩ rfl rfl (Nat.le_of_ble_eq_true rfl) dX10_rise_59 ?_
      refine sw_if_ne (pc := 62) (tgt := 117) C dX10_rise_62 (by decide) (fun hb62 => ?_) (fun hb62 => ?_)
      · replace hJ := iten hb62 hJ
        exact sw_sub [0] (by rfl) (t_M_rise_117 C _ hJ)
      · replace hJ := itep hb62 hJ
        refine sw_iconst (pc := 65) C (v := (0 : Int32)) dX10_rise_65 (by decide) ?_
        refine sw_istore_n (pc := 66) C dX10_rise_66 rfl (by decide) (ll2 := [(2, .int (0 : Int32)), (0, .ref (ad 0)), (1, .int a1)]) rfl ?_
        exact sw_sub [1, 0] (by rfl) (t_M_rise_67 C _ _ _ hJ)
    · replace hJ := itep hb24 hJ
      refine sw_bipush (pc := 27) C (v := (-103 : Int32)) dX10_rise_27 (by decide) ?_
      obtain rfl := Option.some.inj hJ
      exact sw_iret (pc := 29) C dX10_rise_29
  · replace hJ := itep hb5 hJ
    refine sw_bipush (pc := 8) C (v := (-101 : Int32)) dX10_rise_8 (by decide) ?_
    obtain rfl := Option.some.inj hJ
    exact sw_iret (pc := 10) C dX10_rise_10
set_option maxHeartbeats 4000000 in
set_option maxRecDepth 100000 in
theorem k_M_rise {l : Launch} {D : va_G} {cy : Nat → ClassId} {ad : Nat → Nat} {A : Nat → Prop} (hD : ∀ X, va_D A (wM cy ad X)) {X : St} {a1 : Int32} {r : Int32 × St} (hJ : jM_rise X a1 = some r) : Met l yX10_rise (wsY yX10_rise cX10_rise 3 (some .int)) ({ frames := 3, cells := 0, slots := 0, locals := 70 } : Room) (prX D cy (wM cy ad) X [.ref (ad 0), .int a1]) (poI D (wM cy ad) A r.1 r.2) 0 0 A := sw_met (by decide +kernel) (Nat.le_of_ble_eq_true rfl) hD (fun p e s m args below meth c C => t_M_rise C _ _ hJ)
set_option maxHeartbeats 4000000 in
set_option maxRecDepth 100000 in
theorem t_M_down {p : Program} {l : Launch} {e : Env} {s : State} {m : MethodId} {args : Array Value} {below : List Frame} {meth : Method} {c : Code} {D : va_G} {cy : Nat → ClassId} {ad : Nat → Nat} {A : Nat → Prop} (C : Cx p s m args meth c D cy cX10_down 2 RX10 (some .int) A (wM cy ad)) {r : Int32 × St} : ∀ (X : St), jM_down X = some r → SW p l e ({ frames := 0, cells := 0, slots := 0, locals := 0 } : Room) s m args below meth c D 2 A (wM cy ad) (MQ below (poI D (wM cy ad) A r.1 r.2) args s 0 0 A) X [(0, .ref (ad 0))] 0 [] := by
  intro X hJ
  unfold jM_down at hJ
  refine sw_aload_n (pc := 0) C 0 dX10_down_0 rfl rfl ?_
  refine gM_0_14 (pc := 1) C wd_17_4 dX10_down_1 ?_
  refine sw_istore_n (pc := 4) C dX10_down_4 rfl (by decide) (ll2 := [(1, .int (sF X 14)), (0, .ref (ad 0))]) rfl ?_
  refine sw_aload_n (pc := 5) C 1 dX10_down_5 rfl rfl ?_
  refine sw_iconst (pc := 6) C (v := (0 : Int32)) dX10_down_6 (by decide) ?_
  refine pM_0_14 (pc := 7) C wd_17_4 dX10_down_7 ?_
  refine sw_iload_n (pc := 10) C 0 dX10_down_10 rfl rfl ?_
  obtain rfl := Option.some.inj hJ
  exact sw_iret (pc := 11) C dX10_down_11
set_option maxHeartbeats 4000000 in
set_option maxRecDepth 100000 in
theorem k_M_down {l : Launch} {D : va_G} {cy : Nat → ClassId} {ad : Nat → Nat} {A : Nat → Prop} (hD : ∀ X, va_D A (wM cy ad X)) {X : St}  {r : Int32 × St} (hJ : jM_down X = some r) : Met l yX10_down (wsY yX10_down cX10_down 2 (some .int)) ({ frames := 0, cells := 0, slots := 0, locals := 0 } : Room) (prX D cy (wM cy ad) X [.ref (ad 0)]) (poI D (wM cy ad) A r.1 r.2) 0 0 A := sw_met (by decide +kernel) (Nat.le_of_ble_eq_true rfl) hD (fun p e s m args below meth c C => t_M_down C _ hJ)
set_option maxHeartbeats 4000000 in
set_option maxRecDepth 100000 in
theorem t_M_at {p : Program} {l : Launch} {e : Env} {s : State} {m : MethodId} {args : Array Value} {below : List Frame} {meth : Method} {c : Code} {D : va_G} {cy : Nat → ClassId} {ad : Nat → Nat} {A : Nat → Prop} (C : Cx p s m args meth c D cy cX10_at 2 RX10 (some .int) A (wM cy ad)) {X : St} {r : Int32} : ∀ (a1 : Int32), jM_at X a1 = some r → SW p l e ({ frames := 1, cells := 0, slots := 0, locals := 25 } : Room) s m args below meth c D 2 A (wM cy ad) (MQ below (poI D (wM cy ad) A r X) args s 0 0 A) X [(0, .ref (ad 0)), (1, .int a1)] 0 [] := by
  intro a1 hJ
  unfold jM_at at hJ
  refine sw_iload_n (pc := 0) C 1 dX10_at_0 rfl rfl ?_
  refine sw_i2l (pc := 1) C dX10_at_1 ?_
  refine sw_lconst (pc := 2) C (v := (1 : Int64)) dX10_at_2 (by decide) ?_
  refine sw_aload_n (pc := 3) C 0 dX10_at_3 rfl rfl ?_
  refine gM_0_14 (pc := 4) C wd_17_4 dX10_at_4 ?_
  refine sw_i2l (pc := 7) C dX10_at_7 ?_
  obtain ⟨q8, hq8, hJ⟩ := bind_some hJ
  refine sw_callS_i (pc := 8) C (st := []) (As := [.long a1.toInt64, .long (1 : Int64), .long (sF X 14).toInt64]) (k_M_in C.2.2.2.2.2.2.1 hq8) pk_X10_in wd_10_4 ⟨Nat.le_of_ble_eq_true rfl, Nat.le_of_ble_eq_true rfl⟩ ⟨rfl, rfl⟩ rfl rfl (Nat.le_of_ble_eq_true rfl) dX10_at_8 ?_
  refine sw_if_eq (pc := 11) (tgt := 25) C dX10_at_11 (by decide) (fun hb11 => ?_) (fun hb11 => ?_)
  · replace hJ := itep hb11 hJ
    refine sw_bipush (pc := 25) C (v := (-101 : Int32)) dX10_at_25 (by decide) ?_
    obtain rfl := Option.some.inj hJ
    exact sw_iret (pc := 27) C dX10_at_27
  · replace hJ := iten hb11 hJ
    refine sw_aload_n (pc := 14) C 0 dX10_at_14 rfl rfl ?_
    refine gM_0_15 (pc := 15) C wd_4_16 dX10_at_15 ?_
    refine sw_iload_n (pc := 18) C 1 dX10_at_18 rfl rfl ?_
    refine sw_iconst (pc := 19) C (v := (1 : Int32)) dX10_at_19 (by decide) ?_
    refine sw_isub (pc := 20) C dX10_at_20 ?_
    obtain ⟨hi21, hJ⟩ := gd hJ
    refine lM_6 (pc := 21) C hi21 dX10_at_21 ?_
    refine sw_goto (pc := 22) (tgt := 27) C dX10_at_22 (by decide) ?_
    obtain rfl := Option.some.inj hJ
    exact sw_iret (pc := 27) C dX10_at_27
set_option maxHeartbeats 4000000 in
set_option maxRecDepth 100000 in
theorem k_M_at {l : Launch} {D : va_G} {cy : Nat → ClassId} {ad : Nat → Nat} {A : Nat → Prop} (hD : ∀ X, va_D A (wM cy ad X)) {X : St} {a1 : Int32} {r : Int32} (hJ : jM_at X a1 = some r) : Met l yX10_at (wsY yX10_at cX10_at 2 (some .int)) ({ frames := 1, cells := 0, slots := 0, locals := 25 } : Room) (prX D cy (wM cy ad) X [.ref (ad 0), .int a1]) (poI D (wM cy ad) A r X) 0 0 A := sw_met (by decide +kernel) (Nat.le_of_ble_eq_true rfl) hD (fun p e s m args below meth c C => t_M_at C _ hJ)
set_option maxHeartbeats 4000000 in
set_option maxRecDepth 100000 in
theorem t_M_bill {p : Program} {l : Launch} {e : Env} {s : State} {m : MethodId} {args : Array Value} {below : List Frame} {meth : Method} {c : Code} {D : va_G} {cy : Nat → ClassId} {ad : Nat → Nat} {A : Nat → Prop} (C : Cx p s m args meth c D cy cX10_bill 1 RX10 (some .int) A (wM cy ad)) {X : St} {r : Int32} : jM_bill X = some r → SW p l e ({ frames := 1, cells := 0, slots := 0, locals := 26 } : Room) s m args below meth c D 1 A (wM cy ad) (MQ below (poI D (wM cy ad) A r X) args s 0 0 A) X [(0, .ref (ad 0))] 0 [] := by
  intro  hJ
  unfold jM_bill at hJ
  refine sw_aload_n (pc := 0) C 0 dX10_bill_0 rfl rfl ?_
  refine sw_aload_n (pc := 1) C 0 dX10_bill_1 rfl rfl ?_
  refine gM_0_15 (pc := 2) C wd_4_16 dX10_bill_2 ?_
  refine sw_aload_n (pc := 5) C 0 dX10_bill_5 rfl rfl ?_
  refine gM_0_14 (pc := 6) C wd_17_4 dX10_bill_6 ?_
  obtain ⟨q9, hq9, hJ⟩ := bind_some hJ
  refine sw_callV_i (pc := 9) C (st := []) (As := [.ref (ad 6), .int (sF X 14)]) (k_M_billOf C.2.2.2.2.2.2.1 a7_6 hq9) pk_X10_billOf wd_23_4 0 rfl rfl rfl ⟨Nat.le_of_ble_eq_true rfl, Nat.le_of_ble_eq_true rfl⟩ ⟨rfl, rfl⟩ rfl rfl (Nat.le_of_ble_eq_true rfl) dX10_bill_9 ?_
  obtain rfl := Option.some.inj hJ
  exact sw_iret (pc := 12) C dX10_bill_12
set_option maxHeartbeats 4000000 in
set_option maxRecDepth 100000 in
theorem k_M_bill {l : Launch} {D : va_G} {cy : Nat → ClassId} {ad : Nat → Nat} {A : Nat → Prop} (hD : ∀ X, va_D A (wM cy ad X)) {X : St}  {r : Int32} (hJ : jM_bill X = some r) : Met l yX10_bill (wsY yX10_bill cX10_bill 1 (some .int)) ({ frames := 1, cells := 0, slots := 0, locals := 26 } : Room) (prX D cy (wM cy ad) X [.ref (ad 0)]) (poI D (wM cy ad) A r X) 0 0 A := sw_met (by decide +kernel) (Nat.le_of_ble_eq_true rfl) hD (fun p e s m args below meth c C => t_M_bill C hJ)
set_option maxHeartbeats 4000000 in
set_option maxRecDepth 100000 in
theorem t_M_isDebate_56 {p : Program} {l : Launch} {e : Env} {s : State} {m : MethodId} {args : Array Value} {below : List Frame} {meth : Method} {c : Code} {D : va_G} {cy : Nat → ClassId} {ad : Nat → Nat} {A : Nat → Prop} (C : Cx p s m args meth c D cy cX10_isDebate 3 RX10 (some .boolean) A (wM cy ad)) {k26 : St → Int32 → Int32 → Option (Int32 × St)} {r : Int32 × St} (h26 : ∀ (X : St) (v1 : Int32) (v2 : Int32), k26 X v1 v2 = some r → SW p l e ({ frames := 2, cells := 0, slots := 0, locals := 47 } : Room) s m args below meth c D 3 A (wM cy ad) (MQ below (poI D (wM cy ad) A r.1 r.2) args s 0 0 A) X [(0, .ref (ad 0)), (1, .int v1), (2, .int v2)] 26 []) : ∀ (X : St) (v2 : Int32) (s0 : Int32), jM_isDebate_56 k26 X v2 s0 = some r → SW p l e ({ frames := 2, cells := 0, slots := 0, locals := 47 } : Room) s m args below meth c D 3 A (wM cy ad) (MQ below (poI D (wM cy ad) A r.1 r.2) args s 0 0 A) X [(0, .ref (ad 0)), (2, .int v2)] 56 [.int s0] := by
  intro X v2 s0 hJ
  unfold jM_isDebate_56 at hJ
  refine sw_istore_n (pc := 56) C dX10_isDebate_56 rfl (by decide) (ll2 := [(1, .int s0), (0, .ref (ad 0)), (2, .int v2)]) rfl ?_
  refine sw_iinc (pc := 57) C 2 dX10_isDebate_57 rfl (v := (v2 + (1 : Int32))) (congrArg (fun z => v2 + z) (by decide)) (by decide) (ll2 := [(2, .int (v2 + (1 : Int32))), (1, .int s0), (0, .ref (ad 0))]) rfl ?_
  refine sw_goto (pc := 60) (tgt := 26) C dX10_isDebate_60 (by decide) ?_
  exact sw_sub [2, 1, 0] (by rfl) (h26 _ _ _ hJ)
set_option maxHeartbeats 4000000 in
set_option maxRecDepth 100000 in
theorem t_M_isDebate_55 {p : Program} {l : Launch} {e : Env} {s : State} {m : MethodId} {args : Array Value} {below : List Frame} {meth : Method} {c : Code} {D : va_G} {cy : Nat → ClassId} {ad : Nat → Nat} {A : Nat → Prop} (C : Cx p s m args meth c D cy cX10_isDebate 3 RX10 (some .boolean) A (wM cy ad)) {k26 : St → Int32 → Int32 → Option (Int32 × St)} {r : Int32 × St} (h26 : ∀ (X : St) (v1 : Int32) (v2 : Int32), k26 X v1 v2 = some r → SW p l e ({ frames := 2, cells := 0, slots := 0, locals := 47 } : Room) s m args below meth c D 3 A (wM cy ad) (MQ below (poI D (wM cy ad) A r.1 r.2) args s 0 0 A) X [(0, .ref (ad 0)), (1, .int v1), (2, .int v2)] 26 []) : ∀ (X : St) (v2 : Int32), jM_isDebate_55 k26 X v2 = some r → SW p l e ({ frames := 2, cells := 0, slots := 0, locals := 47 } : Room) s m args below meth c D 3 A (wM cy ad) (MQ below (poI D (wM cy ad) A r.1 r.2) args s 0 0 A) X [(0, .ref (ad 0)), (2, .int v2)] 55 [] := by
  intro X v2 hJ
  unfold jM_isDebate_55 at hJ
  refine sw_iconst (pc := 55) C (v := (0 : Int32)) dX10_isDebate_55 (by decide) ?_
  exact sw_sub [0, 1] (by rfl) (t_M_isDebate_56 C h26 _ _ _ hJ)
set_option maxHeartbeats 4000000 in
set_option maxRecDepth 100000 in
theorem t_M_isDebate_26 {p : Program} {l : Launch} {e : Env} {s : State} {m : MethodId} {args : Array Value} {below : List Frame} {meth : Method} {c : Code} {D : va_G} {cy : Nat → ClassId} {ad : Nat → Nat} {A : Nat → Prop} (C : Cx p s m args meth c D cy cX10_isDebate 3 RX10 (some .boolean) A (wM cy ad)) {r : Int32 × St} : ∀ (n : Nat) (X : St) (v1 : Int32) (v2 : Int32), jM_isDebate_26 n X v1 v2 = some r → SW p l e ({ frames := 2, cells := 0, slots := 0, locals := 47 } : Room) s m args below meth c D 3 A (wM cy ad) (MQ below (poI D (wM cy ad) A r.1 r.2) args s 0 0 A) X [(0, .ref (ad 0)), (1, .int v1), (2, .int v2)] 26 [] := by
  intro n
  induction n with
  | zero => intro X v1 v2 hJ; exact absurd (show (none : Option (Int32 × St)) = some r from hJ) (fun h => by cases h)
  | succ n ih =>
    intro X v1 v2 hJ
    rw [jM_isDebate_26] at hJ
    refine sw_iload_n (pc := 26) C 2 dX10_isDebate_26 rfl rfl ?_
    refine sw_aload_n (pc := 27) C 0 dX10_isDebate_27 rfl rfl ?_
    refine gM_0_11 (pc := 28) C wd_10_11 dX10_isDebate_28 ?_
    refine sw_icmp_ge (pc := 31) (tgt := 63) C dX10_isDebate_31 (by decide) (fun hb31 => ?_) (fun hb31 => ?_)
    · replace hJ := itep hb31 hJ
      refine sw_iload_n (pc := 63) C 1 dX10_isDebate_63 rfl rfl ?_
      obtain ⟨hz64, hJ⟩ := gd hJ
      obtain rfl := Option.some.inj hJ
      exact sw_zret (pc := 64) (v := v1) C hz64 dX10_isDebate_64
    · replace hJ := iten hb31 hJ
      refine sw_iload_n (pc := 34) C 1 dX10_isDebate_34 rfl rfl ?_
      refine sw_if_eq (pc := 35) (tgt := 55) C dX10_isDebate_35 (by decide) (fun hb35 => ?_) (fun hb35 => ?_)
      · replace hJ := itep hb35 hJ
        exact sw_sub [0, 2] (by rfl) (t_M_isDebate_55 C ih _ _ hJ)
      · replace hJ := iten hb35 hJ
        refine sw_aload_n (pc := 38) C 0 dX10_isDebate_38 rfl rfl ?_
        refine sw_aload_n (pc := 39) C 0 dX10_isDebate_39 rfl rfl ?_
        refine gM_0_10 (pc := 40) C wd_4_14 dX10_isDebate_40 ?_
        refine sw_iload_n (pc := 43) C 2 dX10_isDebate_43 rfl rfl ?_
        obtain ⟨hi44, hJ⟩ := gd hJ
        refine lM_4 (pc := 44) C hi44 dX10_isDebate_44 ?_
        obtain ⟨q45, hq45, hJ⟩ := bind_some hJ
        refine sw_callV_i (pc := 45) C (st := []) (As := [.int (sA X 4 v2.toNatClampNeg)]) (k_M_isMember C.2.2.2.2.2.2.1 hq45) pk_X10_isMember wd_15_8 0 rfl rfl rfl ⟨Nat.le_of_ble_eq_true rfl, Nat.le_of_ble_eq_true rfl⟩ ⟨rfl, rfl⟩ rfl rfl (Nat.le_of_ble_eq_true rfl) dX10_isDebate_45 ?_
        refine sw_if_eq (pc := 48) (tgt := 55) C dX10_isDebate_48 (by decide) (fun hb48 => ?_) (fun hb48 => ?_)
        · replace hJ := itep hb48 hJ
          exact sw_sub [0, 2] (by rfl) (t_M_isDebate_55 C ih _ _ hJ)
        · replace hJ := iten hb48 hJ
          refine sw_iconst (pc := 51) C (v := (1 : Int32)) dX10_isDebate_51 (by decide) ?_
          refine sw_goto (pc := 52) (tgt := 56) C dX10_isDebate_52 (by decide) ?_
          exact sw_sub [0, 2] (by rfl) (t_M_isDebate_56 C ih _ _ _ hJ)
set_option maxHeartbeats 4000000 in
set_option maxRecDepth 100000 in
theorem t_M_isDebate_23 {p : Program} {l : Launch} {e : Env} {s : State} {m : MethodId} {args : Array Value} {below : List Frame} {meth : Method} {c : Code} {D : va_G} {cy : Nat → ClassId} {ad : Nat → Nat} {A : Nat → Prop} (C : Cx p s m args meth c D cy cX10_isDebate 3 RX10 (some .boolean) A (wM cy ad)) {r : Int32 × St} : ∀ (X : St) (s0 : Int32), jM_isDebate_23 X s0 = some r → SW p l e ({ frames := 2, cells := 0, slots := 0, locals := 47 } : Room) s m args below meth c D 3 A (wM cy ad) (MQ below (poI D (wM cy ad) A r.1 r.2) args s 0 0 A) X [(0, .ref (ad 0))] 23 [.int s0] := by
  intro X s0 hJ
  unfold jM_isDebate_23 at hJ
  refine sw_istore_n (pc := 23) C dX10_isDebate_23 rfl (by decide) (ll2 := [(1, .int s0), (0, .ref (ad 0))]) rfl ?_
  refine sw_iconst (pc := 24) C (v := (0 : Int32)) dX10_isDebate_24 (by decide) ?_
  refine sw_istore_n (pc := 25) C dX10_isDebate_25 rfl (by decide) (ll2 := [(2, .int (0 : Int32)), (1, .int s0), (0, .ref (ad 0))]) rfl ?_
  exact sw_sub [2, 1, 0] (by rfl) (t_M_isDebate_26 C _ _ _ _ hJ)
set_option maxHeartbeats 4000000 in
set_option maxRecDepth 100000 in
theorem t_M_isDebate_22 {p : Program} {l : Launch} {e : Env} {s : State} {m : MethodId} {args : Array Value} {below : List Frame} {meth : Method} {c : Code} {D : va_G} {cy : Nat → ClassId} {ad : Nat → Nat} {A : Nat → Prop} (C : Cx p s m args meth c D cy cX10_isDebate 3 RX10 (some .boolean) A (wM cy ad)) {r : Int32 × St} : ∀ (X : St), jM_isDebate_22 X = some r → SW p l e ({ frames := 2, cells := 0, slots := 0, locals := 47 } : Room) s m args below meth c D 3 A (wM cy ad) (MQ below (poI D (wM cy ad) A r.1 r.2) args s 0 0 A) X [(0, .ref (ad 0))] 22 [] := by
  intro X hJ
  unfold jM_isDebate_22 at hJ
  refine sw_iconst (pc := 22) C (v := (0 : Int32)) dX10_isDebate_22 (by decide) ?_
  exact sw_sub [0] (by rfl) (t_M_isDebate_23 C _ _ hJ)
set_option maxHeartbeats 4000000 in
set_option maxRecDepth 100000 in
theorem t_M_isDebate {p : Program} {l : Launch} {e : Env} {s : State} {m : MethodId} {args : Array Value} {below : List Frame} {meth : Method} {c : Code} {D : va_G} {cy : Nat → ClassId} {ad : Nat → Nat} {A : Nat → Prop} (C : Cx p s m args meth c D cy cX10_isDebate 3 RX10 (some .boolean) A (wM cy ad)) {r : Int32 × St} : ∀ (X : St), jM_isDebate X = some r → SW p l e ({ frames := 2, cells := 0, slots := 0, locals := 47 } : Room) s m args below meth c D 3 A (wM cy ad) (MQ below (poI D (wM cy ad) A r.1 r.2) args s 0 0 A) X [(0, .ref (ad 0))] 0 [] := by
  intro X hJ
  unfold jM_isDebate at hJ
  refine sw_aload_n (pc := 0) C 0 dX10_isDebate_0 rfl rfl ?_
  obtain ⟨q1, hq1, hJ⟩ := bind_some hJ
  refine sw_callV_i (pc := 1) C (st := []) (As := []) (k_M_debateFault C.2.2.2.2.2.2.1 hq1) pk_X10_debateFault wd_10_7 0 rfl rfl rfl ⟨Nat.le_of_ble_eq_true rfl, Nat.le_of_ble_eq_true rfl⟩ ⟨rfl, rfl⟩ rfl rfl (Nat.le_of_ble_eq_true rfl) dX10_isDebate_1 ?_
  refine sw_aload_n (pc := 4) C 0 dX10_isDebate_4 rfl rfl ?_
  refine gM_0_1 (pc := 5) C wd_6_12 dX10_isDebate_5 ?_
  refine sw_icmp_ne (pc := 8) (tgt := 22) C dX10_isDebate_8 (by decide) (fun hb8 => ?_) (fun hb8 => ?_)
  · replace hJ := iten hb8 hJ
    exact sw_sub [0] (by rfl) (t_M_isDebate_22 C _ hJ)
  · replace hJ := itep hb8 hJ
    refine sw_aload_n (pc := 11) C 0 dX10_isDebate_11 rfl rfl ?_
    refine gM_0_11 (pc := 12) C wd_10_11 dX10_isDebate_12 ?_
    refine sw_if_le (pc := 15) (tgt := 22) C dX10_isDebate_15 (by decide) (fun hb15 => ?_) (fun hb15 => ?_)
    · replace hJ := itep hb15 hJ
      exact sw_sub [0] (by rfl) (t_M_isDebate_22 C _ hJ)
    · replace hJ := iten hb15 hJ
      refine sw_iconst (pc := 18) C (v := (1 : Int32)) dX10_isDebate_18 (by decide) ?_
      refine sw_goto (pc := 19) (tgt := 23) C dX10_isDebate_19 (by decide) ?_
      exact sw_sub [0] (by rfl) (t_M_isDebate_23 C _ _ hJ)
set_option maxHeartbeats 4000000 in
set_option maxRecDepth 100000 in
theorem k_M_isDebate {l : Launch} {D : va_G} {cy : Nat → ClassId} {ad : Nat → Nat} {A : Nat → Prop} (hD : ∀ X, va_D A (wM cy ad X)) {X : St}  {r : Int32 × St} (hJ : jM_isDebate X = some r) : Met l yX10_isDebate (wsY yX10_isDebate cX10_isDebate 3 (some .boolean)) ({ frames := 2, cells := 0, slots := 0, locals := 47 } : Room) (prX D cy (wM cy ad) X [.ref (ad 0)]) (poI D (wM cy ad) A r.1 r.2) 0 0 A := sw_met (by decide +kernel) (Nat.le_of_ble_eq_true rfl) hD (fun p e s m args below meth c C => t_M_isDebate C _ hJ)
set_option maxHeartbeats 4000000 in
set_option maxRecDepth 100000 in
theorem t_M_rises_54 {p : Program} {l : Launch} {e : Env} {s : State} {m : MethodId} {args : Array Value} {below : List Frame} {meth : Method} {c : Code} {D : va_G} {cy : Nat → ClassId} {ad : Nat → Nat} {A : Nat → Prop} (C : Cx p s m args meth c D cy cX10_rises 3 RX10 (some .boolean) A (wM cy ad)) {r : Int32 × St} : ∀ (X : St) (v2 : Int32) (s1 : Int32), jM_rises_54 X v2 s1 = some r → SW p l e ({ frames := 3, cells := 0, slots := 0, locals := 70 } : Room) s m args below meth c D 3 A (wM cy ad) (MQ below (poI D (wM cy ad) A r.1 r.2) args s 0 0 A) X [(2, .int v2)] 54 [.int s1, .ref (ad 0)] := by
  intro X v2 s1 hJ
  unfold jM_rises_54 at hJ
  refine pM_0_18 (pc := 54) C wd_24_4 dX10_rises_54 ?_
  refine sw_iload_n (pc := 57) C 0 dX10_rises_57 rfl rfl ?_
  obtain ⟨hz58, hJ⟩ := gd hJ
  obtain rfl := Option.some.inj hJ
  exact sw_zret (pc := 58) (v := v2) C hz58 dX10_rises_58
set_option maxHeartbeats 4000000 in
set_option maxRecDepth 100000 in
theorem t_M_rises_40 {p : Program} {l : Launch} {e : Env} {s : State} {m : MethodId} {args : Array Value} {below : List Frame} {meth : Method} {c : Code} {D : va_G} {cy : Nat → ClassId} {ad : Nat → Nat} {A : Nat → Prop} (C : Cx p s m args meth c D cy cX10_rises 3 RX10 (some .boolean) A (wM cy ad)) {r : Int32 × St} : ∀ (X : St) (s0 : Int32), jM_rises_40 X s0 = some r → SW p l e ({ frames := 3, cells := 0, slots := 0, locals := 70 } : Room) s m args below meth c D 3 A (wM cy ad) (MQ below (poI D (wM cy ad) A r.1 r.2) args s 0 0 A) X [(0, .ref (ad 0))] 40 [.int s0] := by
  intro X s0 hJ
  unfold jM_rises_40 at hJ
  refine sw_istore_n (pc := 40) C dX10_rises_40 rfl (by decide) (ll2 := [(2, .int s0), (0, .ref (ad 0))]) rfl ?_
  refine sw_aload_n (pc := 41) C 1 dX10_rises_41 rfl rfl ?_
  refine sw_iload_n (pc := 42) C 0 dX10_rises_42 rfl rfl ?_
  refine sw_if_eq (pc := 43) (tgt := 50) C dX10_rises_43 (by decide) (fun hb43 => ?_) (fun hb43 => ?_)
  · replace hJ := itep hb43 hJ
    refine sw_aload_n (pc := 50) C 1 dX10_rises_50 rfl rfl ?_
    refine gM_0_18 (pc := 51) C wd_24_4 dX10_rises_51 ?_
    exact sw_sub [0] (by rfl) (t_M_rises_54 C _ _ _ hJ)
  · replace hJ := iten hb43 hJ
    refine sw_iconst (pc := 46) C (v := (0 : Int32)) dX10_rises_46 (by decide) ?_
    refine sw_goto (pc := 47) (tgt := 54) C dX10_rises_47 (by decide) ?_
    exact sw_sub [0] (by rfl) (t_M_rises_54 C _ _ _ hJ)
set_option maxHeartbeats 4000000 in
set_option maxRecDepth 100000 in
theorem t_M_rises {p : Program} {l : Launch} {e : Env} {s : State} {m : MethodId} {args : Array Value} {below : List Frame} {meth : Method} {c : Code} {D : va_G} {cy : Nat → ClassId} {ad : Nat → Nat} {A : Nat → Prop} (C : Cx p s m args meth c D cy cX10_rises 3 RX10 (some .boolean) A (wM cy ad)) {r : Int32 × St} : ∀ (X : St) (a1 : Int32), jM_rises X a1 = some r → SW p l e ({ frames := 3, cells := 0, slots := 0, locals := 70 } : Room) s m args below meth c D 3 A (wM cy ad) (MQ below (poI D (wM cy ad) A r.1 r.2) args s 0 0 A) X [(0, .ref (ad 0)), (1, .int a1)] 0 [] := by
  intro X a1 hJ
  unfold jM_rises at hJ
  refine sw_aload_n (pc := 0) C 0 dX10_rises_0 rfl rfl ?_
  refine gM_0_17 (pc := 1) C wd_4_17 dX10_rises_1 ?_
  refine sw_aload_n (pc := 4) C 0 dX10_rises_4 rfl rfl ?_
  refine gM_0_18 (pc := 5) C wd_24_4 dX10_rises_5 ?_
  refine sw_iload_n (pc := 8) C 1 dX10_rises_8 rfl rfl ?_
  obtain ⟨hi9, hJ⟩ := gd hJ
  refine tM_7 (pc := 9) C hi9 dX10_rises_9 ?_
  refine sw_aload_n (pc := 10) C 0 dX10_rises_10 rfl rfl ?_
  refine sw_dup (pc := 11) C dX10_rises_11 rfl ?_
  refine gM_0_18 (pc := 12) C wd_24_4 dX10_rises_12 ?_
  refine sw_iconst (pc := 15) C (v := (1 : Int32)) dX10_rises_15 (by decide) ?_
  refine sw_iadd (pc := 16) C dX10_rises_16 ?_
  refine pM_0_18 (pc := 17) C wd_24_4 dX10_rises_17 ?_
  refine sw_aload_n (pc := 20) C 0 dX10_rises_20 rfl rfl ?_
  refine sw_aload_n (pc := 21) C 0 dX10_rises_21 rfl rfl ?_
  refine gM_0_17 (pc := 22) C wd_4_17 dX10_rises_22 ?_
  refine sw_aload_n (pc := 25) C 0 dX10_rises_25 rfl rfl ?_
  refine gM_0_18 (pc := 26) C wd_24_4 dX10_rises_26 ?_
  obtain ⟨q29, hq29, hJ⟩ := bind_some hJ
  refine sw_callV_i (pc := 29) C (st := []) (As := [.ref (ad 7), .int (sF (pF (pA X 7 (sF X 18).toNatClampNeg a1) 18 ((sF (pA X 7 (sF X 18).toNatClampNeg a1) 18) + (1 : Int32))) 18)]) (k_M_holds C.2.2.2.2.2.2.1 a7_7 hq29) pk_X10_holds wd_20_19 0 rfl rfl rfl ⟨Nat.le_of_ble_eq_true rfl, Nat.le_of_ble_eq_true rfl⟩ ⟨rfl, rfl⟩ rfl rfl (Nat.le_of_ble_eq_true rfl) dX10_rises_29 ?_
  refine sw_if_ne (pc := 32) (tgt := 39) C dX10_rises_32 (by decide) (fun hb32 => ?_) (fun hb32 => ?_)
  · replace hJ := iten hb32 hJ
    refine sw_iconst (pc := 39) C (v := (0 : Int32)) dX10_rises_39 (by decide) ?_
    exact sw_sub [0] (by rfl) (t_M_rises_40 C _ _ hJ)
  · replace hJ := itep hb32 hJ
    refine sw_iconst (pc := 35) C (v := (1 : Int32)) dX10_rises_35 (by decide) ?_
    refine sw_goto (pc := 36) (tgt := 40) C dX10_rises_36 (by decide) ?_
    exact sw_sub [0] (by rfl) (t_M_rises_40 C _ _ hJ)
set_option maxHeartbeats 4000000 in
set_option maxRecDepth 100000 in
theorem k_M_rises {l : Launch} {D : va_G} {cy : Nat → ClassId} {ad : Nat → Nat} {A : Nat → Prop} (hD : ∀ X, va_D A (wM cy ad X)) {X : St} {a1 : Int32} {r : Int32 × St} (hJ : jM_rises X a1 = some r) : Met l yX10_rises (wsY yX10_rises cX10_rises 3 (some .boolean)) ({ frames := 3, cells := 0, slots := 0, locals := 70 } : Room) (prX D cy (wM cy ad) X [.ref (ad 0), .int a1]) (poI D (wM cy ad) A r.1 r.2) 0 0 A := sw_met (by decide +kernel) (Nat.le_of_ble_eq_true rfl) hD (fun p e s m args below meth c C => t_M_rises C _ _ hJ)
set_option maxHeartbeats 4000000 in
set_option maxRecDepth 100000 in
theorem t_M_debate_96 {p : Program} {l : Launch} {e : Env} {s : State} {m : MethodId} {args : Array Value} {below : List Frame} {meth : Method} {c : Code} {D : va_G} {cy : Nat → ClassId} {ad : Nat → Nat} {A : Nat → Prop} (C : Cx p s m args meth c D cy cX10_debate 5 RX10 (some .int) A (wM cy ad)) {r : Int32 × St} : ∀ (X : St) (v1 : Int32) (v2 : Int32), jM_debate_96 X v1 v2 = some r → SW p l e ({ frames := 4, cells := 0, slots := 0, locals := 92 } : Room) s m args below meth c D 5 A (wM cy ad) (MQ below (poI D (wM cy ad) A r.1 r.2) args s 0 0 A) X [(0, .ref (ad 0)), (1, .int v1), (2, .int v2)] 96 [] := by
  intro X v1 v2 hJ
  unfold jM_debate_96 at hJ
  refine sw_iload_n (pc := 96) C 1 dX10_debate_96 rfl rfl ?_
  refine sw_if_ne (pc := 97) (tgt := 104) C dX10_debate_97 (by decide) (fun hb97 => ?_) (fun hb97 => ?_)
  · replace hJ := iten hb97 hJ
    refine sw_aload_n (pc := 104) C 0 dX10_debate_104 rfl rfl ?_
    refine sw_aload_n (pc := 105) C 0 dX10_debate_105 rfl rfl ?_
    refine gM_0_17 (pc := 106) C wd_4_17 dX10_debate_106 ?_
    refine sw_aload_n (pc := 109) C 0 dX10_debate_109 rfl rfl ?_
    refine gM_0_18 (pc := 110) C wd_24_4 dX10_debate_110 ?_
    obtain ⟨q113, hq113, hJ⟩ := bind_some hJ
    refine sw_callV_i (pc := 113) C (st := []) (As := [.ref (ad 7), .int (sF X 18)]) (k_M_billOf C.2.2.2.2.2.2.1 a7_7 hq113) pk_X10_billOf wd_23_4 0 rfl rfl rfl ⟨Nat.le_of_ble_eq_true rfl, Nat.le_of_ble_eq_true rfl⟩ ⟨rfl, rfl⟩ rfl rfl (Nat.le_of_ble_eq_true rfl) dX10_debate_113 ?_
    obtain rfl := Option.some.inj hJ
    exact sw_iret (pc := 116) C dX10_debate_116
  · replace hJ := itep hb97 hJ
    refine sw_iload_n (pc := 100) C 2 dX10_debate_100 rfl rfl ?_
    refine sw_goto (pc := 101) (tgt := 116) C dX10_debate_101 (by decide) ?_
    obtain rfl := Option.some.inj hJ
    exact sw_iret (pc := 116) C dX10_debate_116
set_option maxHeartbeats 4000000 in
set_option maxRecDepth 100000 in
theorem t_M_debate_90 {p : Program} {l : Launch} {e : Env} {s : State} {m : MethodId} {args : Array Value} {below : List Frame} {meth : Method} {c : Code} {D : va_G} {cy : Nat → ClassId} {ad : Nat → Nat} {A : Nat → Prop} (C : Cx p s m args meth c D cy cX10_debate 5 RX10 (some .int) A (wM cy ad)) {k32 : St → Int32 → Int32 → Int32 → Option (Int32 × St)} {r : Int32 × St} (h32 : ∀ (X : St) (v1 : Int32) (v2 : Int32) (v3 : Int32), k32 X v1 v2 v3 = some r → SW p l e ({ frames := 4, cells := 0, slots := 0, locals := 92 } : Room) s m args below meth c D 5 A (wM cy ad) (MQ below (poI D (wM cy ad) A r.1 r.2) args s 0 0 A) X [(0, .ref (ad 0)), (1, .int v1), (2, .int v2), (3, .int v3)] 32 []) : ∀ (X : St) (v1 : Int32) (v2 : Int32) (v3 : Int32), jM_debate_90 k32 X v1 v2 v3 = some r → SW p l e ({ frames := 4, cells := 0, slots := 0, locals := 92 } : Room) s m args below meth c D 5 A (wM cy ad) (MQ below (poI D (wM cy ad) A r.1 r.2) args s 0 0 A) X [(0, .ref (ad 0)), (1, .int v1), (2, .int v2), (3, .int v3)] 90 [] := by
  intro X v1 v2 v3 hJ
  unfold jM_debate_90 at hJ
  refine sw_iinc (pc := 90) C 3 dX10_debate_90 rfl (v := (v3 + (1 : Int32))) (congrArg (fun z => v3 + z) (by decide)) (by decide) (ll2 := [(3, .int (v3 + (1 : Int32))), (0, .ref (ad 0)), (1, .int v1), (2, .int v2)]) rfl ?_
  refine sw_goto (pc := 93) (tgt := 32) C dX10_debate_93 (by decide) ?_
  exact sw_sub [1, 2, 3, 0] (by rfl) (h32 _ _ _ _ hJ)
set_option maxHeartbeats 4000000 in
set_option maxRecDepth 100000 in
theorem t_M_debate_89 {p : Program} {l : Launch} {e : Env} {s : State} {m : MethodId} {args : Array Value} {below : List Frame} {meth : Method} {c : Code} {D : va_G} {cy : Nat → ClassId} {ad : Nat → Nat} {A : Nat → Prop} (C : Cx p s m args meth c D cy cX10_debate 5 RX10 (some .int) A (wM cy ad)) {k32 : St → Int32 → Int32 → Int32 → Option (Int32 × St)} {r : Int32 × St} (h32 : ∀ (X : St) (v1 : Int32) (v2 : Int32) (v3 : Int32), k32 X v1 v2 v3 = some r → SW p l e ({ frames := 4, cells := 0, slots := 0, locals := 92 } : Room) s m args below meth c D 5 A (wM cy ad) (MQ below (poI D (wM cy ad) A r.1 r.2) args s 0 0 A) X [(0, .ref (ad 0)), (1, .int v1), (2, .int v2), (3, .int v3)] 32 []) : ∀ (X : St) (v1 : Int32) (v3 : Int32) (s0 : Int32), jM_debate_89 k32 X v1 v3 s0 = some r → SW p l e ({ frames := 4, cells := 0, slots := 0, locals := 92 } : Room) s m args below meth c D 5 A (wM cy ad) (MQ below (poI D (wM cy ad) A r.1 r.2) args s 0 0 A) X [(0, .ref (ad 0)), (1, .int v1), (3, .int v3)] 89 [.int s0] := by
  intro X v1 v3 s0 hJ
  unfold jM_debate_89 at hJ
  refine sw_istore_n (pc := 89) C dX10_debate_89 rfl (by decide) (ll2 := [(2, .int s0), (0, .ref (ad 0)), (1, .int v1), (3, .int v3)]) rfl ?_
  exact sw_sub [1, 2, 0, 3] (by rfl) (t_M_debate_90 C h32 _ _ _ _ hJ)
set_option maxHeartbeats 4000000 in
set_option maxRecDepth 100000 in
theorem t_M_debate_32 {p : Program} {l : Launch} {e : Env} {s : State} {m : MethodId} {args : Array Value} {below : List Frame} {meth : Method} {c : Code} {D : va_G} {cy : Nat → ClassId} {ad : Nat → Nat} {A : Nat → Prop} (C : Cx p s m args meth c D cy cX10_debate 5 RX10 (some .int) A (wM cy ad)) {r : Int32 × St} : ∀ (n : Nat) (X : St) (v1 : Int32) (v2 : Int32) (v3 : Int32), jM_debate_32 n X v1 v2 v3 = some r → SW p l e ({ frames := 4, cells := 0, slots := 0, locals := 92 } : Room) s m args below meth c D 5 A (wM cy ad) (MQ below (poI D (wM cy ad) A r.1 r.2) args s 0 0 A) X [(0, .ref (ad 0)), (1, .int v1), (2, .int v2), (3, .int v3)] 32 [] := by
  intro n
  induction n with
  | zero => intro X v1 v2 v3 hJ; exact absurd (show (none : Option (Int32 × St)) = some r from hJ) (fun h => by cases h)
  | succ n ih =>
    intro X v1 v2 v3 hJ
    rw [jM_debate_32] at hJ
    refine sw_iload_n (pc := 32) C 3 dX10_debate_32 rfl rfl ?_
    refine sw_aload_n (pc := 33) C 0 dX10_debate_33 rfl rfl ?_
    refine gM_0_11 (pc := 34) C wd_10_11 dX10_debate_34 ?_
    refine sw_icmp_ge (pc := 37) (tgt := 96) C dX10_debate_37 (by decide) (fun hb37 => ?_) (fun hb37 => ?_)
    · replace hJ := itep hb37 hJ
      exact sw_sub [0, 1, 2] (by rfl) (t_M_debate_96 C _ _ _ hJ)
    · replace hJ := iten hb37 hJ
      refine sw_iload_n (pc := 40) C 2 dX10_debate_40 rfl rfl ?_
      refine sw_if_ne (pc := 41) (tgt := 96) C dX10_debate_41 (by decide) (fun hb41 => ?_) (fun hb41 => ?_)
      · replace hJ := iten hb41 hJ
        exact sw_sub [0, 1, 2] (by rfl) (t_M_debate_96 C _ _ _ hJ)
      · replace hJ := itep hb41 hJ
        refine sw_aload_n (pc := 44) C 0 dX10_debate_44 rfl rfl ?_
        refine sw_aload_n (pc := 45) C 0 dX10_debate_45 rfl rfl ?_
        refine gM_0_10 (pc := 46) C wd_4_14 dX10_debate_46 ?_
        refine sw_iload_n (pc := 49) C 3 dX10_debate_49 rfl rfl ?_
        obtain ⟨hi50, hJ⟩ := gd hJ
        refine lM_4 (pc := 50) C hi50 dX10_debate_50 ?_
        refine sw_aload_n (pc := 51) C 0 dX10_debate_51 rfl rfl ?_
        refine gM_0_17 (pc := 52) C wd_4_17 dX10_debate_52 ?_
        refine sw_aload_n (pc := 55) C 0 dX10_debate_55 rfl rfl ?_
        refine gM_0_18 (pc := 56) C wd_24_4 dX10_debate_56 ?_
        obtain ⟨q59, hq59, hJ⟩ := bind_some hJ
        refine sw_callV_i (pc := 59) C (st := []) (As := [.int (sA X 4 v3.toNatClampNeg), .ref (ad 7), .int (sF X 18)]) (k_M_mayRise C.2.2.2.2.2.2.1 a7_7 hq59) pk_X10_mayRise wd_19_7 0 rfl rfl rfl ⟨Nat.le_of_ble_eq_true rfl, Nat.le_of_ble_eq_true rfl⟩ ⟨rfl, rfl⟩ rfl rfl (Nat.le_of_ble_eq_true rfl) dX10_debate_59 ?_
        refine sw_if_eq (pc := 62) (tgt := 90) C dX10_debate_62 (by decide) (fun hb62 => ?_) (fun hb62 => ?_)
        · replace hJ := itep hb62 hJ
          exact sw_sub [0, 1, 2, 3] (by rfl) (t_M_debate_90 C ih _ _ _ _ hJ)
        · replace hJ := iten hb62 hJ
          refine sw_aload_n (pc := 65) C 0 dX10_debate_65 rfl rfl ?_
          refine sw_aload_n (pc := 66) C 0 dX10_debate_66 rfl rfl ?_
          refine gM_0_10 (pc := 67) C wd_4_14 dX10_debate_67 ?_
          refine sw_iload_n (pc := 70) C 3 dX10_debate_70 rfl rfl ?_
          obtain ⟨hi71, hJ⟩ := gd hJ
          refine lM_4 (pc := 71) C hi71 dX10_debate_71 ?_
          obtain ⟨q72, hq72, hJ⟩ := bind_some hJ
          refine sw_callV_i (pc := 72) C (st := []) (As := [.int (sA X 4 v3.toNatClampNeg)]) (k_M_rises C.2.2.2.2.2.2.1 hq72) pk_X10_rises wd_24_9 0 rfl rfl rfl ⟨Nat.le_of_ble_eq_true rfl, Nat.le_of_ble_eq_true rfl⟩ ⟨rfl, rfl⟩ rfl rfl (Nat.le_of_ble_eq_true rfl) dX10_debate_72 ?_
          refine sw_istore (pc := 75) C dX10_debate_75 (by decide) (ll2 := [(4, .int q72.1), (0, .ref (ad 0)), (1, .int v1), (2, .int v2), (3, .int v3)]) rfl ?_
          refine sw_iload (pc := 77) C 0 dX10_debate_77 rfl ?_
          refine sw_if_eq (pc := 79) (tgt := 88) C dX10_debate_79 (by decide) (fun hb79 => ?_) (fun hb79 => ?_)
          · replace hJ := itep hb79 hJ
            refine sw_iconst (pc := 88) C (v := (0 : Int32)) dX10_debate_88 (by decide) ?_
            exact sw_sub [1, 2, 4] (by rfl) (t_M_debate_89 C ih _ _ _ _ hJ)
          · replace hJ := iten hb79 hJ
            refine sw_iload_n (pc := 82) C 4 dX10_debate_82 rfl rfl ?_
            refine sw_iconst (pc := 83) C (v := (1 : Int32)) dX10_debate_83 (by decide) ?_
            refine sw_iadd (pc := 84) C dX10_debate_84 ?_
            refine sw_goto (pc := 85) (tgt := 89) C dX10_debate_85 (by decide) ?_
            exact sw_sub [1, 2, 4] (by rfl) (t_M_debate_89 C ih _ _ _ _ hJ)
set_option maxHeartbeats 4000000 in
set_option maxRecDepth 100000 in
theorem t_M_debate {p : Program} {l : Launch} {e : Env} {s : State} {m : MethodId} {args : Array Value} {below : List Frame} {meth : Method} {c : Code} {D : va_G} {cy : Nat → ClassId} {ad : Nat → Nat} {A : Nat → Prop} (C : Cx p s m args meth c D cy cX10_debate 5 RX10 (some .int) A (wM cy ad)) {r : Int32 × St} : ∀ (X : St) (a1 : Int32), jM_debate X a1 = some r → SW p l e ({ frames := 4, cells := 0, slots := 0, locals := 92 } : Room) s m args below meth c D 5 A (wM cy ad) (MQ below (poI D (wM cy ad) A r.1 r.2) args s 0 0 A) X [(0, .ref (ad 0)), (1, .int a1)] 0 [] := by
  intro X a1 hJ
  unfold jM_debate at hJ
  refine sw_iload_n (pc := 0) C 1 dX10_debate_0 rfl rfl ?_
  refine sw_i2l (pc := 1) C dX10_debate_1 ?_
  refine sw_lconst (pc := 2) C (v := (0 : Int64)) dX10_debate_2 (by decide) ?_
  refine sw_lconst (pc := 3) C (v := (1 : Int64)) dX10_debate_3 (by decide) ?_
  obtain ⟨q4, hq4, hJ⟩ := bind_some hJ
  refine sw_callS_i (pc := 4) C (st := []) (As := [.long a1.toInt64, .long (0 : Int64), .long (1 : Int64)]) (k_M_in C.2.2.2.2.2.2.1 hq4) pk_X10_in wd_10_4 ⟨Nat.le_of_ble_eq_true rfl, Nat.le_of_ble_eq_true rfl⟩ ⟨rfl, rfl⟩ rfl rfl (Nat.le_of_ble_eq_true rfl) dX10_debate_4 ?_
  refine sw_if_ne (pc := 7) (tgt := 13) C dX10_debate_7 (by decide) (fun hb7 => ?_) (fun hb7 => ?_)
  · replace hJ := iten hb7 hJ
    refine sw_aload_n (pc := 13) C 0 dX10_debate_13 rfl rfl ?_
    obtain ⟨q14, hq14, hJ⟩ := bind_some hJ
    refine sw_callV_i (pc := 14) C (st := []) (As := []) (k_M_isDebate C.2.2.2.2.2.2.1 hq14) pk_X10_isDebate wd_24_5 0 rfl rfl rfl ⟨Nat.le_of_ble_eq_true rfl, Nat.le_of_ble_eq_true rfl⟩ ⟨rfl, rfl⟩ rfl rfl (Nat.le_of_ble_eq_true rfl) dX10_debate_14 ?_
    refine sw_if_ne (pc := 17) (tgt := 23) C dX10_debate_17 (by decide) (fun hb17 => ?_) (fun hb17 => ?_)
    · replace hJ := iten hb17 hJ
      refine sw_aload_n (pc := 23) C 0 dX10_debate_23 rfl rfl ?_
      refine sw_iconst (pc := 24) C (v := (0 : Int32)) dX10_debate_24 (by decide) ?_
      refine pM_0_18 (pc := 25) C wd_24_4 dX10_debate_25 ?_
      refine sw_iconst (pc := 28) C (v := (0 : Int32)) dX10_debate_28 (by decide) ?_
      refine sw_istore_n (pc := 29) C dX10_debate_29 rfl (by decide) (ll2 := [(2, .int (0 : Int32)), (0, .ref (ad 0)), (1, .int a1)]) rfl ?_
      refine sw_iconst (pc := 30) C (v := (0 : Int32)) dX10_debate_30 (by decide) ?_
      refine sw_istore_n (pc := 31) C dX10_debate_31 rfl (by decide) (ll2 := [(3, .int (0 : Int32)), (2, .int (0 : Int32)), (0, .ref (ad 0)), (1, .int a1)]) rfl ?_
      exact sw_sub [2, 3, 1, 0] (by rfl) (t_M_debate_32 C _ _ _ _ _ hJ)
    · replace hJ := itep hb17 hJ
      refine sw_bipush (pc := 20) C (v := (-103 : Int32)) dX10_debate_20 (by decide) ?_
      obtain rfl := Option.some.inj hJ
      exact sw_iret (pc := 22) C dX10_debate_22
  · replace hJ := itep hb7 hJ
    refine sw_bipush (pc := 10) C (v := (-102 : Int32)) dX10_debate_10 (by decide) ?_
    obtain rfl := Option.some.inj hJ
    exact sw_iret (pc := 12) C dX10_debate_12
set_option maxHeartbeats 4000000 in
set_option maxRecDepth 100000 in
theorem k_M_debate {l : Launch} {D : va_G} {cy : Nat → ClassId} {ad : Nat → Nat} {A : Nat → Prop} (hD : ∀ X, va_D A (wM cy ad X)) {X : St} {a1 : Int32} {r : Int32 × St} (hJ : jM_debate X a1 = some r) : Met l yX10_debate (wsY yX10_debate cX10_debate 5 (some .int)) ({ frames := 4, cells := 0, slots := 0, locals := 92 } : Room) (prX D cy (wM cy ad) X [.ref (ad 0), .int a1]) (poI D (wM cy ad) A r.1 r.2) 0 0 A := sw_met (by decide +kernel) (Nat.le_of_ble_eq_true rfl) hD (fun p e s m args below meth c C => t_M_debate C _ _ hJ)
set_option maxHeartbeats 4000000 in
set_option maxRecDepth 100000 in
theorem t_M_nails_63 {p : Program} {l : Launch} {e : Env} {s : State} {m : MethodId} {args : Array Value} {below : List Frame} {meth : Method} {c : Code} {D : va_G} {cy : Nat → ClassId} {ad : Nat → Nat} {A : Nat → Prop} (C : Cx p s m args meth c D cy cX10_nails 4 RX10 (some .int) A (wM cy ad)) {k14 : St → Int32 → Int32 → Option (Int32 × St)} {r : Int32 × St} (h14 : ∀ (X : St) (v1 : Int32) (v2 : Int32), k14 X v1 v2 = some r → SW p l e ({ frames := 3, cells := 0, slots := 0, locals := 69 } : Room) s m args below meth c D 4 A (wM cy ad) (MQ below (poI D (wM cy ad) A r.1 r.2) args s 0 0 A) X [(0, .ref (ad 0)), (1, .int v1), (2, .int v2)] 14 []) : ∀ (X : St) (v2 : Int32) (s0 : Int32) (s1 : Int32), jM_nails_63 k14 X v2 s0 s1 = some r → SW p l e ({ frames := 3, cells := 0, slots := 0, locals := 69 } : Room) s m args below meth c D 4 A (wM cy ad) (MQ below (poI D (wM cy ad) A r.1 r.2) args s 0 0 A) X [(0, .ref (ad 0)), (2, .int v2)] 63 [.int s1, .int s0] := by
  intro X v2 s0 s1 hJ
  unfold jM_nails_63 at hJ
  refine sw_iadd (pc := 63) C dX10_nails_63 ?_
  refine sw_istore_n (pc := 64) C dX10_nails_64 rfl (by decide) (ll2 := [(1, .int (s0 + s1)), (0, .ref (ad 0)), (2, .int v2)]) rfl ?_
  refine sw_iinc (pc := 65) C 2 dX10_nails_65 rfl (v := (v2 + (1 : Int32))) (congrArg (fun z => v2 + z) (by decide)) (by decide) (ll2 := [(2, .int (v2 + (1 : Int32))), (1, .int (s0 + s1)), (0, .ref (ad 0))]) rfl ?_
  refine sw_goto (pc := 68) (tgt := 14) C dX10_nails_68 (by decide) ?_
  exact sw_sub [2, 1, 0] (by rfl) (h14 _ _ _ hJ)
set_option maxHeartbeats 4000000 in
set_option maxRecDepth 100000 in
theorem t_M_nails_14 {p : Program} {l : Launch} {e : Env} {s : State} {m : MethodId} {args : Array Value} {below : List Frame} {meth : Method} {c : Code} {D : va_G} {cy : Nat → ClassId} {ad : Nat → Nat} {A : Nat → Prop} (C : Cx p s m args meth c D cy cX10_nails 4 RX10 (some .int) A (wM cy ad)) {r : Int32 × St} : ∀ (n : Nat) (X : St) (v1 : Int32) (v2 : Int32), jM_nails_14 n X v1 v2 = some r → SW p l e ({ frames := 3, cells := 0, slots := 0, locals := 69 } : Room) s m args below meth c D 4 A (wM cy ad) (MQ below (poI D (wM cy ad) A r.1 r.2) args s 0 0 A) X [(0, .ref (ad 0)), (1, .int v1), (2, .int v2)] 14 [] := by
  intro n
  induction n with
  | zero => intro X v1 v2 hJ; exact absurd (show (none : Option (Int32 × St)) = some r from hJ) (fun h => by cases h)
  | succ n ih =>
    intro X v1 v2 hJ
    rw [jM_nails_14] at hJ
    refine sw_iload_n (pc := 14) C 2 dX10_nails_14 rfl rfl ?_
    refine sw_aload_n (pc := 15) C 0 dX10_nails_15 rfl rfl ?_
    refine gM_0_11 (pc := 16) C wd_10_11 dX10_nails_16 ?_
    refine sw_icmp_ge (pc := 19) (tgt := 71) C dX10_nails_19 (by decide) (fun hb19 => ?_) (fun hb19 => ?_)
    · replace hJ := itep hb19 hJ
      refine sw_aload_n (pc := 71) C 0 dX10_nails_71 rfl rfl ?_
      refine sw_aload_n (pc := 72) C 0 dX10_nails_72 rfl rfl ?_
      refine gM_0_10 (pc := 73) C wd_4_14 dX10_nails_73 ?_
      refine sw_aload_n (pc := 76) C 0 dX10_nails_76 rfl rfl ?_
      refine gM_0_11 (pc := 77) C wd_10_11 dX10_nails_77 ?_
      obtain ⟨q80, hq80, hJ⟩ := bind_some hJ
      refine sw_callV_i (pc := 80) C (st := []) (As := [.ref (ad 4), .int (sF X 11)]) (k_M_leansOf C.2.2.2.2.2.2.1 a7_4 hq80) pk_X10_leansOf wd_20_23 0 rfl rfl rfl ⟨Nat.le_of_ble_eq_true rfl, Nat.le_of_ble_eq_true rfl⟩ ⟨rfl, rfl⟩ rfl rfl (Nat.le_of_ble_eq_true rfl) dX10_nails_80 ?_
      refine sw_aload_n (pc := 83) C 0 dX10_nails_83 rfl rfl ?_
      refine gM_0_4 (pc := 84) C wd_5_7 dX10_nails_84 ?_
      refine sw_icmp_le (pc := 87) (tgt := 94) C dX10_nails_87 (by decide) (fun hb87 => ?_) (fun hb87 => ?_)
      · replace hJ := itep hb87 hJ
        refine sw_iload_n (pc := 94) C 1 dX10_nails_94 rfl rfl ?_
        obtain rfl := Option.some.inj hJ
        exact sw_iret (pc := 95) C dX10_nails_95
      · replace hJ := iten hb87 hJ
        refine sw_iconst (pc := 90) C (v := (-1 : Int32)) dX10_nails_90 (by decide) ?_
        refine sw_goto (pc := 91) (tgt := 95) C dX10_nails_91 (by decide) ?_
        obtain rfl := Option.some.inj hJ
        exact sw_iret (pc := 95) C dX10_nails_95
    · replace hJ := iten hb19 hJ
      refine sw_aload_n (pc := 22) C 0 dX10_nails_22 rfl rfl ?_
      refine sw_aload_n (pc := 23) C 0 dX10_nails_23 rfl rfl ?_
      refine gM_0_10 (pc := 24) C wd_4_14 dX10_nails_24 ?_
      refine sw_aload_n (pc := 27) C 0 dX10_nails_27 rfl rfl ?_
      refine gM_0_11 (pc := 28) C wd_10_11 dX10_nails_28 ?_
      refine sw_iload_n (pc := 31) C 2 dX10_nails_31 rfl rfl ?_
      obtain ⟨q32, hq32, hJ⟩ := bind_some hJ
      refine sw_callV_i (pc := 32) C (st := []) (As := [.ref (ad 4), .int (sF X 11), .int v2]) (k_M_bears C.2.2.2.2.2.2.1 a7_4 hq32) pk_X10_bears wd_17_17 0 rfl rfl rfl ⟨Nat.le_of_ble_eq_true rfl, Nat.le_of_ble_eq_true rfl⟩ ⟨rfl, rfl⟩ rfl rfl (Nat.le_of_ble_eq_true rfl) dX10_nails_32 ?_
      refine sw_aload_n (pc := 35) C 0 dX10_nails_35 rfl rfl ?_
      refine sw_aload_n (pc := 36) C 0 dX10_nails_36 rfl rfl ?_
      refine gM_0_10 (pc := 37) C wd_4_14 dX10_nails_37 ?_
      refine sw_iload_n (pc := 40) C 2 dX10_nails_40 rfl rfl ?_
      obtain ⟨hi41, hJ⟩ := gd hJ
      refine lM_4 (pc := 41) C hi41 dX10_nails_41 ?_
      obtain ⟨q42, hq42, hJ⟩ := bind_some hJ
      refine sw_callV_i (pc := 42) C (st := [.int q32]) (As := [.int (sA X 4 v2.toNatClampNeg)]) (k_M_canBear C.2.2.2.2.2.2.1 hq42) pk_X10_canBear wd_17_13 0 rfl rfl rfl ⟨Nat.le_of_ble_eq_true rfl, Nat.le_of_ble_eq_true rfl⟩ ⟨rfl, rfl⟩ rfl rfl (Nat.le_of_ble_eq_true rfl) dX10_nails_42 ?_
      refine sw_isub (pc := 45) C dX10_nails_45 ?_
      refine sw_istore_n (pc := 46) C dX10_nails_46 rfl (by decide) (ll2 := [(3, .int (q32 - q42)), (0, .ref (ad 0)), (1, .int v1), (2, .int v2)]) rfl ?_
      refine sw_iload_n (pc := 47) C 2 dX10_nails_47 rfl rfl ?_
      refine sw_iload_n (pc := 48) C 0 dX10_nails_48 rfl rfl ?_
      refine sw_if_le (pc := 49) (tgt := 62) C dX10_nails_49 (by decide) (fun hb49 => ?_) (fun hb49 => ?_)
      · replace hJ := itep hb49 hJ
        refine sw_iconst (pc := 62) C (v := (0 : Int32)) dX10_nails_62 (by decide) ?_
        exact sw_sub [1, 3] (by rfl) (t_M_nails_63 C ih _ _ _ _ hJ)
      · replace hJ := iten hb49 hJ
        refine sw_iload_n (pc := 52) C 0 dX10_nails_52 rfl rfl ?_
        refine sw_bipush (pc := 53) C (v := (8 : Int32)) dX10_nails_53 (by decide) ?_
        refine sw_iadd (pc := 55) C dX10_nails_55 ?_
        refine sw_bipush (pc := 56) C (v := (9 : Int32)) dX10_nails_56 (by decide) ?_
        refine sw_idiv (pc := 58) C dX10_nails_58 (by decide) ?_
        refine sw_goto (pc := 59) (tgt := 63) C dX10_nails_59 (by decide) ?_
        exact sw_sub [1, 3] (by rfl) (t_M_nails_63 C ih _ _ _ _ hJ)
set_option maxHeartbeats 4000000 in
set_option maxRecDepth 100000 in
theorem t_M_nails {p : Program} {l : Launch} {e : Env} {s : State} {m : MethodId} {args : Array Value} {below : List Frame} {meth : Method} {c : Code} {D : va_G} {cy : Nat → ClassId} {ad : Nat → Nat} {A : Nat → Prop} (C : Cx p s m args meth c D cy cX10_nails 4 RX10 (some .int) A (wM cy ad)) {r : Int32 × St} : ∀ (X : St), jM_nails X = some r → SW p l e ({ frames := 3, cells := 0, slots := 0, locals := 69 } : Room) s m args below meth c D 4 A (wM cy ad) (MQ below (poI D (wM cy ad) A r.1 r.2) args s 0 0 A) X [(0, .ref (ad 0))] 0 [] := by
  intro X hJ
  unfold jM_nails at hJ
  refine sw_aload_n (pc := 0) C 0 dX10_nails_0 rfl rfl ?_
  obtain ⟨q1, hq1, hJ⟩ := bind_some hJ
  refine sw_callV_i (pc := 1) C (st := []) (As := []) (k_M_isDebate C.2.2.2.2.2.2.1 hq1) pk_X10_isDebate wd_24_5 0 rfl rfl rfl ⟨Nat.le_of_ble_eq_true rfl, Nat.le_of_ble_eq_true rfl⟩ ⟨rfl, rfl⟩ rfl rfl (Nat.le_of_ble_eq_true rfl) dX10_nails_1 ?_
  refine sw_if_ne (pc := 4) (tgt := 10) C dX10_nails_4 (by decide) (fun hb4 => ?_) (fun hb4 => ?_)
  · replace hJ := iten hb4 hJ
    refine sw_iconst (pc := 10) C (v := (0 : Int32)) dX10_nails_10 (by decide) ?_
    refine sw_istore_n (pc := 11) C dX10_nails_11 rfl (by decide) (ll2 := [(1, .int (0 : Int32)), (0, .ref (ad 0))]) rfl ?_
    refine sw_iconst (pc := 12) C (v := (0 : Int32)) dX10_nails_12 (by decide) ?_
    refine sw_istore_n (pc := 13) C dX10_nails_13 rfl (by decide) (ll2 := [(2, .int (0 : Int32)), (1, .int (0 : Int32)), (0, .ref (ad 0))]) rfl ?_
    exact sw_sub [2, 1, 0] (by rfl) (t_M_nails_14 C _ _ _ _ hJ)
  · replace hJ := itep hb4 hJ
    refine sw_bipush (pc := 7) C (v := (-103 : Int32)) dX10_nails_7 (by decide) ?_
    obtain rfl := Option.some.inj hJ
    exact sw_iret (pc := 9) C dX10_nails_9
set_option maxHeartbeats 4000000 in
set_option maxRecDepth 100000 in
theorem k_M_nails {l : Launch} {D : va_G} {cy : Nat → ClassId} {ad : Nat → Nat} {A : Nat → Prop} (hD : ∀ X, va_D A (wM cy ad X)) {X : St}  {r : Int32 × St} (hJ : jM_nails X = some r) : Met l yX10_nails (wsY yX10_nails cX10_nails 4 (some .int)) ({ frames := 3, cells := 0, slots := 0, locals := 69 } : Room) (prX D cy (wM cy ad) X [.ref (ad 0)]) (poI D (wM cy ad) A r.1 r.2) 0 0 A := sw_met (by decide +kernel) (Nat.le_of_ble_eq_true rfl) hD (fun p e s m args below meth c C => t_M_nails C _ hJ)
set_option maxHeartbeats 4000000 in
set_option maxRecDepth 100000 in
theorem t_M_shook_101 {p : Program} {l : Launch} {e : Env} {s : State} {m : MethodId} {args : Array Value} {below : List Frame} {meth : Method} {c : Code} {D : va_G} {cy : Nat → ClassId} {ad : Nat → Nat} {A : Nat → Prop} (C : Cx p s m args meth c D cy cX10_shook 4 RX10 (some .int) A (wM cy ad)) {k14 : St → Int32 → Int32 → Option (Int32 × St)} {r : Int32 × St} (h14 : ∀ (X : St) (v1 : Int32) (v2 : Int32), k14 X v1 v2 = some r → SW p l e ({ frames := 3, cells := 0, slots := 0, locals := 70 } : Room) s m args below meth c D 4 A (wM cy ad) (MQ below (poI D (wM cy ad) A r.1 r.2) args s 0 0 A) X [(0, .ref (ad 0)), (1, .int v1), (2, .int v2)] 14 []) : ∀ (X : St) (v2 : Int32) (s0 : Int32) (s1 : Int32), jM_shook_101 k14 X v2 s0 s1 = some r → SW p l e ({ frames := 3, cells := 0, slots := 0, locals := 70 } : Room) s m args below meth c D 4 A (wM cy ad) (MQ below (poI D (wM cy ad) A r.1 r.2) args s 0 0 A) X [(0, .ref (ad 0)), (2, .int v2)] 101 [.int s1, .int s0] := by
  intro X v2 s0 s1 hJ
  unfold jM_shook_101 at hJ
  refine sw_ior (pc := 101) C dX10_shook_101 ?_
  refine sw_istore_n (pc := 102) C dX10_shook_102 rfl (by decide) (ll2 := [(1, .int (s0 ||| s1)), (0, .ref (ad 0)), (2, .int v2)]) rfl ?_
  refine sw_iinc (pc := 103) C 2 dX10_shook_103 rfl (v := (v2 + (1 : Int32))) (congrArg (fun z => v2 + z) (by decide)) (by decide) (ll2 := [(2, .int (v2 + (1 : Int32))), (1, .int (s0 ||| s1)), (0, .ref (ad 0))]) rfl ?_
  refine sw_goto (pc := 106) (tgt := 14) C dX10_shook_106 (by decide) ?_
  exact sw_sub [2, 1, 0] (by rfl) (h14 _ _ _ hJ)
set_option maxHeartbeats 4000000 in
set_option maxRecDepth 100000 in
theorem t_M_shook_67 {p : Program} {l : Launch} {e : Env} {s : State} {m : MethodId} {args : Array Value} {below : List Frame} {meth : Method} {c : Code} {D : va_G} {cy : Nat → ClassId} {ad : Nat → Nat} {A : Nat → Prop} (C : Cx p s m args meth c D cy cX10_shook 4 RX10 (some .int) A (wM cy ad)) {k14 : St → Int32 → Int32 → Option (Int32 × St)} {k29 : St → Int32 → Int32 → Int32 → Option (Int32 × St)} {r : Int32 × St} (h14 : ∀ (X : St) (v1 : Int32) (v2 : Int32), k14 X v1 v2 = some r → SW p l e ({ frames := 3, cells := 0, slots := 0, locals := 70 } : Room) s m args below meth c D 4 A (wM cy ad) (MQ below (poI D (wM cy ad) A r.1 r.2) args s 0 0 A) X [(0, .ref (ad 0)), (1, .int v1), (2, .int v2)] 14 []) (h29 : ∀ (X : St) (v1 : Int32) (v2 : Int32) (v3 : Int32), k29 X v1 v2 v3 = some r → SW p l e ({ frames := 3, cells := 0, slots := 0, locals := 70 } : Room) s m args below meth c D 4 A (wM cy ad) (MQ below (poI D (wM cy ad) A r.1 r.2) args s 0 0 A) X [(0, .ref (ad 0)), (1, .int v1), (2, .int v2), (3, .int v3)] 29 []) : ∀ (X : St) (v1 : Int32) (v2 : Int32) (v3 : Int32), jM_shook_67 k14 k29 X v1 v2 v3 = some r → SW p l e ({ frames := 3, cells := 0, slots := 0, locals := 70 } : Room) s m args below meth c D 4 A (wM cy ad) (MQ below (poI D (wM cy ad) A r.1 r.2) args s 0 0 A) X [(0, .ref (ad 0)), (1, .int v1), (2, .int v2), (3, .int v3)] 67 [] := by
  intro X v1 v2 v3 hJ
  unfold jM_shook_67 at hJ
  refine sw_iinc (pc := 67) C 3 dX10_shook_67 rfl (v := (v3 + (1 : Int32))) (congrArg (fun z => v3 + z) (by decide)) (by decide) (ll2 := [(3, .int (v3 + (1 : Int32))), (0, .ref (ad 0)), (1, .int v1), (2, .int v2)]) rfl ?_
  refine sw_goto (pc := 70) (tgt := 29) C dX10_shook_70 (by decide) ?_
  exact sw_sub [1, 2, 3, 0] (by rfl) (h29 _ _ _ _ hJ)
set_option maxHeartbeats 4000000 in
set_option maxRecDepth 100000 in
theorem t_M_shook_29 {p : Program} {l : Launch} {e : Env} {s : State} {m : MethodId} {args : Array Value} {below : List Frame} {meth : Method} {c : Code} {D : va_G} {cy : Nat → ClassId} {ad : Nat → Nat} {A : Nat → Prop} (C : Cx p s m args meth c D cy cX10_shook 4 RX10 (some .int) A (wM cy ad)) {k14 : St → Int32 → Int32 → Option (Int32 × St)} {r : Int32 × St} (h14 : ∀ (X : St) (v1 : Int32) (v2 : Int32), k14 X v1 v2 = some r → SW p l e ({ frames := 3, cells := 0, slots := 0, locals := 70 } : Room) s m args below meth c D 4 A (wM cy ad) (MQ below (poI D (wM cy ad) A r.1 r.2) args s 0 0 A) X [(0, .ref (ad 0)), (1, .int v1), (2, .int v2)] 14 []) : ∀ (n : Nat) (X : St) (v1 : Int32) (v2 : Int32) (v3 : Int32), jM_shook_29 k14 n X v1 v2 v3 = some r → SW p l e ({ frames := 3, cells := 0, slots := 0, locals := 70 } : Room) s m args below meth c D 4 A (wM cy ad) (MQ below (poI D (wM cy ad) A r.1 r.2) args s 0 0 A) X [(0, .ref (ad 0)), (1, .int v1), (2, .int v2), (3, .int v3)] 29 [] := by
  intro n
  induction n with
  | zero => intro X v1 v2 v3 hJ; exact absurd (show (none : Option (Int32 × St)) = some r from hJ) (fun h => by cases h)
  | succ n ih =>
    intro X v1 v2 v3 hJ
    rw [jM_shook_29] at hJ
    refine sw_iload_n (pc := 29) C 3 dX10_shook_29 rfl rfl ?_
    refine sw_aload_n (pc := 30) C 0 dX10_shook_30 rfl rfl ?_
    refine gM_0_11 (pc := 31) C wd_10_11 dX10_shook_31 ?_
    refine sw_icmp_ge (pc := 34) (tgt := 73) C dX10_shook_34 (by decide) (fun hb34 => ?_) (fun hb34 => ?_)
    · replace hJ := itep hb34 hJ
      refine sw_iload_n (pc := 73) C 1 dX10_shook_73 rfl rfl ?_
      refine sw_aload_n (pc := 74) C 0 dX10_shook_74 rfl rfl ?_
      refine sw_aload_n (pc := 75) C 0 dX10_shook_75 rfl rfl ?_
      refine gM_0_17 (pc := 76) C wd_4_17 dX10_shook_76 ?_
      refine sw_aload_n (pc := 79) C 0 dX10_shook_79 rfl rfl ?_
      refine gM_0_18 (pc := 80) C wd_24_4 dX10_shook_80 ?_
      obtain ⟨q83, hq83, hJ⟩ := bind_some hJ
      refine sw_callV_i (pc := 83) C (st := [.int v1]) (As := [.ref (ad 7), .int (sF X 18)]) (k_M_holds C.2.2.2.2.2.2.1 a7_7 hq83) pk_X10_holds wd_20_19 0 rfl rfl rfl ⟨Nat.le_of_ble_eq_true rfl, Nat.le_of_ble_eq_true rfl⟩ ⟨rfl, rfl⟩ rfl rfl (Nat.le_of_ble_eq_true rfl) dX10_shook_83 ?_
      refine sw_if_eq (pc := 86) (tgt := 100) C dX10_shook_86 (by decide) (fun hb86 => ?_) (fun hb86 => ?_)
      · replace hJ := itep hb86 hJ
        refine sw_iconst (pc := 100) C (v := (0 : Int32)) dX10_shook_100 (by decide) ?_
        exact sw_sub [0, 2] (by rfl) (t_M_shook_101 C h14 _ _ _ _ hJ)
      · replace hJ := iten hb86 hJ
        refine sw_iconst (pc := 89) C (v := (1 : Int32)) dX10_shook_89 (by decide) ?_
        refine sw_aload_n (pc := 90) C 0 dX10_shook_90 rfl rfl ?_
        refine gM_0_10 (pc := 91) C wd_4_14 dX10_shook_91 ?_
        refine sw_iload_n (pc := 94) C 2 dX10_shook_94 rfl rfl ?_
        obtain ⟨hi95, hJ⟩ := gd hJ
        refine lM_4 (pc := 95) C hi95 dX10_shook_95 ?_
        refine sw_ishl (pc := 96) C dX10_shook_96 ?_
        refine sw_goto (pc := 97) (tgt := 101) C dX10_shook_97 (by decide) ?_
        exact sw_sub [0, 2] (by rfl) (t_M_shook_101 C h14 _ _ _ _ hJ)
    · replace hJ := iten hb34 hJ
      refine sw_iload_n (pc := 37) C 3 dX10_shook_37 rfl rfl ?_
      refine sw_iload_n (pc := 38) C 2 dX10_shook_38 rfl rfl ?_
      refine sw_icmp_eq (pc := 39) (tgt := 67) C dX10_shook_39 (by decide) (fun hb39 => ?_) (fun hb39 => ?_)
      · replace hJ := itep hb39 hJ
        exact sw_sub [0, 1, 2, 3] (by rfl) (t_M_shook_67 C h14 ih _ _ _ _ hJ)
      · replace hJ := iten hb39 hJ
        refine sw_aload_n (pc := 42) C 0 dX10_shook_42 rfl rfl ?_
        refine gM_0_17 (pc := 43) C wd_4_17 dX10_shook_43 ?_
        refine sw_aload_n (pc := 46) C 0 dX10_shook_46 rfl rfl ?_
        refine gM_0_18 (pc := 47) C wd_24_4 dX10_shook_47 ?_
        refine sw_aload_n (pc := 50) C 0 dX10_shook_50 rfl rfl ?_
        refine gM_0_10 (pc := 51) C wd_4_14 dX10_shook_51 ?_
        refine sw_iload_n (pc := 54) C 3 dX10_shook_54 rfl rfl ?_
        obtain ⟨hi55, hJ⟩ := gd hJ
        refine lM_4 (pc := 55) C hi55 dX10_shook_55 ?_
        obtain ⟨hi56, hJ⟩ := gd hJ
        refine tM_7 (pc := 56) C hi56 dX10_shook_56 ?_
        refine sw_aload_n (pc := 57) C 0 dX10_shook_57 rfl rfl ?_
        refine sw_dup (pc := 58) C dX10_shook_58 rfl ?_
        refine gM_0_18 (pc := 59) C wd_24_4 dX10_shook_59 ?_
        refine sw_iconst (pc := 62) C (v := (1 : Int32)) dX10_shook_62 (by decide) ?_
        refine sw_iadd (pc := 63) C dX10_shook_63 ?_
        refine pM_0_18 (pc := 64) C wd_24_4 dX10_shook_64 ?_
        exact sw_sub [0, 1, 2, 3] (by rfl) (t_M_shook_67 C h14 ih _ _ _ _ hJ)
set_option maxHeartbeats 4000000 in
set_option maxRecDepth 100000 in
theorem t_M_shook_14 {p : Program} {l : Launch} {e : Env} {s : State} {m : MethodId} {args : Array Value} {below : List Frame} {meth : Method} {c : Code} {D : va_G} {cy : Nat → ClassId} {ad : Nat → Nat} {A : Nat → Prop} (C : Cx p s m args meth c D cy cX10_shook 4 RX10 (some .int) A (wM cy ad)) {r : Int32 × St} : ∀ (n : Nat) (X : St) (v1 : Int32) (v2 : Int32), jM_shook_14 n X v1 v2 = some r → SW p l e ({ frames := 3, cells := 0, slots := 0, locals := 70 } : Room) s m args below meth c D 4 A (wM cy ad) (MQ below (poI D (wM cy ad) A r.1 r.2) args s 0 0 A) X [(0, .ref (ad 0)), (1, .int v1), (2, .int v2)] 14 [] := by
  intro n
  induction n with
  | zero => intro X v1 v2 hJ; exact absurd (show (none : Option (Int32 × St)) = some r from hJ) (fun h => by cases h)
  | succ n ih =>
    intro X v1 v2 hJ
    rw [jM_shook_14] at hJ
    refine sw_iload_n (pc := 14) C 2 dX10_shook_14 rfl rfl ?_
    refine sw_aload_n (pc := 15) C 0 dX10_shook_15 rfl rfl ?_
    refine gM_0_11 (pc := 16) C wd_10_11 dX10_shook_16 ?_
    refine sw_icmp_ge (pc := 19) (tgt := 109) C dX10_shook_19 (by decide) (fun hb19 => ?_) (fun hb19 => ?_)
    · replace hJ := itep hb19 hJ
      refine sw_aload_n (pc := 109) C 0 dX10_shook_109 rfl rfl ?_
      refine sw_aload_n (pc := 110) C 0 dX10_shook_110 rfl rfl ?_
      refine gM_0_10 (pc := 111) C wd_4_14 dX10_shook_111 ?_
      refine sw_aload_n (pc := 114) C 0 dX10_shook_114 rfl rfl ?_
      refine gM_0_11 (pc := 115) C wd_10_11 dX10_shook_115 ?_
      obtain ⟨q118, hq118, hJ⟩ := bind_some hJ
      refine sw_callV_i (pc := 118) C (st := []) (As := [.ref (ad 4), .int (sF X 11)]) (k_M_holds C.2.2.2.2.2.2.1 a7_4 hq118) pk_X10_holds wd_20_19 0 rfl rfl rfl ⟨Nat.le_of_ble_eq_true rfl, Nat.le_of_ble_eq_true rfl⟩ ⟨rfl, rfl⟩ rfl rfl (Nat.le_of_ble_eq_true rfl) dX10_shook_118 ?_
      refine sw_if_eq (pc := 121) (tgt := 128) C dX10_shook_121 (by decide) (fun hb121 => ?_) (fun hb121 => ?_)
      · replace hJ := itep hb121 hJ
        refine sw_iload_n (pc := 128) C 1 dX10_shook_128 rfl rfl ?_
        obtain rfl := Option.some.inj hJ
        exact sw_iret (pc := 129) C dX10_shook_129
      · replace hJ := iten hb121 hJ
        refine sw_iconst (pc := 124) C (v := (0 : Int32)) dX10_shook_124 (by decide) ?_
        refine sw_goto (pc := 125) (tgt := 129) C dX10_shook_125 (by decide) ?_
        obtain rfl := Option.some.inj hJ
        exact sw_iret (pc := 129) C dX10_shook_129
    · replace hJ := iten hb19 hJ
      refine sw_aload_n (pc := 22) C 0 dX10_shook_22 rfl rfl ?_
      refine sw_iconst (pc := 23) C (v := (0 : Int32)) dX10_shook_23 (by decide) ?_
      refine pM_0_18 (pc := 24) C wd_24_4 dX10_shook_24 ?_
      refine sw_iconst (pc := 27) C (v := (0 : Int32)) dX10_shook_27 (by decide) ?_
      refine sw_istore_n (pc := 28) C dX10_shook_28 rfl (by decide) (ll2 := [(3, .int (0 : Int32)), (0, .ref (ad 0)), (1, .int v1), (2, .int v2)]) rfl ?_
      exact sw_sub [1, 2, 3, 0] (by rfl) (t_M_shook_29 C ih _ _ _ _ _ hJ)
set_option maxHeartbeats 4000000 in
set_option maxRecDepth 100000 in
theorem t_M_shook {p : Program} {l : Launch} {e : Env} {s : State} {m : MethodId} {args : Array Value} {below : List Frame} {meth : Method} {c : Code} {D : va_G} {cy : Nat → ClassId} {ad : Nat → Nat} {A : Nat → Prop} (C : Cx p s m args meth c D cy cX10_shook 4 RX10 (some .int) A (wM cy ad)) {r : Int32 × St} : ∀ (X : St), jM_shook X = some r → SW p l e ({ frames := 3, cells := 0, slots := 0, locals := 70 } : Room) s m args below meth c D 4 A (wM cy ad) (MQ below (poI D (wM cy ad) A r.1 r.2) args s 0 0 A) X [(0, .ref (ad 0))] 0 [] := by
  intro X hJ
  unfold jM_shook at hJ
  refine sw_aload_n (pc := 0) C 0 dX10_shook_0 rfl rfl ?_
  obtain ⟨q1, hq1, hJ⟩ := bind_some hJ
  refine sw_callV_i (pc := 1) C (st := []) (As := []) (k_M_isDebate C.2.2.2.2.2.2.1 hq1) pk_X10_isDebate wd_24_5 0 rfl rfl rfl ⟨Nat.le_of_ble_eq_true rfl, Nat.le_of_ble_eq_true rfl⟩ ⟨rfl, rfl⟩ rfl rfl (Nat.le_of_ble_eq_true rfl) dX10_shook_1 ?_
  refine sw_if_ne (pc := 4) (tgt := 10) C dX10_shook_4 (by decide) (fun hb4 => ?_) (fun hb4 => ?_)
  · replace hJ := iten hb4 hJ
    refine sw_iconst (pc := 10) C (v := (0 : Int32)) dX10_shook_10 (by decide) ?_
    refine sw_istore_n (pc := 11) C dX10_shook_11 rfl (by decide) (ll2 := [(1, .int (0 : Int32)), (0, .ref (ad 0))]) rfl ?_
    refine sw_iconst (pc := 12) C (v := (0 : Int32)) dX10_shook_12 (by decide) ?_
    refine sw_istore_n (pc := 13) C dX10_shook_13 rfl (by decide) (ll2 := [(2, .int (0 : Int32)), (1, .int (0 : Int32)), (0, .ref (ad 0))]) rfl ?_
    exact sw_sub [2, 1, 0] (by rfl) (t_M_shook_14 C _ _ _ _ hJ)
  · replace hJ := itep hb4 hJ
    refine sw_bipush (pc := 7) C (v := (-103 : Int32)) dX10_shook_7 (by decide) ?_
    obtain rfl := Option.some.inj hJ
    exact sw_iret (pc := 9) C dX10_shook_9
set_option maxHeartbeats 4000000 in
set_option maxRecDepth 100000 in
theorem k_M_shook {l : Launch} {D : va_G} {cy : Nat → ClassId} {ad : Nat → Nat} {A : Nat → Prop} (hD : ∀ X, va_D A (wM cy ad X)) {X : St}  {r : Int32 × St} (hJ : jM_shook X = some r) : Met l yX10_shook (wsY yX10_shook cX10_shook 4 (some .int)) ({ frames := 3, cells := 0, slots := 0, locals := 70 } : Room) (prX D cy (wM cy ad) X [.ref (ad 0)]) (poI D (wM cy ad) A r.1 r.2) 0 0 A := sw_met (by decide +kernel) (Nat.le_of_ble_eq_true rfl) hD (fun p e s m args below meth c C => t_M_shook C _ hJ)
set_option maxHeartbeats 4000000 in
set_option maxRecDepth 100000 in
theorem t_M_ones_4 {p : Program} {l : Launch} {e : Env} {s : State} {m : MethodId} {args : Array Value} {below : List Frame} {meth : Method} {c : Code} {D : va_G} {cy : Nat → ClassId} {ad : Nat → Nat} {A : Nat → Prop} (C : Cx p s m args meth c D cy cX10_ones 3 RX10 (some .int) A (wM cy ad)) {X : St} {r : Int32} : ∀ (n : Nat) (v0 : Int32) (v1 : Int32) (v2 : Int32), jM_ones_4 n v0 v1 v2 = some r → SW p l e ({ frames := 0, cells := 0, slots := 0, locals := 0 } : Room) s m args below meth c D 3 A (wM cy ad) (MQ below (poI D (wM cy ad) A r X) args s 0 0 A) X [(0, .int v0), (1, .int v1), (2, .int v2)] 4 [] := by
  intro n
  induction n with
  | zero => intro v0 v1 v2 hJ; exact absurd (show (none : Option (Int32)) = some r from hJ) (fun h => by cases h)
  | succ n ih =>
    intro v0 v1 v2 hJ
    rw [jM_ones_4] at hJ
    refine sw_iload_n (pc := 4) C 2 dX10_ones_4 rfl rfl ?_
    refine sw_bipush (pc := 5) C (v := (7 : Int32)) dX10_ones_5 (by decide) ?_
    refine sw_icmp_ge (pc := 7) (tgt := 24) C dX10_ones_7 (by decide) (fun hb7 => ?_) (fun hb7 => ?_)
    · replace hJ := itep hb7 hJ
      refine sw_iload_n (pc := 24) C 1 dX10_ones_24 rfl rfl ?_
      obtain rfl := Option.some.inj hJ
      exact sw_iret (pc := 25) C dX10_ones_25
    · replace hJ := iten hb7 hJ
      refine sw_iload_n (pc := 10) C 1 dX10_ones_10 rfl rfl ?_
      refine sw_iload_n (pc := 11) C 0 dX10_ones_11 rfl rfl ?_
      refine sw_iload_n (pc := 12) C 2 dX10_ones_12 rfl rfl ?_
      refine sw_ishr (pc := 13) C dX10_ones_13 ?_
      refine sw_iconst (pc := 14) C (v := (1 : Int32)) dX10_ones_14 (by decide) ?_
      refine sw_iand (pc := 15) C dX10_ones_15 ?_
      refine sw_iadd (pc := 16) C dX10_ones_16 ?_
      refine sw_istore_n (pc := 17) C dX10_ones_17 rfl (by decide) (ll2 := [(1, .int (v1 + ((v0 >>> (v2 &&& 31)) &&& (1 : Int32)))), (0, .int v0), (2, .int v2)]) rfl ?_
      refine sw_iinc (pc := 18) C 2 dX10_ones_18 rfl (v := (v2 + (1 : Int32))) (congrArg (fun z => v2 + z) (by decide)) (by decide) (ll2 := [(2, .int (v2 + (1 : Int32))), (1, .int (v1 + ((v0 >>> (v2 &&& 31)) &&& (1 : Int32)))), (0, .int v0)]) rfl ?_
      refine sw_goto (pc := 21) (tgt := 4) C dX10_ones_21 (by decide) ?_
      exact sw_sub [2, 1, 0] (by rfl) (ih _ _ _ hJ)
set_option maxHeartbeats 4000000 in
set_option maxRecDepth 100000 in
theorem t_M_ones {p : Program} {l : Launch} {e : Env} {s : State} {m : MethodId} {args : Array Value} {below : List Frame} {meth : Method} {c : Code} {D : va_G} {cy : Nat → ClassId} {ad : Nat → Nat} {A : Nat → Prop} (C : Cx p s m args meth c D cy cX10_ones 3 RX10 (some .int) A (wM cy ad)) {X : St} {r : Int32} : ∀ (a0 : Int32), jM_ones a0 = some r → SW p l e ({ frames := 0, cells := 0, slots := 0, locals := 0 } : Room) s m args below meth c D 3 A (wM cy ad) (MQ below (poI D (wM cy ad) A r X) args s 0 0 A) X [(0, .int a0)] 0 [] := by
  intro a0 hJ
  unfold jM_ones at hJ
  refine sw_iconst (pc := 0) C (v := (0 : Int32)) dX10_ones_0 (by decide) ?_
  refine sw_istore_n (pc := 1) C dX10_ones_1 rfl (by decide) (ll2 := [(1, .int (0 : Int32)), (0, .int a0)]) rfl ?_
  refine sw_iconst (pc := 2) C (v := (0 : Int32)) dX10_ones_2 (by decide) ?_
  refine sw_istore_n (pc := 3) C dX10_ones_3 rfl (by decide) (ll2 := [(2, .int (0 : Int32)), (1, .int (0 : Int32)), (0, .int a0)]) rfl ?_
  exact sw_sub [2, 1, 0] (by rfl) (t_M_ones_4 C _ _ _ _ hJ)
set_option maxHeartbeats 4000000 in
set_option maxRecDepth 100000 in
theorem k_M_ones {l : Launch} {D : va_G} {cy : Nat → ClassId} {ad : Nat → Nat} {A : Nat → Prop} (hD : ∀ X, va_D A (wM cy ad X)) {X : St} {a0 : Int32} {r : Int32} (hJ : jM_ones a0 = some r) : Met l yX10_ones (wsY yX10_ones cX10_ones 3 (some .int)) ({ frames := 0, cells := 0, slots := 0, locals := 0 } : Room) (prX D cy (wM cy ad) X [.int a0]) (poI D (wM cy ad) A r X) 0 0 A := sw_met (by decide +kernel) (Nat.le_of_ble_eq_true rfl) hD (fun p e s m args below meth c C => t_M_ones C _ hJ)
set_option maxHeartbeats 4000000 in
set_option maxRecDepth 100000 in
theorem t_M_layFound_20 {p : Program} {l : Launch} {e : Env} {s : State} {m : MethodId} {args : Array Value} {below : List Frame} {meth : Method} {c : Code} {D : va_G} {cy : Nat → ClassId} {ad : Nat → Nat} {A : Nat → Prop} (C : Cx p s m args meth c D cy cX10_layFound 3 RX10 none A (wM cy ad)) {r : St} : ∀ (n : Nat) (X : St) (v2 : Int32), jM_layFound_20 n X v2 = some r → SW p l e ({ frames := 0, cells := 0, slots := 0, locals := 0 } : Room) s m args below meth c D 3 A (wM cy ad) (MQ below (poV D (wM cy ad) A r) args s 0 0 A) X [(0, .ref (ad 0)), (2, .int v2)] 20 [] := by
  intro n
  induction n with
  | zero => intro X v2 hJ; exact absurd (show (none : Option (St)) = some r from hJ) (fun h => by cases h)
  | succ n ih =>
    intro X v2 hJ
    rw [jM_layFound_20] at hJ
    refine sw_iload_n (pc := 20) C 1 dX10_layFound_20 rfl rfl ?_
    refine sw_aload_n (pc := 21) C 0 dX10_layFound_21 rfl rfl ?_
    refine gM_0_21 (pc := 22) C wd_26_11 dX10_layFound_22 ?_
    refine sw_icmp_ge (pc := 25) (tgt := 51) C dX10_layFound_25 (by decide) (fun hb25 => ?_) (fun hb25 => ?_)
    · replace hJ := itep hb25 hJ
      obtain rfl := Option.some.inj hJ
      exact sw_vret (pc := 51) C dX10_layFound_51
    · replace hJ := iten hb25 hJ
      refine sw_aload_n (pc := 28) C 0 dX10_layFound_28 rfl rfl ?_
      refine gM_0_20 (pc := 29) C wd_4_18 dX10_layFound_29 ?_
      refine sw_iload_n (pc := 32) C 1 dX10_layFound_32 rfl rfl ?_
      refine sw_aload_n (pc := 33) C 0 dX10_layFound_33 rfl rfl ?_
      refine gM_0_17 (pc := 34) C wd_4_17 dX10_layFound_34 ?_
      refine sw_aload_n (pc := 37) C 0 dX10_layFound_37 rfl rfl ?_
      refine gM_0_14 (pc := 38) C wd_17_4 dX10_layFound_38 ?_
      refine sw_iload_n (pc := 41) C 1 dX10_layFound_41 rfl rfl ?_
      refine sw_iadd (pc := 42) C dX10_layFound_42 ?_
      obtain ⟨hi43, hJ⟩ := gd hJ
      refine lM_7 (pc := 43) C hi43 dX10_layFound_43 ?_
      obtain ⟨hi44, hJ⟩ := gd hJ
      refine tM_8 (pc := 44) C hi44 dX10_layFound_44 ?_
      refine sw_iinc (pc := 45) C 1 dX10_layFound_45 rfl (v := (v2 + (1 : Int32))) (congrArg (fun z => v2 + z) (by decide)) (by decide) (ll2 := [(2, .int (v2 + (1 : Int32))), (0, .ref (ad 0))]) rfl ?_
      refine sw_goto (pc := 48) (tgt := 20) C dX10_layFound_48 (by decide) ?_
      exact sw_sub [1, 0] (by rfl) (ih _ _ hJ)
set_option maxHeartbeats 4000000 in
set_option maxRecDepth 100000 in
theorem t_M_layFound {p : Program} {l : Launch} {e : Env} {s : State} {m : MethodId} {args : Array Value} {below : List Frame} {meth : Method} {c : Code} {D : va_G} {cy : Nat → ClassId} {ad : Nat → Nat} {A : Nat → Prop} (C : Cx p s m args meth c D cy cX10_layFound 3 RX10 none A (wM cy ad)) {r : St} : ∀ (X : St) (a1 : Int32), jM_layFound X a1 = some r → SW p l e ({ frames := 0, cells := 0, slots := 0, locals := 0 } : Room) s m args below meth c D 3 A (wM cy ad) (MQ below (poV D (wM cy ad) A r) args s 0 0 A) X [(0, .ref (ad 0)), (1, .int a1)] 0 [] := by
  intro X a1 hJ
  unfold jM_layFound at hJ
  refine sw_aload_n (pc := 0) C 0 dX10_layFound_0 rfl rfl ?_
  refine gM_0_21 (pc := 1) C wd_26_11 dX10_layFound_1 ?_
  refine sw_iconst (pc := 4) C (v := (-1 : Int32)) dX10_layFound_4 (by decide) ?_
  refine sw_icmp_ne (pc := 5) (tgt := 51) C dX10_layFound_5 (by decide) (fun hb5 => ?_) (fun hb5 => ?_)
  · replace hJ := iten hb5 hJ
    obtain rfl := Option.some.inj hJ
    exact sw_vret (pc := 51) C dX10_layFound_51
  · replace hJ := itep hb5 hJ
    refine sw_aload_n (pc := 8) C 0 dX10_layFound_8 rfl rfl ?_
    refine sw_iload_n (pc := 9) C 1 dX10_layFound_9 rfl rfl ?_
    refine sw_aload_n (pc := 10) C 0 dX10_layFound_10 rfl rfl ?_
    refine gM_0_14 (pc := 11) C wd_17_4 dX10_layFound_11 ?_
    refine sw_isub (pc := 14) C dX10_layFound_14 ?_
    refine pM_0_21 (pc := 15) C wd_26_11 dX10_layFound_15 ?_
    refine sw_iconst (pc := 18) C (v := (0 : Int32)) dX10_layFound_18 (by decide) ?_
    refine sw_istore_n (pc := 19) C dX10_layFound_19 rfl (by decide) (ll2 := [(2, .int (0 : Int32)), (0, .ref (ad 0)), (1, .int a1)]) rfl ?_
    exact sw_sub [1, 0] (by rfl) (t_M_layFound_20 C _ _ _ hJ)
set_option maxHeartbeats 4000000 in
set_option maxRecDepth 100000 in
theorem k_M_layFound {l : Launch} {D : va_G} {cy : Nat → ClassId} {ad : Nat → Nat} {A : Nat → Prop} (hD : ∀ X, va_D A (wM cy ad X)) {X : St} {a1 : Int32} {r : St} (hJ : jM_layFound X a1 = some r) : Met l yX10_layFound (wsY yX10_layFound cX10_layFound 3 none) ({ frames := 0, cells := 0, slots := 0, locals := 0 } : Room) (prX D cy (wM cy ad) X [.ref (ad 0), .int a1]) (poV D (wM cy ad) A r) 0 0 A := sw_met (by decide +kernel) (Nat.le_of_ble_eq_true rfl) hD (fun p e s m args below meth c C => t_M_layFound C _ _ hJ)
set_option maxHeartbeats 4000000 in
set_option maxRecDepth 100000 in
theorem t_M_layRows_146 {p : Program} {l : Launch} {e : Env} {s : State} {m : MethodId} {args : Array Value} {below : List Frame} {meth : Method} {c : Code} {D : va_G} {cy : Nat → ClassId} {ad : Nat → Nat} {A : Nat → Prop} (C : Cx p s m args meth c D cy cX10_layRows 5 RX10 none A (wM cy ad)) {N : Nat} {k82 : St → Int32 → Int32 → Int32 → Option (St)} {r : St} (h82 : ∀ (X : St) (v1 : Int32) (v2 : Int32) (v3 : Int32), k82 X v1 v2 v3 = some r → SW p l e ({ frames := 3, cells := 0, slots := 0, locals := 70 } : Room) s m args below meth c D 5 A (wM cy ad) (MQ below (poV D (wM cy ad) A r) args s 0 0 A) X [(0, .ref (ad 0)), (1, .int v1), (2, .int v2), (3, .int v3)] 82 []) : ∀ (X : St) (v1 : Int32) (v2 : Int32) (v3 : Int32) (s1 : Int32) (s2 : Int32), jM_layRows_146 N k82 X v1 v2 v3 s1 s2 = some r → SW p l e ({ frames := 3, cells := 0, slots := 0, locals := 70 } : Room) s m args below meth c D 5 A (wM cy ad) (MQ below (poV D (wM cy ad) A r) args s 0 0 A) X [(0, .ref (ad 0)), (1, .int v1), (2, .int v2), (3, .int v3)] 146 [.int s2, .int s1, .ref (ad 0)] := by
  intro X v1 v2 v3 s1 s2 hJ
  unfold jM_layRows_146 at hJ
  refine sw_isub (pc := 146) C dX10_layRows_146 ?_
  refine pM_0_18 (pc := 147) C wd_24_4 dX10_layRows_147 ?_
  refine sw_goto (pc := 150) (tgt := 82) C dX10_layRows_150 (by decide) ?_
  exact sw_sub [0, 1, 2, 3] (by rfl) (h82 _ _ _ _ hJ)
set_option maxHeartbeats 4000000 in
set_option maxRecDepth 100000 in
theorem t_M_layRows_129 {p : Program} {l : Launch} {e : Env} {s : State} {m : MethodId} {args : Array Value} {below : List Frame} {meth : Method} {c : Code} {D : va_G} {cy : Nat → ClassId} {ad : Nat → Nat} {A : Nat → Prop} (C : Cx p s m args meth c D cy cX10_layRows 5 RX10 none A (wM cy ad)) {N : Nat} {k82 : St → Int32 → Int32 → Int32 → Option (St)} {r : St} (h82 : ∀ (X : St) (v1 : Int32) (v2 : Int32) (v3 : Int32), k82 X v1 v2 v3 = some r → SW p l e ({ frames := 3, cells := 0, slots := 0, locals := 70 } : Room) s m args below meth c D 5 A (wM cy ad) (MQ below (poV D (wM cy ad) A r) args s 0 0 A) X [(0, .ref (ad 0)), (1, .int v1), (2, .int v2), (3, .int v3)] 82 []) : ∀ (X : St) (v1 : Int32) (v2 : Int32) (v3 : Int32), jM_layRows_129 N k82 X v1 v2 v3 = some r → SW p l e ({ frames := 3, cells := 0, slots := 0, locals := 70 } : Room) s m args below meth c D 5 A (wM cy ad) (MQ below (poV D (wM cy ad) A r) args s 0 0 A) X [(0, .ref (ad 0)), (1, .int v1), (2, .int v2), (3, .int v3)] 129 [] := by
  intro X v1 v2 v3 hJ
  unfold jM_layRows_129 at hJ
  refine sw_iinc (pc := 129) C 3 dX10_layRows_129 rfl (v := (v3 + (-1 : Int32))) (congrArg (fun z => v3 + z) (by decide)) (by decide) (ll2 := [(3, .int (v3 + (-1 : Int32))), (0, .ref (ad 0)), (1, .int v1), (2, .int v2)]) rfl ?_
  refine sw_aload_n (pc := 132) C 1 dX10_layRows_132 rfl rfl ?_
  refine sw_dup (pc := 133) C dX10_layRows_133 rfl ?_
  refine gM_0_18 (pc := 134) C wd_24_4 dX10_layRows_134 ?_
  refine sw_iload_n (pc := 137) C 0 dX10_layRows_137 rfl rfl ?_
  refine sw_if_lt (pc := 138) (tgt := 145) C dX10_layRows_138 (by decide) (fun hb138 => ?_) (fun hb138 => ?_)
  · replace hJ := itep hb138 hJ
    refine sw_iconst (pc := 145) C (v := (0 : Int32)) dX10_layRows_145 (by decide) ?_
    exact sw_sub [1, 2, 3, 0] (by rfl) (t_M_layRows_146 C h82 _ _ _ _ _ _ hJ)
  · replace hJ := iten hb138 hJ
    refine sw_iconst (pc := 141) C (v := (1 : Int32)) dX10_layRows_141 (by decide) ?_
    refine sw_goto (pc := 142) (tgt := 146) C dX10_layRows_142 (by decide) ?_
    exact sw_sub [1, 2, 3, 0] (by rfl) (t_M_layRows_146 C h82 _ _ _ _ _ _ hJ)
set_option maxHeartbeats 4000000 in
set_option maxRecDepth 100000 in
theorem t_M_layRows_100 {p : Program} {l : Launch} {e : Env} {s : State} {m : MethodId} {args : Array Value} {below : List Frame} {meth : Method} {c : Code} {D : va_G} {cy : Nat → ClassId} {ad : Nat → Nat} {A : Nat → Prop} (C : Cx p s m args meth c D cy cX10_layRows 5 RX10 none A (wM cy ad)) {N : Nat} {k82 : St → Int32 → Int32 → Int32 → Option (St)} {r : St} (h82 : ∀ (X : St) (v1 : Int32) (v2 : Int32) (v3 : Int32), k82 X v1 v2 v3 = some r → SW p l e ({ frames := 3, cells := 0, slots := 0, locals := 70 } : Room) s m args below meth c D 5 A (wM cy ad) (MQ below (poV D (wM cy ad) A r) args s 0 0 A) X [(0, .ref (ad 0)), (1, .int v1), (2, .int v2), (3, .int v3)] 82 []) : ∀ (X : St) (v1 : Int32) (v2 : Int32) (v3 : Int32), jM_layRows_100 N k82 X v1 v2 v3 = some r → SW p l e ({ frames := 3, cells := 0, slots := 0, locals := 70 } : Room) s m args below meth c D 5 A (wM cy ad) (MQ below (poV D (wM cy ad) A r) args s 0 0 A) X [(0, .ref (ad 0)), (1, .int v1), (2, .int v2), (3, .int v3)] 100 [] := by
  intro X v1 v2 v3 hJ
  unfold jM_layRows_100 at hJ
  refine sw_iload_n (pc := 100) C 2 dX10_layRows_100 rfl rfl ?_
  refine sw_bipush (pc := 101) C (v := (7 : Int32)) dX10_layRows_101 (by decide) ?_
  refine sw_icmp_gt (pc := 103) (tgt := 129) C dX10_layRows_103 (by decide) (fun hb103 => ?_) (fun hb103 => ?_)
  · replace hJ := itep hb103 hJ
    exact sw_sub [0, 1, 2, 3] (by rfl) (t_M_layRows_129 C h82 _ _ _ _ hJ)
  · replace hJ := iten hb103 hJ
    refine sw_aload_n (pc := 106) C 0 dX10_layRows_106 rfl rfl ?_
    refine gM_0_22 (pc := 107) C wd_4_20 dX10_layRows_107 ?_
    refine sw_aload_n (pc := 110) C 0 dX10_layRows_110 rfl rfl ?_
    refine sw_aload_n (pc := 111) C 0 dX10_layRows_111 rfl rfl ?_
    refine gM_0_17 (pc := 112) C wd_4_17 dX10_layRows_112 ?_
    refine sw_aload_n (pc := 115) C 0 dX10_layRows_115 rfl rfl ?_
    refine gM_0_18 (pc := 116) C wd_24_4 dX10_layRows_116 ?_
    obtain ⟨q119, hq119, hJ⟩ := bind_some hJ
    refine sw_callV_i (pc := 119) C (st := [.ref (ad 9)]) (As := [.ref (ad 7), .int (sF X 18)]) (k_M_billOf C.2.2.2.2.2.2.1 a7_7 hq119) pk_X10_billOf wd_23_4 0 rfl rfl rfl ⟨Nat.le_of_ble_eq_true rfl, Nat.le_of_ble_eq_true rfl⟩ ⟨rfl, rfl⟩ rfl rfl (Nat.le_of_ble_eq_true rfl) dX10_layRows_119 ?_
    refine sw_iconst (pc := 122) C (v := (1 : Int32)) dX10_layRows_122 (by decide) ?_
    obtain ⟨hi123, hJ⟩ := gd hJ
    refine tM_9 (pc := 123) C hi123 (by decide) dX10_layRows_123 ?_
    refine sw_aload_n (pc := 124) C 0 dX10_layRows_124 rfl rfl ?_
    refine sw_iload_n (pc := 125) C 2 dX10_layRows_125 rfl rfl ?_
    obtain ⟨q126, hq126, hJ⟩ := bind_some hJ
    refine sw_callV_v (pc := 126) C (st := []) (As := [.int v2]) (k_M_layFound C.2.2.2.2.2.2.1 hq126) pk_X10_layFound wd_26_23 0 rfl rfl rfl ⟨Nat.le_of_ble_eq_true rfl, Nat.le_of_ble_eq_true rfl⟩ ⟨rfl, rfl⟩ rfl rfl (Nat.le_of_ble_eq_true rfl) dX10_layRows_126 ?_
    exact sw_sub [0, 1, 2, 3] (by rfl) (t_M_layRows_129 C h82 _ _ _ _ hJ)
set_option maxHeartbeats 4000000 in
set_option maxRecDepth 100000 in
theorem t_M_layRows_304 {p : Program} {l : Launch} {e : Env} {s : State} {m : MethodId} {args : Array Value} {below : List Frame} {meth : Method} {c : Code} {D : va_G} {cy : Nat → ClassId} {ad : Nat → Nat} {A : Nat → Prop} (C : Cx p s m args meth c D cy cX10_layRows 5 RX10 none A (wM cy ad)) {N : Nat} {k82 : St → Int32 → Int32 → Int32 → Option (St)} {r : St} (h82 : ∀ (X : St) (v1 : Int32) (v2 : Int32) (v3 : Int32), k82 X v1 v2 v3 = some r → SW p l e ({ frames := 3, cells := 0, slots := 0, locals := 70 } : Room) s m args below meth c D 5 A (wM cy ad) (MQ below (poV D (wM cy ad) A r) args s 0 0 A) X [(0, .ref (ad 0)), (1, .int v1), (2, .int v2), (3, .int v3)] 82 []) : ∀ (X : St) (v1 : Int32) (v2 : Int32) (v3 : Int32), jM_layRows_304 N k82 X v1 v2 v3 = some r → SW p l e ({ frames := 3, cells := 0, slots := 0, locals := 70 } : Room) s m args below meth c D 5 A (wM cy ad) (MQ below (poV D (wM cy ad) A r) args s 0 0 A) X [(0, .ref (ad 0)), (1, .int v1), (2, .int v2), (3, .int v3)] 304 [] := by
  intro X v1 v2 v3 hJ
  unfold jM_layRows_304 at hJ
  refine sw_goto (pc := 304) (tgt := 82) C dX10_layRows_304 (by decide) ?_
  exact sw_sub [0, 1, 2, 3] (by rfl) (h82 _ _ _ _ hJ)
set_option maxHeartbeats 4000000 in
set_option maxRecDepth 100000 in
theorem t_M_layRows_238 {p : Program} {l : Launch} {e : Env} {s : State} {m : MethodId} {args : Array Value} {below : List Frame} {meth : Method} {c : Code} {D : va_G} {cy : Nat → ClassId} {ad : Nat → Nat} {A : Nat → Prop} (C : Cx p s m args meth c D cy cX10_layRows 5 RX10 none A (wM cy ad)) {N : Nat} {k82 : St → Int32 → Int32 → Int32 → Option (St)} {r : St} (h82 : ∀ (X : St) (v1 : Int32) (v2 : Int32) (v3 : Int32), k82 X v1 v2 v3 = some r → SW p l e ({ frames := 3, cells := 0, slots := 0, locals := 70 } : Room) s m args below meth c D 5 A (wM cy ad) (MQ below (poV D (wM cy ad) A r) args s 0 0 A) X [(0, .ref (ad 0)), (1, .int v1), (2, .int v2), (3, .int v3)] 82 []) : ∀ (X : St) (v1 : Int32) (v2 : Int32) (v3 : Int32) (s1 : Int32) (s2 : Int32), jM_layRows_238 N k82 X v1 v2 v3 s1 s2 = some r → SW p l e ({ frames := 3, cells := 0, slots := 0, locals := 70 } : Room) s m args below meth c D 5 A (wM cy ad) (MQ below (poV D (wM cy ad) A r) args s 0 0 A) X [(0, .ref (ad 0)), (1, .int v1), (2, .int v2), (3, .int v3)] 238 [.int s2, .int s1, .ref (ad 0)] := by
  intro X v1 v2 v3 s1 s2 hJ
  unfold jM_layRows_238 at hJ
  refine sw_isub (pc := 238) C dX10_layRows_238 ?_
  refine pM_0_18 (pc := 239) C wd_24_4 dX10_layRows_239 ?_
  refine sw_goto (pc := 242) (tgt := 304) C dX10_layRows_242 (by decide) ?_
  exact sw_sub [0, 1, 2, 3] (by rfl) (t_M_layRows_304 C h82 _ _ _ _ hJ)
set_option maxHeartbeats 4000000 in
set_option maxRecDepth 100000 in
theorem t_M_layRows_202 {p : Program} {l : Launch} {e : Env} {s : State} {m : MethodId} {args : Array Value} {below : List Frame} {meth : Method} {c : Code} {D : va_G} {cy : Nat → ClassId} {ad : Nat → Nat} {A : Nat → Prop} (C : Cx p s m args meth c D cy cX10_layRows 5 RX10 none A (wM cy ad)) {N : Nat} {k82 : St → Int32 → Int32 → Int32 → Option (St)} {r : St} (h82 : ∀ (X : St) (v1 : Int32) (v2 : Int32) (v3 : Int32), k82 X v1 v2 v3 = some r → SW p l e ({ frames := 3, cells := 0, slots := 0, locals := 70 } : Room) s m args below meth c D 5 A (wM cy ad) (MQ below (poV D (wM cy ad) A r) args s 0 0 A) X [(0, .ref (ad 0)), (1, .int v1), (2, .int v2), (3, .int v3)] 82 []) : ∀ (X : St) (v1 : Int32) (v2 : Int32) (v3 : Int32) (v4 : Int32), jM_layRows_202 N k82 X v1 v2 v3 v4 = some r → SW p l e ({ frames := 3, cells := 0, slots := 0, locals := 70 } : Room) s m args below meth c D 5 A (wM cy ad) (MQ below (poV D (wM cy ad) A r) args s 0 0 A) X [(0, .ref (ad 0)), (1, .int v1), (2, .int v2), (3, .int v3), (4, .int v4)] 202 [] := by
  intro X v1 v2 v3 v4 hJ
  unfold jM_layRows_202 at hJ
  refine sw_aload_n (pc := 202) C 0 dX10_layRows_202 rfl rfl ?_
  refine gM_0_23 (pc := 203) C wd_4_21 dX10_layRows_203 ?_
  refine sw_iload_n (pc := 206) C 3 dX10_layRows_206 rfl rfl ?_
  refine sw_iload (pc := 207) C 4 dX10_layRows_207 rfl ?_
  refine sw_iconst (pc := 209) C (v := (1 : Int32)) dX10_layRows_209 (by decide) ?_
  refine sw_iadd (pc := 210) C dX10_layRows_210 ?_
  obtain ⟨hi211, hJ⟩ := gd hJ
  refine tM_10 (pc := 211) C hi211 dX10_layRows_211 ?_
  refine sw_iload (pc := 212) C 4 dX10_layRows_212 rfl ?_
  refine sw_aload_n (pc := 214) C 0 dX10_layRows_214 rfl rfl ?_
  refine gM_0_12 (pc := 215) C wd_14_18 dX10_layRows_215 ?_
  refine sw_icmp_lt (pc := 218) (tgt := 245) C dX10_layRows_218 (by decide) (fun hb218 => ?_) (fun hb218 => ?_)
  · replace hJ := itep hb218 hJ
    refine sw_aload_n (pc := 245) C 0 dX10_layRows_245 rfl rfl ?_
    refine gM_0_17 (pc := 246) C wd_4_17 dX10_layRows_246 ?_
    refine sw_aload_n (pc := 249) C 0 dX10_layRows_249 rfl rfl ?_
    refine gM_0_18 (pc := 250) C wd_24_4 dX10_layRows_250 ?_
    refine sw_iload (pc := 253) C 4 dX10_layRows_253 rfl ?_
    obtain ⟨hi255, hJ⟩ := gd hJ
    refine tM_7 (pc := 255) C hi255 dX10_layRows_255 ?_
    refine sw_aload_n (pc := 256) C 0 dX10_layRows_256 rfl rfl ?_
    refine sw_dup (pc := 257) C dX10_layRows_257 rfl ?_
    refine gM_0_18 (pc := 258) C wd_24_4 dX10_layRows_258 ?_
    refine sw_iconst (pc := 261) C (v := (1 : Int32)) dX10_layRows_261 (by decide) ?_
    refine sw_iadd (pc := 262) C dX10_layRows_262 ?_
    refine pM_0_18 (pc := 263) C wd_24_4 dX10_layRows_263 ?_
    refine sw_aload_n (pc := 266) C 0 dX10_layRows_266 rfl rfl ?_
    refine sw_aload_n (pc := 267) C 0 dX10_layRows_267 rfl rfl ?_
    refine gM_0_17 (pc := 268) C wd_4_17 dX10_layRows_268 ?_
    refine sw_aload_n (pc := 271) C 0 dX10_layRows_271 rfl rfl ?_
    refine gM_0_18 (pc := 272) C wd_24_4 dX10_layRows_272 ?_
    obtain ⟨q275, hq275, hJ⟩ := bind_some hJ
    refine sw_callV_i (pc := 275) C (st := []) (As := [.ref (ad 7), .int (sF (pF (pA (pA X 10 v3.toNatClampNeg (v4 + (1 : Int32))) 7 (sF (pA X 10 v3.toNatClampNeg (v4 + (1 : Int32))) 18).toNatClampNeg v4) 18 ((sF (pA (pA X 10 v3.toNatClampNeg (v4 + (1 : Int32))) 7 (sF (pA X 10 v3.toNatClampNeg (v4 + (1 : Int32))) 18).toNatClampNeg v4) 18) + (1 : Int32))) 18)]) (k_M_holds C.2.2.2.2.2.2.1 a7_7 hq275) pk_X10_holds wd_20_19 0 rfl rfl rfl ⟨Nat.le_of_ble_eq_true rfl, Nat.le_of_ble_eq_true rfl⟩ ⟨rfl, rfl⟩ rfl rfl (Nat.le_of_ble_eq_true rfl) dX10_layRows_275 ?_
    refine sw_if_eq (pc := 278) (tgt := 294) C dX10_layRows_278 (by decide) (fun hb278 => ?_) (fun hb278 => ?_)
    · replace hJ := itep hb278 hJ
      refine sw_aload_n (pc := 294) C 0 dX10_layRows_294 rfl rfl ?_
      refine sw_dup (pc := 295) C dX10_layRows_295 rfl ?_
      refine gM_0_18 (pc := 296) C wd_24_4 dX10_layRows_296 ?_
      refine sw_iconst (pc := 299) C (v := (1 : Int32)) dX10_layRows_299 (by decide) ?_
      refine sw_isub (pc := 300) C dX10_layRows_300 ?_
      refine pM_0_18 (pc := 301) C wd_24_4 dX10_layRows_301 ?_
      exact sw_sub [0, 1, 2, 3] (by rfl) (t_M_layRows_304 C h82 _ _ _ _ hJ)
    · replace hJ := iten hb278 hJ
      refine sw_iinc (pc := 281) C 3 dX10_layRows_281 rfl (v := (v3 + (1 : Int32))) (congrArg (fun z => v3 + z) (by decide)) (by decide) (ll2 := [(3, .int (v3 + (1 : Int32))), (0, .ref (ad 0)), (1, .int v1), (2, .int v2), (4, .int v4)]) rfl ?_
      refine sw_aload_n (pc := 284) C 1 dX10_layRows_284 rfl rfl ?_
      refine gM_0_23 (pc := 285) C wd_4_21 dX10_layRows_285 ?_
      refine sw_iload_n (pc := 288) C 0 dX10_layRows_288 rfl rfl ?_
      refine sw_iconst (pc := 289) C (v := (0 : Int32)) dX10_layRows_289 (by decide) ?_
      obtain ⟨hi290, hJ⟩ := gd hJ
      refine tM_10 (pc := 290) C hi290 dX10_layRows_290 ?_
      refine sw_goto (pc := 291) (tgt := 304) C dX10_layRows_291 (by decide) ?_
      exact sw_sub [1, 2, 3, 0] (by rfl) (t_M_layRows_304 C h82 _ _ _ _ hJ)
  · replace hJ := iten hb218 hJ
    refine sw_iinc (pc := 221) C 3 dX10_layRows_221 rfl (v := (v3 + (-1 : Int32))) (congrArg (fun z => v3 + z) (by decide)) (by decide) (ll2 := [(3, .int (v3 + (-1 : Int32))), (0, .ref (ad 0)), (1, .int v1), (2, .int v2), (4, .int v4)]) rfl ?_
    refine sw_aload_n (pc := 224) C 1 dX10_layRows_224 rfl rfl ?_
    refine sw_dup (pc := 225) C dX10_layRows_225 rfl ?_
    refine gM_0_18 (pc := 226) C wd_24_4 dX10_layRows_226 ?_
    refine sw_iload_n (pc := 229) C 0 dX10_layRows_229 rfl rfl ?_
    refine sw_if_lt (pc := 230) (tgt := 237) C dX10_layRows_230 (by decide) (fun hb230 => ?_) (fun hb230 => ?_)
    · replace hJ := itep hb230 hJ
      refine sw_iconst (pc := 237) C (v := (0 : Int32)) dX10_layRows_237 (by decide) ?_
      exact sw_sub [1, 2, 3, 0] (by rfl) (t_M_layRows_238 C h82 _ _ _ _ _ _ hJ)
    · replace hJ := iten hb230 hJ
      refine sw_iconst (pc := 233) C (v := (1 : Int32)) dX10_layRows_233 (by decide) ?_
      refine sw_goto (pc := 234) (tgt := 238) C dX10_layRows_234 (by decide) ?_
      exact sw_sub [1, 2, 3, 0] (by rfl) (t_M_layRows_238 C h82 _ _ _ _ _ _ hJ)
set_option maxHeartbeats 4000000 in
set_option maxRecDepth 100000 in
theorem t_M_layRows_196 {p : Program} {l : Launch} {e : Env} {s : State} {m : MethodId} {args : Array Value} {below : List Frame} {meth : Method} {c : Code} {D : va_G} {cy : Nat → ClassId} {ad : Nat → Nat} {A : Nat → Prop} (C : Cx p s m args meth c D cy cX10_layRows 5 RX10 none A (wM cy ad)) {N : Nat} {k82 : St → Int32 → Int32 → Int32 → Option (St)} {k161 : St → Int32 → Int32 → Int32 → Int32 → Option (St)} {r : St} (h82 : ∀ (X : St) (v1 : Int32) (v2 : Int32) (v3 : Int32), k82 X v1 v2 v3 = some r → SW p l e ({ frames := 3, cells := 0, slots := 0, locals := 70 } : Room) s m args below meth c D 5 A (wM cy ad) (MQ below (poV D (wM cy ad) A r) args s 0 0 A) X [(0, .ref (ad 0)), (1, .int v1), (2, .int v2), (3, .int v3)] 82 []) (h161 : ∀ (X : St) (v1 : Int32) (v2 : Int32) (v3 : Int32) (v4 : Int32), k161 X v1 v2 v3 v4 = some r → SW p l e ({ frames := 3, cells := 0, slots := 0, locals := 70 } : Room) s m args below meth c D 5 A (wM cy ad) (MQ below (poV D (wM cy ad) A r) args s 0 0 A) X [(0, .ref (ad 0)), (1, .int v1), (2, .int v2), (3, .int v3), (4, .int v4)] 161 []) : ∀ (X : St) (v1 : Int32) (v2 : Int32) (v3 : Int32) (v4 : Int32), jM_layRows_196 N k82 k161 X v1 v2 v3 v4 = some r → SW p l e ({ frames := 3, cells := 0, slots := 0, locals := 70 } : Room) s m args below meth c D 5 A (wM cy ad) (MQ below (poV D (wM cy ad) A r) args s 0 0 A) X [(0, .ref (ad 0)), (1, .int v1), (2, .int v2), (3, .int v3), (4, .int v4)] 196 [] := by
  intro X v1 v2 v3 v4 hJ
  unfold jM_layRows_196 at hJ
  refine sw_iinc (pc := 196) C 4 dX10_layRows_196 rfl (v := (v4 + (1 : Int32))) (congrArg (fun z => v4 + z) (by decide)) (by decide) (ll2 := [(4, .int (v4 + (1 : Int32))), (0, .ref (ad 0)), (1, .int v1), (2, .int v2), (3, .int v3)]) rfl ?_
  refine sw_goto (pc := 199) (tgt := 161) C dX10_layRows_199 (by decide) ?_
  exact sw_sub [1, 2, 3, 4, 0] (by rfl) (h161 _ _ _ _ _ hJ)
set_option maxHeartbeats 4000000 in
set_option maxRecDepth 100000 in
theorem t_M_layRows_161 {p : Program} {l : Launch} {e : Env} {s : State} {m : MethodId} {args : Array Value} {below : List Frame} {meth : Method} {c : Code} {D : va_G} {cy : Nat → ClassId} {ad : Nat → Nat} {A : Nat → Prop} (C : Cx p s m args meth c D cy cX10_layRows 5 RX10 none A (wM cy ad)) {N : Nat} {k82 : St → Int32 → Int32 → Int32 → Option (St)} {r : St} (h82 : ∀ (X : St) (v1 : Int32) (v2 : Int32) (v3 : Int32), k82 X v1 v2 v3 = some r → SW p l e ({ frames := 3, cells := 0, slots := 0, locals := 70 } : Room) s m args below meth c D 5 A (wM cy ad) (MQ below (poV D (wM cy ad) A r) args s 0 0 A) X [(0, .ref (ad 0)), (1, .int v1), (2, .int v2), (3, .int v3)] 82 []) : ∀ (n : Nat) (X : St) (v1 : Int32) (v2 : Int32) (v3 : Int32) (v4 : Int32), jM_layRows_161 N k82 n X v1 v2 v3 v4 = some r → SW p l e ({ frames := 3, cells := 0, slots := 0, locals := 70 } : Room) s m args below meth c D 5 A (wM cy ad) (MQ below (poV D (wM cy ad) A r) args s 0 0 A) X [(0, .ref (ad 0)), (1, .int v1), (2, .int v2), (3, .int v3), (4, .int v4)] 161 [] := by
  intro n
  induction n with
  | zero => intro X v1 v2 v3 v4 hJ; exact absurd (show (none : Option (St)) = some r from hJ) (fun h => by cases h)
  | succ n ih =>
    intro X v1 v2 v3 v4 hJ
    rw [jM_layRows_161] at hJ
    refine sw_iload (pc := 161) C 4 dX10_layRows_161 rfl ?_
    refine sw_aload_n (pc := 163) C 0 dX10_layRows_163 rfl rfl ?_
    refine gM_0_12 (pc := 164) C wd_14_18 dX10_layRows_164 ?_
    refine sw_icmp_ge (pc := 167) (tgt := 202) C dX10_layRows_167 (by decide) (fun hb167 => ?_) (fun hb167 => ?_)
    · replace hJ := itep hb167 hJ
      exact sw_sub [0, 1, 2, 3, 4] (by rfl) (t_M_layRows_202 C h82 _ _ _ _ _ hJ)
    · replace hJ := iten hb167 hJ
      refine sw_iload_n (pc := 170) C 1 dX10_layRows_170 rfl rfl ?_
      refine sw_iload (pc := 171) C 4 dX10_layRows_171 rfl ?_
      refine sw_ishr (pc := 173) C dX10_layRows_173 ?_
      refine sw_iconst (pc := 174) C (v := (1 : Int32)) dX10_layRows_174 (by decide) ?_
      refine sw_iand (pc := 175) C dX10_layRows_175 ?_
      refine sw_if_eq (pc := 176) (tgt := 196) C dX10_layRows_176 (by decide) (fun hb176 => ?_) (fun hb176 => ?_)
      · replace hJ := itep hb176 hJ
        exact sw_sub [0, 1, 2, 3, 4] (by rfl) (t_M_layRows_196 C h82 ih _ _ _ _ _ hJ)
      · replace hJ := iten hb176 hJ
        refine sw_aload_n (pc := 179) C 0 dX10_layRows_179 rfl rfl ?_
        refine sw_iload (pc := 180) C 4 dX10_layRows_180 rfl ?_
        refine sw_aload_n (pc := 182) C 0 dX10_layRows_182 rfl rfl ?_
        refine gM_0_17 (pc := 183) C wd_4_17 dX10_layRows_183 ?_
        refine sw_aload_n (pc := 186) C 0 dX10_layRows_186 rfl rfl ?_
        refine gM_0_18 (pc := 187) C wd_24_4 dX10_layRows_187 ?_
        obtain ⟨q190, hq190, hJ⟩ := bind_some hJ
        refine sw_callV_i (pc := 190) C (st := []) (As := [.int v4, .ref (ad 7), .int (sF X 18)]) (k_M_mayRise C.2.2.2.2.2.2.1 a7_7 hq190) pk_X10_mayRise wd_19_7 0 rfl rfl rfl ⟨Nat.le_of_ble_eq_true rfl, Nat.le_of_ble_eq_true rfl⟩ ⟨rfl, rfl⟩ rfl rfl (Nat.le_of_ble_eq_true rfl) dX10_layRows_190 ?_
        refine sw_if_ne (pc := 193) (tgt := 202) C dX10_layRows_193 (by decide) (fun hb193 => ?_) (fun hb193 => ?_)
        · replace hJ := iten hb193 hJ
          exact sw_sub [0, 1, 2, 3, 4] (by rfl) (t_M_layRows_202 C h82 _ _ _ _ _ hJ)
        · replace hJ := itep hb193 hJ
          exact sw_sub [0, 1, 2, 3, 4] (by rfl) (t_M_layRows_196 C h82 ih _ _ _ _ _ hJ)
set_option maxHeartbeats 4000000 in
set_option maxRecDepth 100000 in
theorem t_M_layRows_82 {p : Program} {l : Launch} {e : Env} {s : State} {m : MethodId} {args : Array Value} {below : List Frame} {meth : Method} {c : Code} {D : va_G} {cy : Nat → ClassId} {ad : Nat → Nat} {A : Nat → Prop} (C : Cx p s m args meth c D cy cX10_layRows 5 RX10 none A (wM cy ad)) {N : Nat} {r : St} : ∀ (n : Nat) (X : St) (v1 : Int32) (v2 : Int32) (v3 : Int32), jM_layRows_82 N n X v1 v2 v3 = some r → SW p l e ({ frames := 3, cells := 0, slots := 0, locals := 70 } : Room) s m args below meth c D 5 A (wM cy ad) (MQ below (poV D (wM cy ad) A r) args s 0 0 A) X [(0, .ref (ad 0)), (1, .int v1), (2, .int v2), (3, .int v3)] 82 [] := by
  intro n
  induction n with
  | zero => intro X v1 v2 v3 hJ; exact absurd (show (none : Option (St)) = some r from hJ) (fun h => by cases h)
  | succ n ih =>
    intro X v1 v2 v3 hJ
    rw [jM_layRows_82] at hJ
    refine sw_iload_n (pc := 82) C 3 dX10_layRows_82 rfl rfl ?_
    refine sw_if_lt (pc := 83) (tgt := 307) C dX10_layRows_83 (by decide) (fun hb83 => ?_) (fun hb83 => ?_)
    · replace hJ := itep hb83 hJ
      obtain rfl := Option.some.inj hJ
      exact sw_vret (pc := 307) C dX10_layRows_307
    · replace hJ := iten hb83 hJ
      refine sw_aload_n (pc := 86) C 0 dX10_layRows_86 rfl rfl ?_
      refine gM_0_18 (pc := 87) C wd_24_4 dX10_layRows_87 ?_
      refine sw_iload_n (pc := 90) C 2 dX10_layRows_90 rfl rfl ?_
      refine sw_icmp_eq (pc := 91) (tgt := 100) C dX10_layRows_91 (by decide) (fun hb91 => ?_) (fun hb91 => ?_)
      · replace hJ := itep hb91 hJ
        exact sw_sub [0, 1, 2, 3] (by rfl) (t_M_layRows_100 C ih _ _ _ _ hJ)
      · replace hJ := iten hb91 hJ
        refine sw_iload_n (pc := 94) C 2 dX10_layRows_94 rfl rfl ?_
        refine sw_bipush (pc := 95) C (v := (7 : Int32)) dX10_layRows_95 (by decide) ?_
        refine sw_icmp_le (pc := 97) (tgt := 153) C dX10_layRows_97 (by decide) (fun hb97 => ?_) (fun hb97 => ?_)
        · replace hJ := itep hb97 hJ
          refine sw_aload_n (pc := 153) C 0 dX10_layRows_153 rfl rfl ?_
          refine gM_0_23 (pc := 154) C wd_4_21 dX10_layRows_154 ?_
          refine sw_iload_n (pc := 157) C 3 dX10_layRows_157 rfl rfl ?_
          obtain ⟨hi158, hJ⟩ := gd hJ
          refine lM_10 (pc := 158) C hi158 dX10_layRows_158 ?_
          refine sw_istore (pc := 159) C dX10_layRows_159 (by decide) (ll2 := [(4, .int (sA X 10 v3.toNatClampNeg)), (0, .ref (ad 0)), (1, .int v1), (2, .int v2), (3, .int v3)]) rfl ?_
          exact sw_sub [1, 2, 3, 4, 0] (by rfl) (t_M_layRows_161 C ih _ _ _ _ _ _ hJ)
        · replace hJ := iten hb97 hJ
          exact sw_sub [0, 1, 2, 3] (by rfl) (t_M_layRows_100 C ih _ _ _ _ hJ)
set_option maxHeartbeats 4000000 in
set_option maxRecDepth 100000 in
theorem t_M_layRows_29 {p : Program} {l : Launch} {e : Env} {s : State} {m : MethodId} {args : Array Value} {below : List Frame} {meth : Method} {c : Code} {D : va_G} {cy : Nat → ClassId} {ad : Nat → Nat} {A : Nat → Prop} (C : Cx p s m args meth c D cy cX10_layRows 5 RX10 none A (wM cy ad)) {N : Nat} {r : St} : ∀ (n : Nat) (X : St) (v1 : Int32) (v2 : Int32), jM_layRows_29 N n X v1 v2 = some r → SW p l e ({ frames := 3, cells := 0, slots := 0, locals := 70 } : Room) s m args below meth c D 5 A (wM cy ad) (MQ below (poV D (wM cy ad) A r) args s 0 0 A) X [(0, .ref (ad 0)), (1, .int v1), (2, .int v2)] 29 [] := by
  intro n
  induction n with
  | zero => intro X v1 v2 hJ; exact absurd (show (none : Option (St)) = some r from hJ) (fun h => by cases h)
  | succ n ih =>
    intro X v1 v2 hJ
    rw [jM_layRows_29] at hJ
    refine sw_iload_n (pc := 29) C 2 dX10_layRows_29 rfl rfl ?_
    refine sw_aload_n (pc := 30) C 0 dX10_layRows_30 rfl rfl ?_
    refine gM_0_14 (pc := 31) C wd_17_4 dX10_layRows_31 ?_
    refine sw_icmp_ge (pc := 34) (tgt := 55) C dX10_layRows_34 (by decide) (fun hb34 => ?_) (fun hb34 => ?_)
    · replace hJ := itep hb34 hJ
      refine sw_aload_n (pc := 55) C 0 dX10_layRows_55 rfl rfl ?_
      refine sw_aload_n (pc := 56) C 0 dX10_layRows_56 rfl rfl ?_
      refine gM_0_14 (pc := 57) C wd_17_4 dX10_layRows_57 ?_
      refine pM_0_18 (pc := 60) C wd_24_4 dX10_layRows_60 ?_
      refine sw_aload_n (pc := 63) C 0 dX10_layRows_63 rfl rfl ?_
      refine gM_0_14 (pc := 64) C wd_17_4 dX10_layRows_64 ?_
      refine sw_iload_n (pc := 67) C 1 dX10_layRows_67 rfl rfl ?_
      obtain ⟨q68, hq68, hJ⟩ := bind_some hJ
      refine sw_callS_i (pc := 68) C (st := [.int (sF (pF X 18 (sF X 14)) 14)]) (As := [.int v1]) (k_M_ones C.2.2.2.2.2.2.1 hq68) pk_X10_ones wd_26_20 ⟨Nat.le_of_ble_eq_true rfl, Nat.le_of_ble_eq_true rfl⟩ ⟨rfl, rfl⟩ rfl rfl (Nat.le_of_ble_eq_true rfl) dX10_layRows_68 ?_
      refine sw_iadd (pc := 71) C dX10_layRows_71 ?_
      refine sw_istore_n (pc := 72) C dX10_layRows_72 rfl (by decide) (ll2 := [(2, .int ((sF (pF X 18 (sF X 14)) 14) + q68)), (0, .ref (ad 0)), (1, .int v1)]) rfl ?_
      refine sw_aload_n (pc := 73) C 1 dX10_layRows_73 rfl rfl ?_
      refine gM_0_23 (pc := 74) C wd_4_21 dX10_layRows_74 ?_
      refine sw_iconst (pc := 77) C (v := (0 : Int32)) dX10_layRows_77 (by decide) ?_
      refine sw_iconst (pc := 78) C (v := (0 : Int32)) dX10_layRows_78 (by decide) ?_
      obtain ⟨hi79, hJ⟩ := gd hJ
      refine tM_10 (pc := 79) C hi79 dX10_layRows_79 ?_
      refine sw_iconst (pc := 80) C (v := (0 : Int32)) dX10_layRows_80 (by decide) ?_
      refine sw_istore_n (pc := 81) C dX10_layRows_81 rfl (by decide) (ll2 := [(3, .int (0 : Int32)), (2, .int ((sF (pF X 18 (sF X 14)) 14) + q68)), (0, .ref (ad 0)), (1, .int v1)]) rfl ?_
      exact sw_sub [2, 3, 1, 0] (by rfl) (t_M_layRows_82 C _ _ _ _ _ hJ)
    · replace hJ := iten hb34 hJ
      refine sw_aload_n (pc := 37) C 0 dX10_layRows_37 rfl rfl ?_
      refine gM_0_17 (pc := 38) C wd_4_17 dX10_layRows_38 ?_
      refine sw_iload_n (pc := 41) C 2 dX10_layRows_41 rfl rfl ?_
      refine sw_aload_n (pc := 42) C 0 dX10_layRows_42 rfl rfl ?_
      refine gM_0_15 (pc := 43) C wd_4_16 dX10_layRows_43 ?_
      refine sw_iload_n (pc := 46) C 2 dX10_layRows_46 rfl rfl ?_
      obtain ⟨hi47, hJ⟩ := gd hJ
      refine lM_6 (pc := 47) C hi47 dX10_layRows_47 ?_
      obtain ⟨hi48, hJ⟩ := gd hJ
      refine tM_7 (pc := 48) C hi48 dX10_layRows_48 ?_
      refine sw_iinc (pc := 49) C 2 dX10_layRows_49 rfl (v := (v2 + (1 : Int32))) (congrArg (fun z => v2 + z) (by decide)) (by decide) (ll2 := [(2, .int (v2 + (1 : Int32))), (0, .ref (ad 0)), (1, .int v1)]) rfl ?_
      refine sw_goto (pc := 52) (tgt := 29) C dX10_layRows_52 (by decide) ?_
      exact sw_sub [1, 2, 0] (by rfl) (ih _ _ _ hJ)
set_option maxHeartbeats 4000000 in
set_option maxRecDepth 100000 in
theorem t_M_layRows_2 {p : Program} {l : Launch} {e : Env} {s : State} {m : MethodId} {args : Array Value} {below : List Frame} {meth : Method} {c : Code} {D : va_G} {cy : Nat → ClassId} {ad : Nat → Nat} {A : Nat → Prop} (C : Cx p s m args meth c D cy cX10_layRows 5 RX10 none A (wM cy ad)) {N : Nat} {r : St} : ∀ (n : Nat) (X : St) (v1 : Int32) (v2 : Int32), jM_layRows_2 N n X v1 v2 = some r → SW p l e ({ frames := 3, cells := 0, slots := 0, locals := 70 } : Room) s m args below meth c D 5 A (wM cy ad) (MQ below (poV D (wM cy ad) A r) args s 0 0 A) X [(0, .ref (ad 0)), (1, .int v1), (2, .int v2)] 2 [] := by
  intro n
  induction n with
  | zero => intro X v1 v2 hJ; exact absurd (show (none : Option (St)) = some r from hJ) (fun h => by cases h)
  | succ n ih =>
    intro X v1 v2 hJ
    rw [jM_layRows_2] at hJ
    refine sw_iload_n (pc := 2) C 2 dX10_layRows_2 rfl rfl ?_
    refine sw_sipush (pc := 3) C (v := (1000 : Int32)) dX10_layRows_3 (by decide) ?_
    refine sw_icmp_ge (pc := 6) (tgt := 22) C dX10_layRows_6 (by decide) (fun hb6 => ?_) (fun hb6 => ?_)
    · replace hJ := itep hb6 hJ
      refine sw_aload_n (pc := 22) C 0 dX10_layRows_22 rfl rfl ?_
      refine sw_iconst (pc := 23) C (v := (-1 : Int32)) dX10_layRows_23 (by decide) ?_
      refine pM_0_21 (pc := 24) C wd_26_11 dX10_layRows_24 ?_
      refine sw_iconst (pc := 27) C (v := (0 : Int32)) dX10_layRows_27 (by decide) ?_
      refine sw_istore_n (pc := 28) C dX10_layRows_28 rfl (by decide) (ll2 := [(2, .int (0 : Int32)), (0, .ref (ad 0)), (1, .int v1)]) rfl ?_
      exact sw_sub [1, 2, 0] (by rfl) (t_M_layRows_29 C _ _ _ _ hJ)
    · replace hJ := iten hb6 hJ
      refine sw_aload_n (pc := 9) C 0 dX10_layRows_9 rfl rfl ?_
      refine gM_0_22 (pc := 10) C wd_4_20 dX10_layRows_10 ?_
      refine sw_iload_n (pc := 13) C 2 dX10_layRows_13 rfl rfl ?_
      refine sw_iconst (pc := 14) C (v := (0 : Int32)) dX10_layRows_14 (by decide) ?_
      obtain ⟨hi15, hJ⟩ := gd hJ
      refine tM_9 (pc := 15) C hi15 (by decide) dX10_layRows_15 ?_
      refine sw_iinc (pc := 16) C 2 dX10_layRows_16 rfl (v := (v2 + (1 : Int32))) (congrArg (fun z => v2 + z) (by decide)) (by decide) (ll2 := [(2, .int (v2 + (1 : Int32))), (0, .ref (ad 0)), (1, .int v1)]) rfl ?_
      refine sw_goto (pc := 19) (tgt := 2) C dX10_layRows_19 (by decide) ?_
      exact sw_sub [1, 2, 0] (by rfl) (ih _ _ _ hJ)
set_option maxHeartbeats 4000000 in
set_option maxRecDepth 100000 in
theorem t_M_layRows {p : Program} {l : Launch} {e : Env} {s : State} {m : MethodId} {args : Array Value} {below : List Frame} {meth : Method} {c : Code} {D : va_G} {cy : Nat → ClassId} {ad : Nat → Nat} {A : Nat → Prop} (C : Cx p s m args meth c D cy cX10_layRows 5 RX10 none A (wM cy ad)) {N : Nat} {r : St} : ∀ (X : St) (a1 : Int32), jM_layRows N X a1 = some r → SW p l e ({ frames := 3, cells := 0, slots := 0, locals := 70 } : Room) s m args below meth c D 5 A (wM cy ad) (MQ below (poV D (wM cy ad) A r) args s 0 0 A) X [(0, .ref (ad 0)), (1, .int a1)] 0 [] := by
  intro X a1 hJ
  unfold jM_layRows at hJ
  refine sw_iconst (pc := 0) C (v := (0 : Int32)) dX10_layRows_0 (by decide) ?_
  refine sw_istore_n (pc := 1) C dX10_layRows_1 rfl (by decide) (ll2 := [(2, .int (0 : Int32)), (0, .ref (ad 0)), (1, .int a1)]) rfl ?_
  exact sw_sub [1, 2, 0] (by rfl) (t_M_layRows_2 C _ _ _ _ hJ)
set_option maxHeartbeats 4000000 in
set_option maxRecDepth 100000 in
theorem k_M_layRows {l : Launch} {D : va_G} {cy : Nat → ClassId} {ad : Nat → Nat} {A : Nat → Prop} (hD : ∀ X, va_D A (wM cy ad X)) {X : St} {N : Nat} {a1 : Int32} {r : St} (hJ : jM_layRows N X a1 = some r) : Met l yX10_layRows (wsY yX10_layRows cX10_layRows 5 none) ({ frames := 3, cells := 0, slots := 0, locals := 70 } : Room) (prX D cy (wM cy ad) X [.ref (ad 0), .int a1]) (poV D (wM cy ad) A r) 0 0 A := sw_met (by decide +kernel) (Nat.le_of_ble_eq_true rfl) hD (fun p e s m args below meth c C => t_M_layRows C _ _ hJ)
set_option maxHeartbeats 4000000 in
set_option maxRecDepth 100000 in
theorem t_M_isSet {p : Program} {l : Launch} {e : Env} {s : State} {m : MethodId} {args : Array Value} {below : List Frame} {meth : Method} {c : Code} {D : va_G} {cy : Nat → ClassId} {ad : Nat → Nat} {A : Nat → Prop} (C : Cx p s m args meth c D cy cX10_isSet 2 RX10 (some .boolean) A (wM cy ad)) {X : St} {r : Int32} : ∀ (a1 : Int32), jM_isSet X a1 = some r → SW p l e ({ frames := 1, cells := 0, slots := 0, locals := 25 } : Room) s m args below meth c D 2 A (wM cy ad) (MQ below (poI D (wM cy ad) A r X) args s 0 0 A) X [(0, .ref (ad 0)), (1, .int a1)] 0 [] := by
  intro a1 hJ
  unfold jM_isSet at hJ
  refine sw_iload_n (pc := 0) C 1 dX10_isSet_0 rfl rfl ?_
  refine sw_i2l (pc := 1) C dX10_isSet_1 ?_
  refine sw_lconst (pc := 2) C (v := (0 : Int64)) dX10_isSet_2 (by decide) ?_
  refine sw_iconst (pc := 3) C (v := (1 : Int32)) dX10_isSet_3 (by decide) ?_
  refine sw_aload_n (pc := 4) C 0 dX10_isSet_4 rfl rfl ?_
  refine gM_0_12 (pc := 5) C wd_14_18 dX10_isSet_5 ?_
  refine sw_ishl (pc := 8) C dX10_isSet_8 ?_
  refine sw_iconst (pc := 9) C (v := (1 : Int32)) dX10_isSet_9 (by decide) ?_
  refine sw_isub (pc := 10) C dX10_isSet_10 ?_
  refine sw_i2l (pc := 11) C dX10_isSet_11 ?_
  obtain ⟨q12, hq12, hJ⟩ := bind_some hJ
  refine sw_callS_i (pc := 12) C (st := []) (As := [.long a1.toInt64, .long (0 : Int64), .long (((1 : Int32) <<< ((sF X 12) &&& 31)) - (1 : Int32)).toInt64]) (k_M_in C.2.2.2.2.2.2.1 hq12) pk_X10_in wd_10_4 ⟨Nat.le_of_ble_eq_true rfl, Nat.le_of_ble_eq_true rfl⟩ ⟨rfl, rfl⟩ rfl rfl (Nat.le_of_ble_eq_true rfl) dX10_isSet_12 ?_
  obtain ⟨hz15, hJ⟩ := gd hJ
  obtain rfl := Option.some.inj hJ
  exact sw_zret (pc := 15) (v := q12) C hz15 dX10_isSet_15
set_option maxHeartbeats 4000000 in
set_option maxRecDepth 100000 in
theorem k_M_isSet {l : Launch} {D : va_G} {cy : Nat → ClassId} {ad : Nat → Nat} {A : Nat → Prop} (hD : ∀ X, va_D A (wM cy ad X)) {X : St} {a1 : Int32} {r : Int32} (hJ : jM_isSet X a1 = some r) : Met l yX10_isSet (wsY yX10_isSet cX10_isSet 2 (some .boolean)) ({ frames := 1, cells := 0, slots := 0, locals := 25 } : Room) (prX D cy (wM cy ad) X [.ref (ad 0), .int a1]) (poI D (wM cy ad) A r X) 0 0 A := sw_met (by decide +kernel) (Nat.le_of_ble_eq_true rfl) hD (fun p e s m args below meth c C => t_M_isSet C _ hJ)
set_option maxHeartbeats 4000000 in
set_option maxRecDepth 100000 in
theorem t_M_order {p : Program} {l : Launch} {e : Env} {s : State} {m : MethodId} {args : Array Value} {below : List Frame} {meth : Method} {c : Code} {D : va_G} {cy : Nat → ClassId} {ad : Nat → Nat} {A : Nat → Prop} (C : Cx p s m args meth c D cy cX10_order 3 RX10 (some .int) A (wM cy ad)) {N : Nat} {r : Int32 × St} : ∀ (X : St) (a1 : Int32) (a2 : Int32), jM_order N X a1 a2 = some r → SW p l e ({ frames := 4, cells := 0, slots := 0, locals := 94 } : Room) s m args below meth c D 3 A (wM cy ad) (MQ below (poI D (wM cy ad) A r.1 r.2) args s 0 0 A) X [(0, .ref (ad 0)), (1, .int a1), (2, .int a2)] 0 [] := by
  intro X a1 a2 hJ
  unfold jM_order at hJ
  refine sw_aload_n (pc := 0) C 0 dX10_order_0 rfl rfl ?_
  refine sw_iload_n (pc := 1) C 1 dX10_order_1 rfl rfl ?_
  obtain ⟨q2, hq2, hJ⟩ := bind_some hJ
  refine sw_callV_i (pc := 2) C (st := []) (As := [.int a1]) (k_M_isSet C.2.2.2.2.2.2.1 hq2) pk_X10_isSet wd_26_12 0 rfl rfl rfl ⟨Nat.le_of_ble_eq_true rfl, Nat.le_of_ble_eq_true rfl⟩ ⟨rfl, rfl⟩ rfl rfl (Nat.le_of_ble_eq_true rfl) dX10_order_2 ?_
  refine sw_if_eq (pc := 5) (tgt := 20) C dX10_order_5 (by decide) (fun hb5 => ?_) (fun hb5 => ?_)
  · replace hJ := itep hb5 hJ
    refine sw_bipush (pc := 20) C (v := (-102 : Int32)) dX10_order_20 (by decide) ?_
    obtain rfl := Option.some.inj hJ
    exact sw_iret (pc := 22) C dX10_order_22
  · replace hJ := iten hb5 hJ
    refine sw_iload_n (pc := 8) C 2 dX10_order_8 rfl rfl ?_
    refine sw_i2l (pc := 9) C dX10_order_9 ?_
    refine sw_lconst (pc := 10) C (v := (0 : Int64)) dX10_order_10 (by decide) ?_
    refine sw_ldc2 (pc := 11) C (v := (6 : Int64)) wd_10_2 dX10_order_11 ?_
    obtain ⟨q14, hq14, hJ⟩ := bind_some hJ
    refine sw_callS_i (pc := 14) C (st := []) (As := [.long a2.toInt64, .long (0 : Int64), .long (6 : Int64)]) (k_M_in C.2.2.2.2.2.2.1 hq14) pk_X10_in wd_10_4 ⟨Nat.le_of_ble_eq_true rfl, Nat.le_of_ble_eq_true rfl⟩ ⟨rfl, rfl⟩ rfl rfl (Nat.le_of_ble_eq_true rfl) dX10_order_14 ?_
    refine sw_if_ne (pc := 17) (tgt := 23) C dX10_order_17 (by decide) (fun hb17 => ?_) (fun hb17 => ?_)
    · replace hJ := iten hb17 hJ
      refine sw_aload_n (pc := 23) C 0 dX10_order_23 rfl rfl ?_
      refine gM_0_19 (pc := 24) C wd_26_10 dX10_order_24 ?_
      refine sw_bipush (pc := 27) C (v := (40 : Int32)) dX10_order_27 (by decide) ?_
      refine sw_icmp_ne (pc := 29) (tgt := 35) C dX10_order_29 (by decide) (fun hb29 => ?_) (fun hb29 => ?_)
      · replace hJ := iten hb29 hJ
        refine sw_aload_n (pc := 35) C 0 dX10_order_35 rfl rfl ?_
        refine sw_dup (pc := 36) C dX10_order_36 rfl ?_
        refine gM_0_19 (pc := 37) C wd_26_10 dX10_order_37 ?_
        refine sw_iconst (pc := 40) C (v := (1 : Int32)) dX10_order_40 (by decide) ?_
        refine sw_iadd (pc := 41) C dX10_order_41 ?_
        refine pM_0_19 (pc := 42) C wd_26_10 dX10_order_42 ?_
        refine sw_aload_n (pc := 45) C 0 dX10_order_45 rfl rfl ?_
        refine sw_iload_n (pc := 46) C 1 dX10_order_46 rfl rfl ?_
        obtain ⟨q47, hq47, hJ⟩ := bind_some hJ
        refine sw_callV_v (pc := 47) C (st := []) (As := [.int a1]) (k_M_layRows C.2.2.2.2.2.2.1 hq47) pk_X10_layRows wd_26_16 0 rfl rfl rfl ⟨Nat.le_of_ble_eq_true rfl, Nat.le_of_ble_eq_true rfl⟩ ⟨rfl, rfl⟩ rfl rfl (Nat.le_of_ble_eq_true rfl) dX10_order_47 ?_
        refine sw_iload_n (pc := 50) C 2 dX10_order_50 rfl rfl ?_
        refine sw_aload_n (pc := 51) C 0 dX10_order_51 rfl rfl ?_
        refine gM_0_21 (pc := 52) C wd_26_11 dX10_order_52 ?_
        refine sw_icmp_ge (pc := 55) (tgt := 67) C dX10_order_55 (by decide) (fun hb55 => ?_) (fun hb55 => ?_)
        · replace hJ := itep hb55 hJ
          refine sw_iconst (pc := 67) C (v := (-1 : Int32)) dX10_order_67 (by decide) ?_
          obtain rfl := Option.some.inj hJ
          exact sw_iret (pc := 68) C dX10_order_68
        · replace hJ := iten hb55 hJ
          refine sw_aload_n (pc := 58) C 0 dX10_order_58 rfl rfl ?_
          refine gM_0_20 (pc := 59) C wd_4_18 dX10_order_59 ?_
          refine sw_iload_n (pc := 62) C 2 dX10_order_62 rfl rfl ?_
          obtain ⟨hi63, hJ⟩ := gd hJ
          refine lM_8 (pc := 63) C hi63 dX10_order_63 ?_
          refine sw_goto (pc := 64) (tgt := 68) C dX10_order_64 (by decide) ?_
          obtain rfl := Option.some.inj hJ
          exact sw_iret (pc := 68) C dX10_order_68
      · replace hJ := itep hb29 hJ
        refine sw_bipush (pc := 32) C (v := (-103 : Int32)) dX10_order_32 (by decide) ?_
        obtain rfl := Option.some.inj hJ
        exact sw_iret (pc := 34) C dX10_order_34
    · replace hJ := itep hb17 hJ
      refine sw_bipush (pc := 20) C (v := (-102 : Int32)) dX10_order_20 (by decide) ?_
      obtain rfl := Option.some.inj hJ
      exact sw_iret (pc := 22) C dX10_order_22
set_option maxHeartbeats 4000000 in
set_option maxRecDepth 100000 in
theorem k_M_order {l : Launch} {D : va_G} {cy : Nat → ClassId} {ad : Nat → Nat} {A : Nat → Prop} (hD : ∀ X, va_D A (wM cy ad X)) {X : St} {N : Nat} {a1 : Int32} {a2 : Int32} {r : Int32 × St} (hJ : jM_order N X a1 a2 = some r) : Met l yX10_order (wsY yX10_order cX10_order 3 (some .int)) ({ frames := 4, cells := 0, slots := 0, locals := 94 } : Room) (prX D cy (wM cy ad) X [.ref (ad 0), .int a1, .int a2]) (poI D (wM cy ad) A r.1 r.2) 0 0 A := sw_met (by decide +kernel) (Nat.le_of_ble_eq_true rfl) hD (fun p e s m args below meth c C => t_M_order C _ _ _ hJ)
set_option maxHeartbeats 4000000 in
set_option maxRecDepth 100000 in
theorem t_M_laws_99 {p : Program} {l : Launch} {e : Env} {s : State} {m : MethodId} {args : Array Value} {below : List Frame} {meth : Method} {c : Code} {D : va_G} {cy : Nat → ClassId} {ad : Nat → Nat} {A : Nat → Prop} (C : Cx p s m args meth c D cy cX10_laws 6 RX10 (some .int) A (wM cy ad)) {N : Nat} {k56 : St → Int32 → Int32 → Int32 → Int32 → Option (Int32 × St)} {r : Int32 × St} (h56 : ∀ (X : St) (v2 : Int32) (v3 : Int32) (v4 : Int32) (v5 : Int32), k56 X v2 v3 v4 v5 = some r → SW p l e ({ frames := 4, cells := 0, slots := 0, locals := 94 } : Room) s m args below meth c D 6 A (wM cy ad) (MQ below (poI D (wM cy ad) A r.1 r.2) args s 0 0 A) X [(0, .ref (ad 0)), (2, .int v2), (3, .int v3), (4, .int v4), (5, .int v5)] 56 []) : ∀ (X : St) (v2 : Int32) (v3 : Int32) (v5 : Int32) (s0 : Int32), jM_laws_99 N k56 X v2 v3 v5 s0 = some r → SW p l e ({ frames := 4, cells := 0, slots := 0, locals := 94 } : Room) s m args below meth c D 6 A (wM cy ad) (MQ below (poI D (wM cy ad) A r.1 r.2) args s 0 0 A) X [(0, .ref (ad 0)), (2, .int v2), (3, .int v3), (5, .int v5)] 99 [.int s0] := by
  intro X v2 v3 v5 s0 hJ
  unfold jM_laws_99 at hJ
  refine sw_istore (pc := 99) C dX10_laws_99 (by decide) (ll2 := [(4, .int s0), (0, .ref (ad 0)), (2, .int v2), (3, .int v3), (5, .int v5)]) rfl ?_
  refine sw_iinc (pc := 101) C 4 dX10_laws_101 rfl (v := (v5 + (1 : Int32))) (congrArg (fun z => v5 + z) (by decide)) (by decide) (ll2 := [(5, .int (v5 + (1 : Int32))), (4, .int s0), (0, .ref (ad 0)), (2, .int v2), (3, .int v3)]) rfl ?_
  refine sw_goto (pc := 104) (tgt := 56) C dX10_laws_104 (by decide) ?_
  exact sw_sub [2, 3, 4, 1, 0] (by rfl) (h56 _ _ _ _ _ hJ)
set_option maxHeartbeats 4000000 in
set_option maxRecDepth 100000 in
theorem t_M_laws_80 {p : Program} {l : Launch} {e : Env} {s : State} {m : MethodId} {args : Array Value} {below : List Frame} {meth : Method} {c : Code} {D : va_G} {cy : Nat → ClassId} {ad : Nat → Nat} {A : Nat → Prop} (C : Cx p s m args meth c D cy cX10_laws 6 RX10 (some .int) A (wM cy ad)) {N : Nat} {k56 : St → Int32 → Int32 → Int32 → Int32 → Option (Int32 × St)} {r : Int32 × St} (h56 : ∀ (X : St) (v2 : Int32) (v3 : Int32) (v4 : Int32) (v5 : Int32), k56 X v2 v3 v4 v5 = some r → SW p l e ({ frames := 4, cells := 0, slots := 0, locals := 94 } : Room) s m args below meth c D 6 A (wM cy ad) (MQ below (poI D (wM cy ad) A r.1 r.2) args s 0 0 A) X [(0, .ref (ad 0)), (2, .int v2), (3, .int v3), (4, .int v4), (5, .int v5)] 56 []) : ∀ (X : St) (v2 : Int32) (v4 : Int32) (v5 : Int32) (s0 : Int32) (s1 : Int32), jM_laws_80 N k56 X v2 v4 v5 s0 s1 = some r → SW p l e ({ frames := 4, cells := 0, slots := 0, locals := 94 } : Room) s m args below meth c D 6 A (wM cy ad) (MQ below (poI D (wM cy ad) A r.1 r.2) args s 0 0 A) X [(0, .ref (ad 0)), (2, .int v2), (4, .int v4), (5, .int v5)] 80 [.int s1, .int s0] := by
  intro X v2 v4 v5 s0 s1 hJ
  unfold jM_laws_80 at hJ
  refine sw_iadd (pc := 80) C dX10_laws_80 ?_
  refine sw_istore_n (pc := 81) C dX10_laws_81 rfl (by decide) (ll2 := [(3, .int (s0 + s1)), (0, .ref (ad 0)), (2, .int v2), (4, .int v4), (5, .int v5)]) rfl ?_
  refine sw_aload_n (pc := 82) C 1 dX10_laws_82 rfl rfl ?_
  refine gM_0_22 (pc := 83) C wd_4_20 dX10_laws_83 ?_
  refine sw_iload (pc := 86) C 4 dX10_laws_86 rfl ?_
  obtain ⟨hi88, hJ⟩ := gd hJ
  refine lM_9 (pc := 88) C hi88 dX10_laws_88 ?_
  refine sw_if_eq (pc := 89) (tgt := 97) C dX10_laws_89 (by decide) (fun hb89 => ?_) (fun hb89 => ?_)
  · replace hJ := itep hb89 hJ
    refine sw_iload (pc := 97) C 3 dX10_laws_97 rfl ?_
    exact sw_sub [1, 2, 0, 4] (by rfl) (t_M_laws_99 C h56 _ _ _ _ _ hJ)
  · replace hJ := iten hb89 hJ
    refine sw_iload (pc := 92) C 4 dX10_laws_92 rfl ?_
    refine sw_goto (pc := 94) (tgt := 99) C dX10_laws_94 (by decide) ?_
    exact sw_sub [1, 2, 0, 4] (by rfl) (t_M_laws_99 C h56 _ _ _ _ _ hJ)
set_option maxHeartbeats 4000000 in
set_option maxRecDepth 100000 in
theorem t_M_laws_56 {p : Program} {l : Launch} {e : Env} {s : State} {m : MethodId} {args : Array Value} {below : List Frame} {meth : Method} {c : Code} {D : va_G} {cy : Nat → ClassId} {ad : Nat → Nat} {A : Nat → Prop} (C : Cx p s m args meth c D cy cX10_laws 6 RX10 (some .int) A (wM cy ad)) {N : Nat} {r : Int32 × St} : ∀ (n : Nat) (X : St) (v2 : Int32) (v3 : Int32) (v4 : Int32) (v5 : Int32), jM_laws_56 N n X v2 v3 v4 v5 = some r → SW p l e ({ frames := 4, cells := 0, slots := 0, locals := 94 } : Room) s m args below meth c D 6 A (wM cy ad) (MQ below (poI D (wM cy ad) A r.1 r.2) args s 0 0 A) X [(0, .ref (ad 0)), (2, .int v2), (3, .int v3), (4, .int v4), (5, .int v5)] 56 [] := by
  intro n
  induction n with
  | zero => intro X v2 v3 v4 v5 hJ; exact absurd (show (none : Option (Int32 × St)) = some r from hJ) (fun h => by cases h)
  | succ n ih =>
    intro X v2 v3 v4 v5 hJ
    rw [jM_laws_56] at hJ
    refine sw_iload (pc := 56) C 4 dX10_laws_56 rfl ?_
    refine sw_sipush (pc := 58) C (v := (1000 : Int32)) dX10_laws_58 (by decide) ?_
    refine sw_icmp_ge (pc := 61) (tgt := 107) C dX10_laws_61 (by decide) (fun hb61 => ?_) (fun hb61 => ?_)
    · replace hJ := itep hb61 hJ
      refine sw_iload_n (pc := 107) C 1 dX10_laws_107 rfl rfl ?_
      refine sw_if_ne (pc := 108) (tgt := 115) C dX10_laws_108 (by decide) (fun hb108 => ?_) (fun hb108 => ?_)
      · replace hJ := iten hb108 hJ
        refine sw_iload (pc := 115) C 3 dX10_laws_115 rfl ?_
        obtain rfl := Option.some.inj hJ
        exact sw_iret (pc := 117) C dX10_laws_117
      · replace hJ := itep hb108 hJ
        refine sw_iload_n (pc := 111) C 2 dX10_laws_111 rfl rfl ?_
        refine sw_goto (pc := 112) (tgt := 117) C dX10_laws_112 (by decide) ?_
        obtain rfl := Option.some.inj hJ
        exact sw_iret (pc := 117) C dX10_laws_117
    · replace hJ := iten hb61 hJ
      refine sw_iload_n (pc := 64) C 2 dX10_laws_64 rfl rfl ?_
      refine sw_aload_n (pc := 65) C 0 dX10_laws_65 rfl rfl ?_
      refine gM_0_22 (pc := 66) C wd_4_20 dX10_laws_66 ?_
      refine sw_iload (pc := 69) C 4 dX10_laws_69 rfl ?_
      obtain ⟨hi71, hJ⟩ := gd hJ
      refine lM_9 (pc := 71) C hi71 dX10_laws_71 ?_
      refine sw_if_eq (pc := 72) (tgt := 79) C dX10_laws_72 (by decide) (fun hb72 => ?_) (fun hb72 => ?_)
      · replace hJ := itep hb72 hJ
        refine sw_iconst (pc := 79) C (v := (0 : Int32)) dX10_laws_79 (by decide) ?_
        exact sw_sub [0, 1, 3, 4] (by rfl) (t_M_laws_80 C ih _ _ _ _ _ _ hJ)
      · replace hJ := iten hb72 hJ
        refine sw_iconst (pc := 75) C (v := (1 : Int32)) dX10_laws_75 (by decide) ?_
        refine sw_goto (pc := 76) (tgt := 80) C dX10_laws_76 (by decide) ?_
        exact sw_sub [0, 1, 3, 4] (by rfl) (t_M_laws_80 C ih _ _ _ _ _ _ hJ)
set_option maxHeartbeats 4000000 in
set_option maxRecDepth 100000 in
theorem t_M_laws {p : Program} {l : Launch} {e : Env} {s : State} {m : MethodId} {args : Array Value} {below : List Frame} {meth : Method} {c : Code} {D : va_G} {cy : Nat → ClassId} {ad : Nat → Nat} {A : Nat → Prop} (C : Cx p s m args meth c D cy cX10_laws 6 RX10 (some .int) A (wM cy ad)) {N : Nat} {r : Int32 × St} : ∀ (X : St) (a1 : Int32) (a2 : Int32), jM_laws N X a1 a2 = some r → SW p l e ({ frames := 4, cells := 0, slots := 0, locals := 94 } : Room) s m args below meth c D 6 A (wM cy ad) (MQ below (poI D (wM cy ad) A r.1 r.2) args s 0 0 A) X [(0, .ref (ad 0)), (1, .int a1), (2, .int a2)] 0 [] := by
  intro X a1 a2 hJ
  unfold jM_laws at hJ
  refine sw_aload_n (pc := 0) C 0 dX10_laws_0 rfl rfl ?_
  refine sw_iload_n (pc := 1) C 1 dX10_laws_1 rfl rfl ?_
  obtain ⟨q2, hq2, hJ⟩ := bind_some hJ
  refine sw_callV_i (pc := 2) C (st := []) (As := [.int a1]) (k_M_isSet C.2.2.2.2.2.2.1 hq2) pk_X10_isSet wd_26_12 0 rfl rfl rfl ⟨Nat.le_of_ble_eq_true rfl, Nat.le_of_ble_eq_true rfl⟩ ⟨rfl, rfl⟩ rfl rfl (Nat.le_of_ble_eq_true rfl) dX10_laws_2 ?_
  refine sw_if_eq (pc := 5) (tgt := 18) C dX10_laws_5 (by decide) (fun hb5 => ?_) (fun hb5 => ?_)
  · replace hJ := itep hb5 hJ
    refine sw_bipush (pc := 18) C (v := (-102 : Int32)) dX10_laws_18 (by decide) ?_
    obtain rfl := Option.some.inj hJ
    exact sw_iret (pc := 20) C dX10_laws_20
  · replace hJ := iten hb5 hJ
    refine sw_iload_n (pc := 8) C 2 dX10_laws_8 rfl rfl ?_
    refine sw_i2l (pc := 9) C dX10_laws_9 ?_
    refine sw_lconst (pc := 10) C (v := (0 : Int64)) dX10_laws_10 (by decide) ?_
    refine sw_lconst (pc := 11) C (v := (1 : Int64)) dX10_laws_11 (by decide) ?_
    obtain ⟨q12, hq12, hJ⟩ := bind_some hJ
    refine sw_callS_i (pc := 12) C (st := []) (As := [.long a2.toInt64, .long (0 : Int64), .long (1 : Int64)]) (k_M_in C.2.2.2.2.2.2.1 hq12) pk_X10_in wd_10_4 ⟨Nat.le_of_ble_eq_true rfl, Nat.le_of_ble_eq_true rfl⟩ ⟨rfl, rfl⟩ rfl rfl (Nat.le_of_ble_eq_true rfl) dX10_laws_12 ?_
    refine sw_if_ne (pc := 15) (tgt := 21) C dX10_laws_15 (by decide) (fun hb15 => ?_) (fun hb15 => ?_)
    · replace hJ := iten hb15 hJ
      refine sw_aload_n (pc := 21) C 0 dX10_laws_21 rfl rfl ?_
      refine gM_0_19 (pc := 22) C wd_26_10 dX10_laws_22 ?_
      refine sw_bipush (pc := 25) C (v := (40 : Int32)) dX10_laws_25 (by decide) ?_
      refine sw_icmp_ne (pc := 27) (tgt := 33) C dX10_laws_27 (by decide) (fun hb27 => ?_) (fun hb27 => ?_)
      · replace hJ := iten hb27 hJ
        refine sw_aload_n (pc := 33) C 0 dX10_laws_33 rfl rfl ?_
        refine sw_dup (pc := 34) C dX10_laws_34 rfl ?_
        refine gM_0_19 (pc := 35) C wd_26_10 dX10_laws_35 ?_
        refine sw_iconst (pc := 38) C (v := (1 : Int32)) dX10_laws_38 (by decide) ?_
        refine sw_iadd (pc := 39) C dX10_laws_39 ?_
        refine pM_0_19 (pc := 40) C wd_26_10 dX10_laws_40 ?_
        refine sw_aload_n (pc := 43) C 0 dX10_laws_43 rfl rfl ?_
        refine sw_iload_n (pc := 44) C 1 dX10_laws_44 rfl rfl ?_
        obtain ⟨q45, hq45, hJ⟩ := bind_some hJ
        refine sw_callV_v (pc := 45) C (st := []) (As := [.int a1]) (k_M_layRows C.2.2.2.2.2.2.1 hq45) pk_X10_layRows wd_26_16 0 rfl rfl rfl ⟨Nat.le_of_ble_eq_true rfl, Nat.le_of_ble_eq_true rfl⟩ ⟨rfl, rfl⟩ rfl rfl (Nat.le_of_ble_eq_true rfl) dX10_laws_45 ?_
        refine sw_iconst (pc := 48) C (v := (0 : Int32)) dX10_laws_48 (by decide) ?_
        refine sw_istore_n (pc := 49) C dX10_laws_49 rfl (by decide) (ll2 := [(3, .int (0 : Int32)), (0, .ref (ad 0)), (1, .int a1), (2, .int a2)]) rfl ?_
        refine sw_iconst (pc := 50) C (v := (-1 : Int32)) dX10_laws_50 (by decide) ?_
        refine sw_istore (pc := 51) C dX10_laws_51 (by decide) (ll2 := [(4, .int (-1 : Int32)), (3, .int (0 : Int32)), (0, .ref (ad 0)), (1, .int a1), (2, .int a2)]) rfl ?_
        refine sw_iconst (pc := 53) C (v := (0 : Int32)) dX10_laws_53 (by decide) ?_
        refine sw_istore (pc := 54) C dX10_laws_54 (by decide) (ll2 := [(5, .int (0 : Int32)), (4, .int (-1 : Int32)), (3, .int (0 : Int32)), (0, .ref (ad 0)), (1, .int a1), (2, .int a2)]) rfl ?_
        exact sw_sub [3, 5, 2, 1, 0] (by rfl) (t_M_laws_56 C _ _ _ _ _ _ hJ)
      · replace hJ := itep hb27 hJ
        refine sw_bipush (pc := 30) C (v := (-103 : Int32)) dX10_laws_30 (by decide) ?_
        obtain rfl := Option.some.inj hJ
        exact sw_iret (pc := 32) C dX10_laws_32
    · replace hJ := itep hb15 hJ
      refine sw_bipush (pc := 18) C (v := (-102 : Int32)) dX10_laws_18 (by decide) ?_
      obtain rfl := Option.some.inj hJ
      exact sw_iret (pc := 20) C dX10_laws_20
set_option maxHeartbeats 4000000 in
set_option maxRecDepth 100000 in
theorem k_M_laws {l : Launch} {D : va_G} {cy : Nat → ClassId} {ad : Nat → Nat} {A : Nat → Prop} (hD : ∀ X, va_D A (wM cy ad X)) {X : St} {N : Nat} {a1 : Int32} {a2 : Int32} {r : Int32 × St} (hJ : jM_laws N X a1 a2 = some r) : Met l yX10_laws (wsY yX10_laws cX10_laws 6 (some .int)) ({ frames := 4, cells := 0, slots := 0, locals := 94 } : Room) (prX D cy (wM cy ad) X [.ref (ad 0), .int a1, .int a2]) (poI D (wM cy ad) A r.1 r.2) 0 0 A := sw_met (by decide +kernel) (Nat.le_of_ble_eq_true rfl) hD (fun p e s m args below meth c C => t_M_laws C _ _ _ hJ)
set_option maxHeartbeats 4000000 in
set_option maxRecDepth 100000 in
theorem t_M_nextGets_107 {p : Program} {l : Launch} {e : Env} {s : State} {m : MethodId} {args : Array Value} {below : List Frame} {meth : Method} {c : Code} {D : va_G} {cy : Nat → ClassId} {ad : Nat → Nat} {A : Nat → Prop} (C : Cx p s m args meth c D cy cX10_nextGets 6 RX10 (some .boolean) A (wM cy ad)) {r : Int32 × St} : ∀ (n : Nat) (X : St) (v4 : Int32) (v5 : Int32), jM_nextGets_107 n X v4 v5 = some r → SW p l e ({ frames := 0, cells := 0, slots := 0, locals := 0 } : Room) s m args below meth c D 6 A (wM cy ad) (MQ below (poI D (wM cy ad) A r.1 r.2) args s 0 0 A) X [(0, .ref (ad 0)), (4, .int v4), (5, .int v5)] 107 [] := by
  intro n
  induction n with
  | zero => intro X v4 v5 hJ; exact absurd (show (none : Option (Int32 × St)) = some r from hJ) (fun h => by cases h)
  | succ n ih =>
    intro X v4 v5 hJ
    rw [jM_nextGets_107] at hJ
    refine sw_iload (pc := 107) C 2 dX10_nextGets_107 rfl ?_
    refine sw_iload (pc := 109) C 1 dX10_nextGets_109 rfl ?_
    refine sw_icmp_ge (pc := 111) (tgt := 153) C dX10_nextGets_111 (by decide) (fun hb111 => ?_) (fun hb111 => ?_)
    · replace hJ := itep hb111 hJ
      refine sw_iconst (pc := 153) C (v := (1 : Int32)) dX10_nextGets_153 (by decide) ?_
      obtain rfl := Option.some.inj hJ
      exact sw_zret (pc := 154) (v := (1 : Int32)) C (by decide) dX10_nextGets_154
    · replace hJ := iten hb111 hJ
      refine sw_aload_n (pc := 114) C 0 dX10_nextGets_114 rfl rfl ?_
      refine gM_0_24 (pc := 115) C wd_4_22 dX10_nextGets_115 ?_
      refine sw_iload (pc := 118) C 2 dX10_nextGets_118 rfl ?_
      obtain ⟨hi120, hJ⟩ := gd hJ
      refine lM_11 (pc := 120) C hi120 dX10_nextGets_120 ?_
      refine sw_istore_n (pc := 121) C dX10_nextGets_121 rfl (by decide) (ll2 := [(3, .int (sA X 11 v5.toNatClampNeg)), (0, .ref (ad 0)), (4, .int v4), (5, .int v5)]) rfl ?_
      refine sw_aload_n (pc := 122) C 1 dX10_nextGets_122 rfl rfl ?_
      refine gM_0_24 (pc := 123) C wd_4_22 dX10_nextGets_123 ?_
      refine sw_iload (pc := 126) C 3 dX10_nextGets_126 rfl ?_
      refine sw_aload_n (pc := 128) C 1 dX10_nextGets_128 rfl rfl ?_
      refine gM_0_24 (pc := 129) C wd_4_22 dX10_nextGets_129 ?_
      refine sw_iload (pc := 132) C 2 dX10_nextGets_132 rfl ?_
      obtain ⟨hi134, hJ⟩ := gd hJ
      refine lM_11 (pc := 134) C hi134 dX10_nextGets_134 ?_
      obtain ⟨hi135, hJ⟩ := gd hJ
      refine tM_11 (pc := 135) C hi135 dX10_nextGets_135 ?_
      refine sw_aload_n (pc := 136) C 1 dX10_nextGets_136 rfl rfl ?_
      refine gM_0_24 (pc := 137) C wd_4_22 dX10_nextGets_137 ?_
      refine sw_iload (pc := 140) C 2 dX10_nextGets_140 rfl ?_
      refine sw_iload_n (pc := 142) C 0 dX10_nextGets_142 rfl rfl ?_
      obtain ⟨hi143, hJ⟩ := gd hJ
      refine tM_11 (pc := 143) C hi143 dX10_nextGets_143 ?_
      refine sw_iinc (pc := 144) C 2 dX10_nextGets_144 rfl (v := (v4 + (-1 : Int32))) (congrArg (fun z => v4 + z) (by decide)) (by decide) (ll2 := [(4, .int (v4 + (-1 : Int32))), (3, .int (sA X 11 v5.toNatClampNeg)), (0, .ref (ad 0)), (5, .int v5)]) rfl ?_
      refine sw_iinc (pc := 147) C 3 dX10_nextGets_147 rfl (v := (v5 + (1 : Int32))) (congrArg (fun z => v5 + z) (by decide)) (by decide) (ll2 := [(5, .int (v5 + (1 : Int32))), (4, .int (v4 + (-1 : Int32))), (3, .int (sA X 11 v5.toNatClampNeg)), (0, .ref (ad 0))]) rfl ?_
      refine sw_goto (pc := 150) (tgt := 107) C dX10_nextGets_150 (by decide) ?_
      exact sw_sub [3, 1, 0] (by rfl) (ih _ _ _ hJ)
set_option maxHeartbeats 4000000 in
set_option maxRecDepth 100000 in
theorem t_M_nextGets_47 {p : Program} {l : Launch} {e : Env} {s : State} {m : MethodId} {args : Array Value} {below : List Frame} {meth : Method} {c : Code} {D : va_G} {cy : Nat → ClassId} {ad : Nat → Nat} {A : Nat → Prop} (C : Cx p s m args meth c D cy cX10_nextGets 6 RX10 (some .boolean) A (wM cy ad)) {r : Int32 × St} : ∀ (n : Nat) (X : St) (v1 : Int32) (v2 : Int32), jM_nextGets_47 n X v1 v2 = some r → SW p l e ({ frames := 0, cells := 0, slots := 0, locals := 0 } : Room) s m args below meth c D 6 A (wM cy ad) (MQ below (poI D (wM cy ad) A r.1 r.2) args s 0 0 A) X [(0, .ref (ad 0)), (1, .int v1), (2, .int v2)] 47 [] := by
  intro n
  induction n with
  | zero => intro X v1 v2 hJ; exact absurd (show (none : Option (Int32 × St)) = some r from hJ) (fun h => by cases h)
  | succ n ih =>
    intro X v1 v2 hJ
    rw [jM_nextGets_47] at hJ
    refine sw_aload_n (pc := 47) C 0 dX10_nextGets_47 rfl rfl ?_
    refine gM_0_24 (pc := 48) C wd_4_22 dX10_nextGets_48 ?_
    refine sw_iload_n (pc := 51) C 2 dX10_nextGets_51 rfl rfl ?_
    obtain ⟨hi52, hJ⟩ := gd hJ
    refine lM_11 (pc := 52) C hi52 dX10_nextGets_52 ?_
    refine sw_aload_n (pc := 53) C 0 dX10_nextGets_53 rfl rfl ?_
    refine gM_0_24 (pc := 54) C wd_4_22 dX10_nextGets_54 ?_
    refine sw_iload_n (pc := 57) C 1 dX10_nextGets_57 rfl rfl ?_
    obtain ⟨hi58, hJ⟩ := gd hJ
    refine lM_11 (pc := 58) C hi58 dX10_nextGets_58 ?_
    refine sw_icmp_ge (pc := 59) (tgt := 68) C dX10_nextGets_59 (by decide) (fun hb59 => ?_) (fun hb59 => ?_)
    · replace hJ := itep hb59 hJ
      refine sw_aload_n (pc := 68) C 0 dX10_nextGets_68 rfl rfl ?_
      refine gM_0_24 (pc := 69) C wd_4_22 dX10_nextGets_69 ?_
      refine sw_iload_n (pc := 72) C 1 dX10_nextGets_72 rfl rfl ?_
      obtain ⟨hi73, hJ⟩ := gd hJ
      refine lM_11 (pc := 73) C hi73 dX10_nextGets_73 ?_
      refine sw_istore_n (pc := 74) C dX10_nextGets_74 rfl (by decide) (ll2 := [(3, .int (sA X 11 v1.toNatClampNeg)), (0, .ref (ad 0)), (1, .int v1), (2, .int v2)]) rfl ?_
      refine sw_aload_n (pc := 75) C 1 dX10_nextGets_75 rfl rfl ?_
      refine gM_0_24 (pc := 76) C wd_4_22 dX10_nextGets_76 ?_
      refine sw_iload_n (pc := 79) C 2 dX10_nextGets_79 rfl rfl ?_
      refine sw_aload_n (pc := 80) C 1 dX10_nextGets_80 rfl rfl ?_
      refine gM_0_24 (pc := 81) C wd_4_22 dX10_nextGets_81 ?_
      refine sw_iload_n (pc := 84) C 3 dX10_nextGets_84 rfl rfl ?_
      obtain ⟨hi85, hJ⟩ := gd hJ
      refine lM_11 (pc := 85) C hi85 dX10_nextGets_85 ?_
      obtain ⟨hi86, hJ⟩ := gd hJ
      refine tM_11 (pc := 86) C hi86 dX10_nextGets_86 ?_
      refine sw_aload_n (pc := 87) C 1 dX10_nextGets_87 rfl rfl ?_
      refine gM_0_24 (pc := 88) C wd_4_22 dX10_nextGets_88 ?_
      refine sw_iload_n (pc := 91) C 3 dX10_nextGets_91 rfl rfl ?_
      refine sw_iload_n (pc := 92) C 0 dX10_nextGets_92 rfl rfl ?_
      obtain ⟨hi93, hJ⟩ := gd hJ
      refine tM_11 (pc := 93) C hi93 dX10_nextGets_93 ?_
      refine sw_aload_n (pc := 94) C 1 dX10_nextGets_94 rfl rfl ?_
      refine gM_0_14 (pc := 95) C wd_17_4 dX10_nextGets_95 ?_
      refine sw_iconst (pc := 98) C (v := (1 : Int32)) dX10_nextGets_98 (by decide) ?_
      refine sw_isub (pc := 99) C dX10_nextGets_99 ?_
      refine sw_istore (pc := 100) C dX10_nextGets_100 (by decide) (ll2 := [(4, .int ((sF (pA (pA X 11 v1.toNatClampNeg (sA X 11 v2.toNatClampNeg)) 11 v2.toNatClampNeg (sA X 11 v1.toNatClampNeg)) 14) - (1 : Int32))), (3, .int (sA X 11 v1.toNatClampNeg)), (0, .ref (ad 0)), (1, .int v1), (2, .int v2)]) rfl ?_
      refine sw_iload_n (pc := 102) C 3 dX10_nextGets_102 rfl rfl ?_
      refine sw_iconst (pc := 103) C (v := (1 : Int32)) dX10_nextGets_103 (by decide) ?_
      refine sw_iadd (pc := 104) C dX10_nextGets_104 ?_
      refine sw_istore (pc := 105) C dX10_nextGets_105 (by decide) (ll2 := [(5, .int (v1 + (1 : Int32))), (4, .int ((sF (pA (pA X 11 v1.toNatClampNeg (sA X 11 v2.toNatClampNeg)) 11 v2.toNatClampNeg (sA X 11 v1.toNatClampNeg)) 14) - (1 : Int32))), (3, .int (sA X 11 v1.toNatClampNeg)), (0, .ref (ad 0)), (1, .int v1), (2, .int v2)]) rfl ?_
      exact sw_sub [3, 1, 0] (by rfl) (t_M_nextGets_107 C _ _ _ _ hJ)
    · replace hJ := iten hb59 hJ
      refine sw_iinc (pc := 62) C 2 dX10_nextGets_62 rfl (v := (v2 + (-1 : Int32))) (congrArg (fun z => v2 + z) (by decide)) (by decide) (ll2 := [(2, .int (v2 + (-1 : Int32))), (0, .ref (ad 0)), (1, .int v1)]) rfl ?_
      refine sw_goto (pc := 65) (tgt := 47) C dX10_nextGets_65 (by decide) ?_
      exact sw_sub [1, 2, 0] (by rfl) (ih _ _ _ hJ)
set_option maxHeartbeats 4000000 in
set_option maxRecDepth 100000 in
theorem t_M_nextGets_34 {p : Program} {l : Launch} {e : Env} {s : State} {m : MethodId} {args : Array Value} {below : List Frame} {meth : Method} {c : Code} {D : va_G} {cy : Nat → ClassId} {ad : Nat → Nat} {A : Nat → Prop} (C : Cx p s m args meth c D cy cX10_nextGets 6 RX10 (some .boolean) A (wM cy ad)) {r : Int32 × St} : ∀ (X : St) (v1 : Int32), jM_nextGets_34 X v1 = some r → SW p l e ({ frames := 0, cells := 0, slots := 0, locals := 0 } : Room) s m args below meth c D 6 A (wM cy ad) (MQ below (poI D (wM cy ad) A r.1 r.2) args s 0 0 A) X [(0, .ref (ad 0)), (1, .int v1)] 34 [] := by
  intro X v1 hJ
  unfold jM_nextGets_34 at hJ
  refine sw_iload_n (pc := 34) C 1 dX10_nextGets_34 rfl rfl ?_
  refine sw_if_ge (pc := 35) (tgt := 40) C dX10_nextGets_35 (by decide) (fun hb35 => ?_) (fun hb35 => ?_)
  · replace hJ := itep hb35 hJ
    refine sw_aload_n (pc := 40) C 0 dX10_nextGets_40 rfl rfl ?_
    refine gM_0_14 (pc := 41) C wd_17_4 dX10_nextGets_41 ?_
    refine sw_iconst (pc := 44) C (v := (1 : Int32)) dX10_nextGets_44 (by decide) ?_
    refine sw_isub (pc := 45) C dX10_nextGets_45 ?_
    refine sw_istore_n (pc := 46) C dX10_nextGets_46 rfl (by decide) (ll2 := [(2, .int ((sF X 14) - (1 : Int32))), (0, .ref (ad 0)), (1, .int v1)]) rfl ?_
    exact sw_sub [1, 2, 0] (by rfl) (t_M_nextGets_47 C _ _ _ _ hJ)
  · replace hJ := iten hb35 hJ
    refine sw_iconst (pc := 38) C (v := (0 : Int32)) dX10_nextGets_38 (by decide) ?_
    obtain rfl := Option.some.inj hJ
    exact sw_zret (pc := 39) (v := (0 : Int32)) C (by decide) dX10_nextGets_39
set_option maxHeartbeats 4000000 in
set_option maxRecDepth 100000 in
theorem t_M_nextGets_7 {p : Program} {l : Launch} {e : Env} {s : State} {m : MethodId} {args : Array Value} {below : List Frame} {meth : Method} {c : Code} {D : va_G} {cy : Nat → ClassId} {ad : Nat → Nat} {A : Nat → Prop} (C : Cx p s m args meth c D cy cX10_nextGets 6 RX10 (some .boolean) A (wM cy ad)) {r : Int32 × St} : ∀ (n : Nat) (X : St) (v1 : Int32), jM_nextGets_7 n X v1 = some r → SW p l e ({ frames := 0, cells := 0, slots := 0, locals := 0 } : Room) s m args below meth c D 6 A (wM cy ad) (MQ below (poI D (wM cy ad) A r.1 r.2) args s 0 0 A) X [(0, .ref (ad 0)), (1, .int v1)] 7 [] := by
  intro n
  induction n with
  | zero => intro X v1 hJ; exact absurd (show (none : Option (Int32 × St)) = some r from hJ) (fun h => by cases h)
  | succ n ih =>
    intro X v1 hJ
    rw [jM_nextGets_7] at hJ
    refine sw_iload_n (pc := 7) C 1 dX10_nextGets_7 rfl rfl ?_
    refine sw_if_lt (pc := 8) (tgt := 34) C dX10_nextGets_8 (by decide) (fun hb8 => ?_) (fun hb8 => ?_)
    · replace hJ := itep hb8 hJ
      exact sw_sub [0, 1] (by rfl) (t_M_nextGets_34 C _ _ hJ)
    · replace hJ := iten hb8 hJ
      refine sw_aload_n (pc := 11) C 0 dX10_nextGets_11 rfl rfl ?_
      refine gM_0_24 (pc := 12) C wd_4_22 dX10_nextGets_12 ?_
      refine sw_iload_n (pc := 15) C 1 dX10_nextGets_15 rfl rfl ?_
      obtain ⟨hi16, hJ⟩ := gd hJ
      refine lM_11 (pc := 16) C hi16 dX10_nextGets_16 ?_
      refine sw_aload_n (pc := 17) C 0 dX10_nextGets_17 rfl rfl ?_
      refine gM_0_24 (pc := 18) C wd_4_22 dX10_nextGets_18 ?_
      refine sw_iload_n (pc := 21) C 1 dX10_nextGets_21 rfl rfl ?_
      refine sw_iconst (pc := 22) C (v := (1 : Int32)) dX10_nextGets_22 (by decide) ?_
      refine sw_iadd (pc := 23) C dX10_nextGets_23 ?_
      obtain ⟨hi24, hJ⟩ := gd hJ
      refine lM_11 (pc := 24) C hi24 dX10_nextGets_24 ?_
      refine sw_icmp_le (pc := 25) (tgt := 34) C dX10_nextGets_25 (by decide) (fun hb25 => ?_) (fun hb25 => ?_)
      · replace hJ := itep hb25 hJ
        exact sw_sub [0, 1] (by rfl) (t_M_nextGets_34 C _ _ hJ)
      · replace hJ := iten hb25 hJ
        refine sw_iinc (pc := 28) C 1 dX10_nextGets_28 rfl (v := (v1 + (-1 : Int32))) (congrArg (fun z => v1 + z) (by decide)) (by decide) (ll2 := [(1, .int (v1 + (-1 : Int32))), (0, .ref (ad 0))]) rfl ?_
        refine sw_goto (pc := 31) (tgt := 7) C dX10_nextGets_31 (by decide) ?_
        exact sw_sub [1, 0] (by rfl) (ih _ _ hJ)
set_option maxHeartbeats 4000000 in
set_option maxRecDepth 100000 in
theorem t_M_nextGets {p : Program} {l : Launch} {e : Env} {s : State} {m : MethodId} {args : Array Value} {below : List Frame} {meth : Method} {c : Code} {D : va_G} {cy : Nat → ClassId} {ad : Nat → Nat} {A : Nat → Prop} (C : Cx p s m args meth c D cy cX10_nextGets 6 RX10 (some .boolean) A (wM cy ad)) {r : Int32 × St} : ∀ (X : St), jM_nextGets X = some r → SW p l e ({ frames := 0, cells := 0, slots := 0, locals := 0 } : Room) s m args below meth c D 6 A (wM cy ad) (MQ below (poI D (wM cy ad) A r.1 r.2) args s 0 0 A) X [(0, .ref (ad 0))] 0 [] := by
  intro X hJ
  unfold jM_nextGets at hJ
  refine sw_aload_n (pc := 0) C 0 dX10_nextGets_0 rfl rfl ?_
  refine gM_0_14 (pc := 1) C wd_17_4 dX10_nextGets_1 ?_
  refine sw_iconst (pc := 4) C (v := (2 : Int32)) dX10_nextGets_4 (by decide) ?_
  refine sw_isub (pc := 5) C dX10_nextGets_5 ?_
  refine sw_istore_n (pc := 6) C dX10_nextGets_6 rfl (by decide) (ll2 := [(1, .int ((sF X 14) - (2 : Int32))), (0, .ref (ad 0))]) rfl ?_
  exact sw_sub [1, 0] (by rfl) (t_M_nextGets_7 C _ _ _ hJ)
set_option maxHeartbeats 4000000 in
set_option maxRecDepth 100000 in
theorem k_M_nextGets {l : Launch} {D : va_G} {cy : Nat → ClassId} {ad : Nat → Nat} {A : Nat → Prop} (hD : ∀ X, va_D A (wM cy ad X)) {X : St}  {r : Int32 × St} (hJ : jM_nextGets X = some r) : Met l yX10_nextGets (wsY yX10_nextGets cX10_nextGets 6 (some .boolean)) ({ frames := 0, cells := 0, slots := 0, locals := 0 } : Room) (prX D cy (wM cy ad) X [.ref (ad 0)]) (poI D (wM cy ad) A r.1 r.2) 0 0 A := sw_met (by decide +kernel) (Nat.le_of_ble_eq_true rfl) hD (fun p e s m args below meth c C => t_M_nextGets C _ hJ)
set_option maxHeartbeats 4000000 in
set_option maxRecDepth 100000 in
theorem t_M_changedOf_158 {p : Program} {l : Launch} {e : Env} {s : State} {m : MethodId} {args : Array Value} {below : List Frame} {meth : Method} {c : Code} {D : va_G} {cy : Nat → ClassId} {ad : Nat → Nat} {A : Nat → Prop} (C : Cx p s m args meth c D cy cX10_changedOf 7 RX10 (some .int) A (wM cy ad)) {N : Nat} {k37 : St → Int32 → Int32 → Option (Int32 × St)} {r : Int32 × St} (h37 : ∀ (X : St) (v1 : Int32) (v2 : Int32), k37 X v1 v2 = some r → SW p l e ({ frames := 2, cells := 0, slots := 0, locals := 46 } : Room) s m args below meth c D 7 A (wM cy ad) (MQ below (poI D (wM cy ad) A r.1 r.2) args s 0 0 A) X [(0, .ref (ad 0)), (1, .int v1), (2, .int v2)] 37 []) : ∀ (X : St) (s0 : Int32), jM_changedOf_158 N k37 X s0 = some r → SW p l e ({ frames := 2, cells := 0, slots := 0, locals := 46 } : Room) s m args below meth c D 7 A (wM cy ad) (MQ below (poI D (wM cy ad) A r.1 r.2) args s 0 0 A) X [(0, .ref (ad 0))] 158 [.int s0] := by
  intro X s0 hJ
  unfold jM_changedOf_158 at hJ
  refine sw_istore_n (pc := 158) C dX10_changedOf_158 rfl (by decide) (ll2 := [(1, .int s0), (0, .ref (ad 0))]) rfl ?_
  refine sw_aload_n (pc := 159) C 1 dX10_changedOf_159 rfl rfl ?_
  obtain ⟨q160, hq160, hJ⟩ := bind_some hJ
  refine sw_callV_i (pc := 160) C (st := []) (As := []) (k_M_nextGets C.2.2.2.2.2.2.1 hq160) pk_X10_nextGets wd_29_22 0 rfl rfl rfl ⟨Nat.le_of_ble_eq_true rfl, Nat.le_of_ble_eq_true rfl⟩ ⟨rfl, rfl⟩ rfl rfl (Nat.le_of_ble_eq_true rfl) dX10_changedOf_160 ?_
  refine sw_istore_n (pc := 163) C dX10_changedOf_163 rfl (by decide) (ll2 := [(2, .int q160.1), (1, .int s0), (0, .ref (ad 0))]) rfl ?_
  refine sw_goto (pc := 164) (tgt := 37) C dX10_changedOf_164 (by decide) ?_
  exact sw_sub [2, 1, 0] (by rfl) (h37 _ _ _ hJ)
set_option maxHeartbeats 4000000 in
set_option maxRecDepth 100000 in
theorem t_M_changedOf_141 {p : Program} {l : Launch} {e : Env} {s : State} {m : MethodId} {args : Array Value} {below : List Frame} {meth : Method} {c : Code} {D : va_G} {cy : Nat → ClassId} {ad : Nat → Nat} {A : Nat → Prop} (C : Cx p s m args meth c D cy cX10_changedOf 7 RX10 (some .int) A (wM cy ad)) {N : Nat} {k37 : St → Int32 → Int32 → Option (Int32 × St)} {k47 : St → Int32 → Int32 → Int32 → Option (Int32 × St)} {r : Int32 × St} (h37 : ∀ (X : St) (v1 : Int32) (v2 : Int32), k37 X v1 v2 = some r → SW p l e ({ frames := 2, cells := 0, slots := 0, locals := 46 } : Room) s m args below meth c D 7 A (wM cy ad) (MQ below (poI D (wM cy ad) A r.1 r.2) args s 0 0 A) X [(0, .ref (ad 0)), (1, .int v1), (2, .int v2)] 37 []) (h47 : ∀ (X : St) (v1 : Int32) (v3 : Int32) (v4 : Int32), k47 X v1 v3 v4 = some r → SW p l e ({ frames := 2, cells := 0, slots := 0, locals := 46 } : Room) s m args below meth c D 7 A (wM cy ad) (MQ below (poI D (wM cy ad) A r.1 r.2) args s 0 0 A) X [(0, .ref (ad 0)), (1, .int v1), (3, .int v3), (4, .int v4)] 47 []) : ∀ (X : St) (v1 : Int32) (v4 : Int32) (s0 : Int32), jM_changedOf_141 N k37 k47 X v1 v4 s0 = some r → SW p l e ({ frames := 2, cells := 0, slots := 0, locals := 46 } : Room) s m args below meth c D 7 A (wM cy ad) (MQ below (poI D (wM cy ad) A r.1 r.2) args s 0 0 A) X [(0, .ref (ad 0)), (1, .int v1), (4, .int v4)] 141 [.int s0] := by
  intro X v1 v4 s0 hJ
  unfold jM_changedOf_141 at hJ
  refine sw_istore_n (pc := 141) C dX10_changedOf_141 rfl (by decide) (ll2 := [(3, .int s0), (0, .ref (ad 0)), (1, .int v1), (4, .int v4)]) rfl ?_
  refine sw_iinc (pc := 142) C 3 dX10_changedOf_142 rfl (v := (v4 + (1 : Int32))) (congrArg (fun z => v4 + z) (by decide)) (by decide) (ll2 := [(4, .int (v4 + (1 : Int32))), (3, .int s0), (0, .ref (ad 0)), (1, .int v1)]) rfl ?_
  refine sw_goto (pc := 145) (tgt := 47) C dX10_changedOf_145 (by decide) ?_
  exact sw_sub [2, 3, 1, 0] (by rfl) (h47 _ _ _ _ hJ)
set_option maxHeartbeats 4000000 in
set_option maxRecDepth 100000 in
theorem t_M_changedOf_47 {p : Program} {l : Launch} {e : Env} {s : State} {m : MethodId} {args : Array Value} {below : List Frame} {meth : Method} {c : Code} {D : va_G} {cy : Nat → ClassId} {ad : Nat → Nat} {A : Nat → Prop} (C : Cx p s m args meth c D cy cX10_changedOf 7 RX10 (some .int) A (wM cy ad)) {N : Nat} {k37 : St → Int32 → Int32 → Option (Int32 × St)} {r : Int32 × St} (h37 : ∀ (X : St) (v1 : Int32) (v2 : Int32), k37 X v1 v2 = some r → SW p l e ({ frames := 2, cells := 0, slots := 0, locals := 46 } : Room) s m args below meth c D 7 A (wM cy ad) (MQ below (poI D (wM cy ad) A r.1 r.2) args s 0 0 A) X [(0, .ref (ad 0)), (1, .int v1), (2, .int v2)] 37 []) : ∀ (n : Nat) (X : St) (v1 : Int32) (v3 : Int32) (v4 : Int32), jM_changedOf_47 N k37 n X v1 v3 v4 = some r → SW p l e ({ frames := 2, cells := 0, slots := 0, locals := 46 } : Room) s m args below meth c D 7 A (wM cy ad) (MQ below (poI D (wM cy ad) A r.1 r.2) args s 0 0 A) X [(0, .ref (ad 0)), (1, .int v1), (3, .int v3), (4, .int v4)] 47 [] := by
  intro n
  induction n with
  | zero => intro X v1 v3 v4 hJ; exact absurd (show (none : Option (Int32 × St)) = some r from hJ) (fun h => by cases h)
  | succ n ih =>
    intro X v1 v3 v4 hJ
    rw [jM_changedOf_47] at hJ
    refine sw_iload (pc := 47) C 3 dX10_changedOf_47 rfl ?_
    refine sw_aload_n (pc := 49) C 0 dX10_changedOf_49 rfl rfl ?_
    refine gM_0_14 (pc := 50) C wd_17_4 dX10_changedOf_50 ?_
    refine sw_icmp_ge (pc := 53) (tgt := 148) C dX10_changedOf_53 (by decide) (fun hb53 => ?_) (fun hb53 => ?_)
    · replace hJ := itep hb53 hJ
      refine sw_iload_n (pc := 148) C 2 dX10_changedOf_148 rfl rfl ?_
      refine sw_iload_n (pc := 149) C 1 dX10_changedOf_149 rfl rfl ?_
      refine sw_icmp_le (pc := 150) (tgt := 157) C dX10_changedOf_150 (by decide) (fun hb150 => ?_) (fun hb150 => ?_)
      · replace hJ := itep hb150 hJ
        refine sw_iload_n (pc := 157) C 1 dX10_changedOf_157 rfl rfl ?_
        exact sw_sub [0] (by rfl) (t_M_changedOf_158 C h37 _ _ hJ)
      · replace hJ := iten hb150 hJ
        refine sw_iload_n (pc := 153) C 2 dX10_changedOf_153 rfl rfl ?_
        refine sw_goto (pc := 154) (tgt := 158) C dX10_changedOf_154 (by decide) ?_
        exact sw_sub [0] (by rfl) (t_M_changedOf_158 C h37 _ _ hJ)
    · replace hJ := iten hb53 hJ
      refine sw_aload_n (pc := 56) C 0 dX10_changedOf_56 rfl rfl ?_
      refine gM_0_13 (pc := 57) C wd_4_15 dX10_changedOf_57 ?_
      refine sw_bipush (pc := 60) C (v := (8 : Int32)) dX10_changedOf_60 (by decide) ?_
      refine sw_aload_n (pc := 62) C 0 dX10_changedOf_62 rfl rfl ?_
      refine gM_0_15 (pc := 63) C wd_4_16 dX10_changedOf_63 ?_
      refine sw_iload (pc := 66) C 3 dX10_changedOf_66 rfl ?_
      obtain ⟨hi68, hJ⟩ := gd hJ
      refine lM_6 (pc := 68) C hi68 dX10_changedOf_68 ?_
      refine sw_imul (pc := 69) C dX10_changedOf_69 ?_
      refine sw_iconst (pc := 70) C (v := (4 : Int32)) dX10_changedOf_70 (by decide) ?_
      refine sw_iadd (pc := 71) C dX10_changedOf_71 ?_
      obtain ⟨hi72, hJ⟩ := gd hJ
      refine lM_5 (pc := 72) C hi72 dX10_changedOf_72 ?_
      refine sw_istore (pc := 73) C dX10_changedOf_73 (by decide) (ll2 := [(5, .int (sA X 5 (((8 : Int32) * (sA X 6 v4.toNatClampNeg)) + (4 : Int32)).toNatClampNeg)), (0, .ref (ad 0)), (1, .int v1), (3, .int v3), (4, .int v4)]) rfl ?_
      refine sw_aload_n (pc := 75) C 1 dX10_changedOf_75 rfl rfl ?_
      refine sw_aload_n (pc := 76) C 1 dX10_changedOf_76 rfl rfl ?_
      refine gM_0_15 (pc := 77) C wd_4_16 dX10_changedOf_77 ?_
      refine sw_iload (pc := 80) C 4 dX10_changedOf_80 rfl ?_
      obtain ⟨hi82, hJ⟩ := gd hJ
      refine lM_6 (pc := 82) C hi82 dX10_changedOf_82 ?_
      obtain ⟨q83, hq83, hJ⟩ := bind_some hJ
      refine sw_callV_i (pc := 83) C (st := []) (As := [.int (sA X 6 v4.toNatClampNeg)]) (k_M_canBear C.2.2.2.2.2.2.1 hq83) pk_X10_canBear wd_17_13 0 rfl rfl rfl ⟨Nat.le_of_ble_eq_true rfl, Nat.le_of_ble_eq_true rfl⟩ ⟨rfl, rfl⟩ rfl rfl (Nat.le_of_ble_eq_true rfl) dX10_changedOf_83 ?_
      refine sw_iload (pc := 86) C 0 dX10_changedOf_86 rfl ?_
      refine sw_isub (pc := 88) C dX10_changedOf_88 ?_
      refine sw_aload_n (pc := 89) C 1 dX10_changedOf_89 rfl rfl ?_
      refine gM_0_13 (pc := 90) C wd_4_15 dX10_changedOf_90 ?_
      refine sw_bipush (pc := 93) C (v := (8 : Int32)) dX10_changedOf_93 (by decide) ?_
      refine sw_aload_n (pc := 95) C 1 dX10_changedOf_95 rfl rfl ?_
      refine gM_0_15 (pc := 96) C wd_4_16 dX10_changedOf_96 ?_
      refine sw_aload_n (pc := 99) C 1 dX10_changedOf_99 rfl rfl ?_
      refine gM_0_24 (pc := 100) C wd_4_22 dX10_changedOf_100 ?_
      refine sw_iload (pc := 103) C 4 dX10_changedOf_103 rfl ?_
      obtain ⟨hi105, hJ⟩ := gd hJ
      refine lM_11 (pc := 105) C hi105 dX10_changedOf_105 ?_
      obtain ⟨hi106, hJ⟩ := gd hJ
      refine lM_6 (pc := 106) C hi106 dX10_changedOf_106 ?_
      refine sw_imul (pc := 107) C dX10_changedOf_107 ?_
      refine sw_iconst (pc := 108) C (v := (4 : Int32)) dX10_changedOf_108 (by decide) ?_
      refine sw_iadd (pc := 109) C dX10_changedOf_109 ?_
      obtain ⟨hi110, hJ⟩ := gd hJ
      refine lM_5 (pc := 110) C hi110 dX10_changedOf_110 ?_
      refine sw_iadd (pc := 111) C dX10_changedOf_111 ?_
      refine sw_aload_n (pc := 112) C 1 dX10_changedOf_112 rfl rfl ?_
      refine sw_aload_n (pc := 113) C 1 dX10_changedOf_113 rfl rfl ?_
      refine gM_0_15 (pc := 114) C wd_4_16 dX10_changedOf_114 ?_
      refine sw_aload_n (pc := 117) C 1 dX10_changedOf_117 rfl rfl ?_
      refine gM_0_14 (pc := 118) C wd_17_4 dX10_changedOf_118 ?_
      refine sw_iload (pc := 121) C 4 dX10_changedOf_121 rfl ?_
      obtain ⟨q123, hq123, hJ⟩ := bind_some hJ
      refine sw_callV_i (pc := 123) C (st := [.int ((q83 - (sA X 5 (((8 : Int32) * (sA X 6 v4.toNatClampNeg)) + (4 : Int32)).toNatClampNeg)) + (sA X 5 (((8 : Int32) * (sA X 6 (sA X 11 v4.toNatClampNeg).toNatClampNeg)) + (4 : Int32)).toNatClampNeg))]) (As := [.ref (ad 6), .int (sF X 14), .int v4]) (k_M_bears C.2.2.2.2.2.2.1 a7_6 hq123) pk_X10_bears wd_17_17 0 rfl rfl rfl ⟨Nat.le_of_ble_eq_true rfl, Nat.le_of_ble_eq_true rfl⟩ ⟨rfl, rfl⟩ rfl rfl (Nat.le_of_ble_eq_true rfl) dX10_changedOf_123 ?_
      refine sw_isub (pc := 126) C dX10_changedOf_126 ?_
      refine sw_istore (pc := 127) C dX10_changedOf_127 (by decide) (ll2 := [(6, .int (((q83 - (sA X 5 (((8 : Int32) * (sA X 6 v4.toNatClampNeg)) + (4 : Int32)).toNatClampNeg)) + (sA X 5 (((8 : Int32) * (sA X 6 (sA X 11 v4.toNatClampNeg).toNatClampNeg)) + (4 : Int32)).toNatClampNeg)) - q123)), (5, .int (sA X 5 (((8 : Int32) * (sA X 6 v4.toNatClampNeg)) + (4 : Int32)).toNatClampNeg)), (0, .ref (ad 0)), (1, .int v1), (3, .int v3), (4, .int v4)]) rfl ?_
      refine sw_iload (pc := 129) C 0 dX10_changedOf_129 rfl ?_
      refine sw_iload_n (pc := 131) C 4 dX10_changedOf_131 rfl rfl ?_
      refine sw_icmp_ge (pc := 132) (tgt := 140) C dX10_changedOf_132 (by decide) (fun hb132 => ?_) (fun hb132 => ?_)
      · replace hJ := itep hb132 hJ
        refine sw_iload_n (pc := 140) C 4 dX10_changedOf_140 rfl rfl ?_
        exact sw_sub [2, 3, 5] (by rfl) (t_M_changedOf_141 C h37 ih _ _ _ _ hJ)
      · replace hJ := iten hb132 hJ
        refine sw_iload (pc := 135) C 0 dX10_changedOf_135 rfl ?_
        refine sw_goto (pc := 137) (tgt := 141) C dX10_changedOf_137 (by decide) ?_
        exact sw_sub [2, 3, 5] (by rfl) (t_M_changedOf_141 C h37 ih _ _ _ _ hJ)
set_option maxHeartbeats 4000000 in
set_option maxRecDepth 100000 in
theorem t_M_changedOf_37 {p : Program} {l : Launch} {e : Env} {s : State} {m : MethodId} {args : Array Value} {below : List Frame} {meth : Method} {c : Code} {D : va_G} {cy : Nat → ClassId} {ad : Nat → Nat} {A : Nat → Prop} (C : Cx p s m args meth c D cy cX10_changedOf 7 RX10 (some .int) A (wM cy ad)) {N : Nat} {r : Int32 × St} : ∀ (n : Nat) (X : St) (v1 : Int32) (v2 : Int32), jM_changedOf_37 N n X v1 v2 = some r → SW p l e ({ frames := 2, cells := 0, slots := 0, locals := 46 } : Room) s m args below meth c D 7 A (wM cy ad) (MQ below (poI D (wM cy ad) A r.1 r.2) args s 0 0 A) X [(0, .ref (ad 0)), (1, .int v1), (2, .int v2)] 37 [] := by
  intro n
  induction n with
  | zero => intro X v1 v2 hJ; exact absurd (show (none : Option (Int32 × St)) = some r from hJ) (fun h => by cases h)
  | succ n ih =>
    intro X v1 v2 hJ
    rw [jM_changedOf_37] at hJ
    refine sw_iload_n (pc := 37) C 2 dX10_changedOf_37 rfl rfl ?_
    refine sw_if_eq (pc := 38) (tgt := 167) C dX10_changedOf_38 (by decide) (fun hb38 => ?_) (fun hb38 => ?_)
    · replace hJ := itep hb38 hJ
      refine sw_aload_n (pc := 167) C 0 dX10_changedOf_167 rfl rfl ?_
      refine gM_0_14 (pc := 168) C wd_17_4 dX10_changedOf_168 ?_
      refine sw_if_ne (pc := 171) (tgt := 178) C dX10_changedOf_171 (by decide) (fun hb171 => ?_) (fun hb171 => ?_)
      · replace hJ := iten hb171 hJ
        refine sw_iload_n (pc := 178) C 1 dX10_changedOf_178 rfl rfl ?_
        obtain rfl := Option.some.inj hJ
        exact sw_iret (pc := 179) C dX10_changedOf_179
      · replace hJ := itep hb171 hJ
        refine sw_iconst (pc := 174) C (v := (-1 : Int32)) dX10_changedOf_174 (by decide) ?_
        refine sw_goto (pc := 175) (tgt := 179) C dX10_changedOf_175 (by decide) ?_
        obtain rfl := Option.some.inj hJ
        exact sw_iret (pc := 179) C dX10_changedOf_179
    · replace hJ := iten hb38 hJ
      refine sw_ldc (pc := 41) C (v := (100000 : Int32)) wd_29_21 dX10_changedOf_41 ?_
      refine sw_istore_n (pc := 43) C dX10_changedOf_43 rfl (by decide) (ll2 := [(3, .int (100000 : Int32)), (0, .ref (ad 0)), (1, .int v1), (2, .int v2)]) rfl ?_
      refine sw_iconst (pc := 44) C (v := (0 : Int32)) dX10_changedOf_44 (by decide) ?_
      refine sw_istore (pc := 45) C dX10_changedOf_45 (by decide) (ll2 := [(4, .int (0 : Int32)), (3, .int (100000 : Int32)), (0, .ref (ad 0)), (1, .int v1), (2, .int v2)]) rfl ?_
      exact sw_sub [2, 3, 1, 0] (by rfl) (t_M_changedOf_47 C ih _ _ _ _ _ hJ)
set_option maxHeartbeats 4000000 in
set_option maxRecDepth 100000 in
theorem t_M_changedOf_36 {p : Program} {l : Launch} {e : Env} {s : State} {m : MethodId} {args : Array Value} {below : List Frame} {meth : Method} {c : Code} {D : va_G} {cy : Nat → ClassId} {ad : Nat → Nat} {A : Nat → Prop} (C : Cx p s m args meth c D cy cX10_changedOf 7 RX10 (some .int) A (wM cy ad)) {N : Nat} {r : Int32 × St} : ∀ (X : St) (v1 : Int32) (s0 : Int32), jM_changedOf_36 N X v1 s0 = some r → SW p l e ({ frames := 2, cells := 0, slots := 0, locals := 46 } : Room) s m args below meth c D 7 A (wM cy ad) (MQ below (poI D (wM cy ad) A r.1 r.2) args s 0 0 A) X [(0, .ref (ad 0)), (1, .int v1)] 36 [.int s0] := by
  intro X v1 s0 hJ
  unfold jM_changedOf_36 at hJ
  refine sw_istore_n (pc := 36) C dX10_changedOf_36 rfl (by decide) (ll2 := [(2, .int s0), (0, .ref (ad 0)), (1, .int v1)]) rfl ?_
  exact sw_sub [1, 2, 0] (by rfl) (t_M_changedOf_37 C _ _ _ _ hJ)
set_option maxHeartbeats 4000000 in
set_option maxRecDepth 100000 in
theorem t_M_changedOf_2 {p : Program} {l : Launch} {e : Env} {s : State} {m : MethodId} {args : Array Value} {below : List Frame} {meth : Method} {c : Code} {D : va_G} {cy : Nat → ClassId} {ad : Nat → Nat} {A : Nat → Prop} (C : Cx p s m args meth c D cy cX10_changedOf 7 RX10 (some .int) A (wM cy ad)) {N : Nat} {r : Int32 × St} : ∀ (n : Nat) (X : St) (v1 : Int32), jM_changedOf_2 N n X v1 = some r → SW p l e ({ frames := 2, cells := 0, slots := 0, locals := 46 } : Room) s m args below meth c D 7 A (wM cy ad) (MQ below (poI D (wM cy ad) A r.1 r.2) args s 0 0 A) X [(0, .ref (ad 0)), (1, .int v1)] 2 [] := by
  intro n
  induction n with
  | zero => intro X v1 hJ; exact absurd (show (none : Option (Int32 × St)) = some r from hJ) (fun h => by cases h)
  | succ n ih =>
    intro X v1 hJ
    rw [jM_changedOf_2] at hJ
    refine sw_iload_n (pc := 2) C 1 dX10_changedOf_2 rfl rfl ?_
    refine sw_bipush (pc := 3) C (v := (7 : Int32)) dX10_changedOf_3 (by decide) ?_
    refine sw_icmp_ge (pc := 5) (tgt := 21) C dX10_changedOf_5 (by decide) (fun hb5 => ?_) (fun hb5 => ?_)
    · replace hJ := itep hb5 hJ
      refine sw_ldc (pc := 21) C (v := (-100000 : Int32)) wd_29_20 dX10_changedOf_21 ?_
      refine sw_istore_n (pc := 23) C dX10_changedOf_23 rfl (by decide) (ll2 := [(1, .int (-100000 : Int32)), (0, .ref (ad 0))]) rfl ?_
      refine sw_aload_n (pc := 24) C 1 dX10_changedOf_24 rfl rfl ?_
      refine gM_0_14 (pc := 25) C wd_17_4 dX10_changedOf_25 ?_
      refine sw_if_le (pc := 28) (tgt := 35) C dX10_changedOf_28 (by decide) (fun hb28 => ?_) (fun hb28 => ?_)
      · replace hJ := itep hb28 hJ
        refine sw_iconst (pc := 35) C (v := (0 : Int32)) dX10_changedOf_35 (by decide) ?_
        exact sw_sub [1, 0] (by rfl) (t_M_changedOf_36 C _ _ _ hJ)
      · replace hJ := iten hb28 hJ
        refine sw_iconst (pc := 31) C (v := (1 : Int32)) dX10_changedOf_31 (by decide) ?_
        refine sw_goto (pc := 32) (tgt := 36) C dX10_changedOf_32 (by decide) ?_
        exact sw_sub [1, 0] (by rfl) (t_M_changedOf_36 C _ _ _ hJ)
    · replace hJ := iten hb5 hJ
      refine sw_aload_n (pc := 8) C 0 dX10_changedOf_8 rfl rfl ?_
      refine gM_0_24 (pc := 9) C wd_4_22 dX10_changedOf_9 ?_
      refine sw_iload_n (pc := 12) C 1 dX10_changedOf_12 rfl rfl ?_
      refine sw_iload_n (pc := 13) C 1 dX10_changedOf_13 rfl rfl ?_
      obtain ⟨hi14, hJ⟩ := gd hJ
      refine tM_11 (pc := 14) C hi14 dX10_changedOf_14 ?_
      refine sw_iinc (pc := 15) C 1 dX10_changedOf_15 rfl (v := (v1 + (1 : Int32))) (congrArg (fun z => v1 + z) (by decide)) (by decide) (ll2 := [(1, .int (v1 + (1 : Int32))), (0, .ref (ad 0))]) rfl ?_
      refine sw_goto (pc := 18) (tgt := 2) C dX10_changedOf_18 (by decide) ?_
      exact sw_sub [1, 0] (by rfl) (ih _ _ hJ)
set_option maxHeartbeats 4000000 in
set_option maxRecDepth 100000 in
theorem t_M_changedOf {p : Program} {l : Launch} {e : Env} {s : State} {m : MethodId} {args : Array Value} {below : List Frame} {meth : Method} {c : Code} {D : va_G} {cy : Nat → ClassId} {ad : Nat → Nat} {A : Nat → Prop} (C : Cx p s m args meth c D cy cX10_changedOf 7 RX10 (some .int) A (wM cy ad)) {N : Nat} {r : Int32 × St} : ∀ (X : St), jM_changedOf N X = some r → SW p l e ({ frames := 2, cells := 0, slots := 0, locals := 46 } : Room) s m args below meth c D 7 A (wM cy ad) (MQ below (poI D (wM cy ad) A r.1 r.2) args s 0 0 A) X [(0, .ref (ad 0))] 0 [] := by
  intro X hJ
  unfold jM_changedOf at hJ
  refine sw_iconst (pc := 0) C (v := (0 : Int32)) dX10_changedOf_0 (by decide) ?_
  refine sw_istore_n (pc := 1) C dX10_changedOf_1 rfl (by decide) (ll2 := [(1, .int (0 : Int32)), (0, .ref (ad 0))]) rfl ?_
  exact sw_sub [1, 0] (by rfl) (t_M_changedOf_2 C _ _ _ hJ)
set_option maxHeartbeats 4000000 in
set_option maxRecDepth 100000 in
theorem k_M_changedOf {l : Launch} {D : va_G} {cy : Nat → ClassId} {ad : Nat → Nat} {A : Nat → Prop} (hD : ∀ X, va_D A (wM cy ad X)) {X : St} {N : Nat}  {r : Int32 × St} (hJ : jM_changedOf N X = some r) : Met l yX10_changedOf (wsY yX10_changedOf cX10_changedOf 7 (some .int)) ({ frames := 2, cells := 0, slots := 0, locals := 46 } : Room) (prX D cy (wM cy ad) X [.ref (ad 0)]) (poI D (wM cy ad) A r.1 r.2) 0 0 A := sw_met (by decide +kernel) (Nat.le_of_ble_eq_true rfl) hD (fun p e s m args below meth c C => t_M_changedOf C _ hJ)
set_option maxHeartbeats 4000000 in
set_option maxRecDepth 100000 in
theorem t_M_changed {p : Program} {l : Launch} {e : Env} {s : State} {m : MethodId} {args : Array Value} {below : List Frame} {meth : Method} {c : Code} {D : va_G} {cy : Nat → ClassId} {ad : Nat → Nat} {A : Nat → Prop} (C : Cx p s m args meth c D cy cX10_changed 1 RX10 (some .int) A (wM cy ad)) {N : Nat} {r : Int32 × St} : ∀ (X : St), jM_changed N X = some r → SW p l e ({ frames := 3, cells := 0, slots := 0, locals := 72 } : Room) s m args below meth c D 1 A (wM cy ad) (MQ below (poI D (wM cy ad) A r.1 r.2) args s 0 0 A) X [(0, .ref (ad 0))] 0 [] := by
  intro X hJ
  unfold jM_changed at hJ
  refine sw_aload_n (pc := 0) C 0 dX10_changed_0 rfl rfl ?_
  obtain ⟨q1, hq1, hJ⟩ := bind_some hJ
  refine sw_callV_i (pc := 1) C (st := []) (As := []) (k_M_changedOf C.2.2.2.2.2.2.1 hq1) pk_X10_changedOf wd_29_16 0 rfl rfl rfl ⟨Nat.le_of_ble_eq_true rfl, Nat.le_of_ble_eq_true rfl⟩ ⟨rfl, rfl⟩ rfl rfl (Nat.le_of_ble_eq_true rfl) dX10_changed_1 ?_
  obtain rfl := Option.some.inj hJ
  exact sw_iret (pc := 4) C dX10_changed_4
set_option maxHeartbeats 4000000 in
set_option maxRecDepth 100000 in
theorem k_M_changed {l : Launch} {D : va_G} {cy : Nat → ClassId} {ad : Nat → Nat} {A : Nat → Prop} (hD : ∀ X, va_D A (wM cy ad X)) {X : St} {N : Nat}  {r : Int32 × St} (hJ : jM_changed N X = some r) : Met l yX10_changed (wsY yX10_changed cX10_changed 1 (some .int)) ({ frames := 3, cells := 0, slots := 0, locals := 72 } : Room) (prX D cy (wM cy ad) X [.ref (ad 0)]) (poI D (wM cy ad) A r.1 r.2) 0 0 A := sw_met (by decide +kernel) (Nat.le_of_ble_eq_true rfl) hD (fun p e s m args below meth c C => t_M_changed C _ hJ)
set_option maxHeartbeats 4000000 in
set_option maxRecDepth 100000 in
theorem t_M_onTop_32 {p : Program} {l : Launch} {e : Env} {s : State} {m : MethodId} {args : Array Value} {below : List Frame} {meth : Method} {c : Code} {D : va_G} {cy : Nat → ClassId} {ad : Nat → Nat} {A : Nat → Prop} (C : Cx p s m args meth c D cy cX10_onTop 2 RX10 (some .int) A (wM cy ad)) {X : St} {r : Int32} : ∀ (s0 : Int32), jM_onTop_32 X s0 = some r → SW p l e ({ frames := 0, cells := 0, slots := 0, locals := 0 } : Room) s m args below meth c D 2 A (wM cy ad) (MQ below (poI D (wM cy ad) A r X) args s 0 0 A) X [] 32 [.int s0] := by
  intro s0 hJ
  unfold jM_onTop_32 at hJ
  refine sw_istore_n (pc := 32) C dX10_onTop_32 rfl (by decide) (ll2 := [(1, .int s0)]) rfl ?_
  refine sw_iload_n (pc := 33) C 0 dX10_onTop_33 rfl rfl ?_
  refine sw_if_ne (pc := 34) (tgt := 41) C dX10_onTop_34 (by decide) (fun hb34 => ?_) (fun hb34 => ?_)
  · replace hJ := iten hb34 hJ
    refine sw_iload_n (pc := 41) C 0 dX10_onTop_41 rfl rfl ?_
    refine sw_iconst (pc := 42) C (v := (1 : Int32)) dX10_onTop_42 (by decide) ?_
    refine sw_icmp_ne (pc := 43) (tgt := 50) C dX10_onTop_43 (by decide) (fun hb43 => ?_) (fun hb43 => ?_)
    · replace hJ := iten hb43 hJ
      refine sw_iconst (pc := 50) C (v := (0 : Int32)) dX10_onTop_50 (by decide) ?_
      obtain rfl := Option.some.inj hJ
      exact sw_iret (pc := 51) C dX10_onTop_51
    · replace hJ := itep hb43 hJ
      refine sw_iconst (pc := 46) C (v := (-1 : Int32)) dX10_onTop_46 (by decide) ?_
      refine sw_goto (pc := 47) (tgt := 51) C dX10_onTop_47 (by decide) ?_
      obtain rfl := Option.some.inj hJ
      exact sw_iret (pc := 51) C dX10_onTop_51
  · replace hJ := itep hb34 hJ
    refine sw_iconst (pc := 37) C (v := (1 : Int32)) dX10_onTop_37 (by decide) ?_
    refine sw_goto (pc := 38) (tgt := 51) C dX10_onTop_38 (by decide) ?_
    obtain rfl := Option.some.inj hJ
    exact sw_iret (pc := 51) C dX10_onTop_51
set_option maxHeartbeats 4000000 in
set_option maxRecDepth 100000 in
theorem t_M_onTop {p : Program} {l : Launch} {e : Env} {s : State} {m : MethodId} {args : Array Value} {below : List Frame} {meth : Method} {c : Code} {D : va_G} {cy : Nat → ClassId} {ad : Nat → Nat} {A : Nat → Prop} (C : Cx p s m args meth c D cy cX10_onTop 2 RX10 (some .int) A (wM cy ad)) {X : St} {r : Int32} : jM_onTop X = some r → SW p l e ({ frames := 0, cells := 0, slots := 0, locals := 0 } : Room) s m args below meth c D 2 A (wM cy ad) (MQ below (poI D (wM cy ad) A r X) args s 0 0 A) X [(0, .ref (ad 0))] 0 [] := by
  intro  hJ
  unfold jM_onTop at hJ
  refine sw_aload_n (pc := 0) C 0 dX10_onTop_0 rfl rfl ?_
  refine gM_0_18 (pc := 1) C wd_24_4 dX10_onTop_1 ?_
  refine sw_if_ne (pc := 4) (tgt := 11) C dX10_onTop_4 (by decide) (fun hb4 => ?_) (fun hb4 => ?_)
  · replace hJ := iten hb4 hJ
    refine sw_aload_n (pc := 11) C 0 dX10_onTop_11 rfl rfl ?_
    refine gM_0_13 (pc := 12) C wd_4_15 dX10_onTop_12 ?_
    refine sw_bipush (pc := 15) C (v := (8 : Int32)) dX10_onTop_15 (by decide) ?_
    refine sw_aload_n (pc := 17) C 0 dX10_onTop_17 rfl rfl ?_
    refine gM_0_17 (pc := 18) C wd_4_17 dX10_onTop_18 ?_
    refine sw_aload_n (pc := 21) C 0 dX10_onTop_21 rfl rfl ?_
    refine gM_0_18 (pc := 22) C wd_24_4 dX10_onTop_22 ?_
    refine sw_iconst (pc := 25) C (v := (1 : Int32)) dX10_onTop_25 (by decide) ?_
    refine sw_isub (pc := 26) C dX10_onTop_26 ?_
    obtain ⟨hi27, hJ⟩ := gd hJ
    refine lM_7 (pc := 27) C hi27 dX10_onTop_27 ?_
    refine sw_imul (pc := 28) C dX10_onTop_28 ?_
    refine sw_iconst (pc := 29) C (v := (3 : Int32)) dX10_onTop_29 (by decide) ?_
    refine sw_iadd (pc := 30) C dX10_onTop_30 ?_
    obtain ⟨hi31, hJ⟩ := gd hJ
    refine lM_5 (pc := 31) C hi31 dX10_onTop_31 ?_
    exact sw_sub [] (by rfl) (t_M_onTop_32 C _ hJ)
  · replace hJ := itep hb4 hJ
    refine sw_iconst (pc := 7) C (v := (2 : Int32)) dX10_onTop_7 (by decide) ?_
    refine sw_goto (pc := 8) (tgt := 32) C dX10_onTop_8 (by decide) ?_
    exact sw_sub [] (by rfl) (t_M_onTop_32 C _ hJ)
set_option maxHeartbeats 4000000 in
set_option maxRecDepth 100000 in
theorem k_M_onTop {l : Launch} {D : va_G} {cy : Nat → ClassId} {ad : Nat → Nat} {A : Nat → Prop} (hD : ∀ X, va_D A (wM cy ad X)) {X : St}  {r : Int32} (hJ : jM_onTop X = some r) : Met l yX10_onTop (wsY yX10_onTop cX10_onTop 2 (some .int)) ({ frames := 0, cells := 0, slots := 0, locals := 0 } : Room) (prX D cy (wM cy ad) X [.ref (ad 0)]) (poI D (wM cy ad) A r X) 0 0 A := sw_met (by decide +kernel) (Nat.le_of_ble_eq_true rfl) hD (fun p e s m args below meth c C => t_M_onTop C hJ)
set_option maxHeartbeats 4000000 in
set_option maxRecDepth 100000 in
theorem t_M_saveAt_2 {p : Program} {l : Launch} {e : Env} {s : State} {m : MethodId} {args : Array Value} {below : List Frame} {meth : Method} {c : Code} {D : va_G} {cy : Nat → ClassId} {ad : Nat → Nat} {A : Nat → Prop} (C : Cx p s m args meth c D cy cX10_saveAt 3 RX10 none A (wM cy ad)) {r : St} : ∀ (n : Nat) (X : St) (v1 : Int32) (v2 : Int32), jM_saveAt_2 n X v1 v2 = some r → SW p l e ({ frames := 0, cells := 0, slots := 0, locals := 0 } : Room) s m args below meth c D 3 A (wM cy ad) (MQ below (poV D (wM cy ad) A r) args s 0 0 A) X [(0, .ref (ad 0)), (1, .int v1), (2, .int v2)] 2 [] := by
  intro n
  induction n with
  | zero => intro X v1 v2 hJ; exact absurd (show (none : Option (St)) = some r from hJ) (fun h => by cases h)
  | succ n ih =>
    intro X v1 v2 hJ
    rw [jM_saveAt_2] at hJ
    refine sw_iload_n (pc := 2) C 2 dX10_saveAt_2 rfl rfl ?_
    refine sw_aload_n (pc := 3) C 0 dX10_saveAt_3 rfl rfl ?_
    refine gM_0_18 (pc := 4) C wd_24_4 dX10_saveAt_4 ?_
    refine sw_icmp_ge (pc := 7) (tgt := 33) C dX10_saveAt_7 (by decide) (fun hb7 => ?_) (fun hb7 => ?_)
    · replace hJ := itep hb7 hJ
      refine sw_aload_n (pc := 33) C 0 dX10_saveAt_33 rfl rfl ?_
      refine gM_0_29 (pc := 34) C wd_5_2 dX10_saveAt_34 ?_
      refine sw_iload_n (pc := 37) C 1 dX10_saveAt_37 rfl rfl ?_
      refine sw_aload_n (pc := 38) C 0 dX10_saveAt_38 rfl rfl ?_
      refine gM_0_18 (pc := 39) C wd_24_4 dX10_saveAt_39 ?_
      obtain ⟨hi42, hJ⟩ := gd hJ
      refine tM_15 (pc := 42) C hi42 dX10_saveAt_42 ?_
      obtain rfl := Option.some.inj hJ
      exact sw_vret (pc := 43) C dX10_saveAt_43
    · replace hJ := iten hb7 hJ
      refine sw_aload_n (pc := 10) C 0 dX10_saveAt_10 rfl rfl ?_
      refine gM_0_28 (pc := 11) C wd_5_1 dX10_saveAt_11 ?_
      refine sw_bipush (pc := 14) C (v := (7 : Int32)) dX10_saveAt_14 (by decide) ?_
      refine sw_iload_n (pc := 16) C 1 dX10_saveAt_16 rfl rfl ?_
      refine sw_imul (pc := 17) C dX10_saveAt_17 ?_
      refine sw_iload_n (pc := 18) C 2 dX10_saveAt_18 rfl rfl ?_
      refine sw_iadd (pc := 19) C dX10_saveAt_19 ?_
      refine sw_aload_n (pc := 20) C 0 dX10_saveAt_20 rfl rfl ?_
      refine gM_0_17 (pc := 21) C wd_4_17 dX10_saveAt_21 ?_
      refine sw_iload_n (pc := 24) C 2 dX10_saveAt_24 rfl rfl ?_
      obtain ⟨hi25, hJ⟩ := gd hJ
      refine lM_7 (pc := 25) C hi25 dX10_saveAt_25 ?_
      obtain ⟨hi26, hJ⟩ := gd hJ
      refine tM_14 (pc := 26) C hi26 dX10_saveAt_26 ?_
      refine sw_iinc (pc := 27) C 2 dX10_saveAt_27 rfl (v := (v2 + (1 : Int32))) (congrArg (fun z => v2 + z) (by decide)) (by decide) (ll2 := [(2, .int (v2 + (1 : Int32))), (0, .ref (ad 0)), (1, .int v1)]) rfl ?_
      refine sw_goto (pc := 30) (tgt := 2) C dX10_saveAt_30 (by decide) ?_
      exact sw_sub [1, 2, 0] (by rfl) (ih _ _ _ hJ)
set_option maxHeartbeats 4000000 in
set_option maxRecDepth 100000 in
theorem t_M_saveAt {p : Program} {l : Launch} {e : Env} {s : State} {m : MethodId} {args : Array Value} {below : List Frame} {meth : Method} {c : Code} {D : va_G} {cy : Nat → ClassId} {ad : Nat → Nat} {A : Nat → Prop} (C : Cx p s m args meth c D cy cX10_saveAt 3 RX10 none A (wM cy ad)) {r : St} : ∀ (X : St) (a1 : Int32), jM_saveAt X a1 = some r → SW p l e ({ frames := 0, cells := 0, slots := 0, locals := 0 } : Room) s m args below meth c D 3 A (wM cy ad) (MQ below (poV D (wM cy ad) A r) args s 0 0 A) X [(0, .ref (ad 0)), (1, .int a1)] 0 [] := by
  intro X a1 hJ
  unfold jM_saveAt at hJ
  refine sw_iconst (pc := 0) C (v := (0 : Int32)) dX10_saveAt_0 (by decide) ?_
  refine sw_istore_n (pc := 1) C dX10_saveAt_1 rfl (by decide) (ll2 := [(2, .int (0 : Int32)), (0, .ref (ad 0)), (1, .int a1)]) rfl ?_
  exact sw_sub [1, 2, 0] (by rfl) (t_M_saveAt_2 C _ _ _ _ hJ)
set_option maxHeartbeats 4000000 in
set_option maxRecDepth 100000 in
theorem k_M_saveAt {l : Launch} {D : va_G} {cy : Nat → ClassId} {ad : Nat → Nat} {A : Nat → Prop} (hD : ∀ X, va_D A (wM cy ad X)) {X : St} {a1 : Int32} {r : St} (hJ : jM_saveAt X a1 = some r) : Met l yX10_saveAt (wsY yX10_saveAt cX10_saveAt 3 none) ({ frames := 0, cells := 0, slots := 0, locals := 0 } : Room) (prX D cy (wM cy ad) X [.ref (ad 0), .int a1]) (poV D (wM cy ad) A r) 0 0 A := sw_met (by decide +kernel) (Nat.le_of_ble_eq_true rfl) hD (fun p e s m args below meth c C => t_M_saveAt C _ _ hJ)
set_option maxHeartbeats 4000000 in
set_option maxRecDepth 100000 in
theorem t_M_backTo_12 {p : Program} {l : Launch} {e : Env} {s : State} {m : MethodId} {args : Array Value} {below : List Frame} {meth : Method} {c : Code} {D : va_G} {cy : Nat → ClassId} {ad : Nat → Nat} {A : Nat → Prop} (C : Cx p s m args meth c D cy cX10_backTo 3 RX10 none A (wM cy ad)) {r : St} : ∀ (n : Nat) (X : St) (v1 : Int32) (v2 : Int32), jM_backTo_12 n X v1 v2 = some r → SW p l e ({ frames := 0, cells := 0, slots := 0, locals := 0 } : Room) s m args below meth c D 3 A (wM cy ad) (MQ below (poV D (wM cy ad) A r) args s 0 0 A) X [(0, .ref (ad 0)), (1, .int v1), (2, .int v2)] 12 [] := by
  intro n
  induction n with
  | zero => intro X v1 v2 hJ; exact absurd (show (none : Option (St)) = some r from hJ) (fun h => by cases h)
  | succ n ih =>
    intro X v1 v2 hJ
    rw [jM_backTo_12] at hJ
    refine sw_iload_n (pc := 12) C 2 dX10_backTo_12 rfl rfl ?_
    refine sw_aload_n (pc := 13) C 0 dX10_backTo_13 rfl rfl ?_
    refine gM_0_18 (pc := 14) C wd_24_4 dX10_backTo_14 ?_
    refine sw_icmp_ge (pc := 17) (tgt := 43) C dX10_backTo_17 (by decide) (fun hb17 => ?_) (fun hb17 => ?_)
    · replace hJ := itep hb17 hJ
      obtain rfl := Option.some.inj hJ
      exact sw_vret (pc := 43) C dX10_backTo_43
    · replace hJ := iten hb17 hJ
      refine sw_aload_n (pc := 20) C 0 dX10_backTo_20 rfl rfl ?_
      refine gM_0_17 (pc := 21) C wd_4_17 dX10_backTo_21 ?_
      refine sw_iload_n (pc := 24) C 2 dX10_backTo_24 rfl rfl ?_
      refine sw_aload_n (pc := 25) C 0 dX10_backTo_25 rfl rfl ?_
      refine gM_0_28 (pc := 26) C wd_5_1 dX10_backTo_26 ?_
      refine sw_bipush (pc := 29) C (v := (7 : Int32)) dX10_backTo_29 (by decide) ?_
      refine sw_iload_n (pc := 31) C 1 dX10_backTo_31 rfl rfl ?_
      refine sw_imul (pc := 32) C dX10_backTo_32 ?_
      refine sw_iload_n (pc := 33) C 2 dX10_backTo_33 rfl rfl ?_
      refine sw_iadd (pc := 34) C dX10_backTo_34 ?_
      obtain ⟨hi35, hJ⟩ := gd hJ
      refine lM_14 (pc := 35) C hi35 dX10_backTo_35 ?_
      obtain ⟨hi36, hJ⟩ := gd hJ
      refine tM_7 (pc := 36) C hi36 dX10_backTo_36 ?_
      refine sw_iinc (pc := 37) C 2 dX10_backTo_37 rfl (v := (v2 + (1 : Int32))) (congrArg (fun z => v2 + z) (by decide)) (by decide) (ll2 := [(2, .int (v2 + (1 : Int32))), (0, .ref (ad 0)), (1, .int v1)]) rfl ?_
      refine sw_goto (pc := 40) (tgt := 12) C dX10_backTo_40 (by decide) ?_
      exact sw_sub [1, 2, 0] (by rfl) (ih _ _ _ hJ)
set_option maxHeartbeats 4000000 in
set_option maxRecDepth 100000 in
theorem t_M_backTo {p : Program} {l : Launch} {e : Env} {s : State} {m : MethodId} {args : Array Value} {below : List Frame} {meth : Method} {c : Code} {D : va_G} {cy : Nat → ClassId} {ad : Nat → Nat} {A : Nat → Prop} (C : Cx p s m args meth c D cy cX10_backTo 3 RX10 none A (wM cy ad)) {r : St} : ∀ (X : St) (a1 : Int32), jM_backTo X a1 = some r → SW p l e ({ frames := 0, cells := 0, slots := 0, locals := 0 } : Room) s m args below meth c D 3 A (wM cy ad) (MQ below (poV D (wM cy ad) A r) args s 0 0 A) X [(0, .ref (ad 0)), (1, .int a1)] 0 [] := by
  intro X a1 hJ
  unfold jM_backTo at hJ
  refine sw_aload_n (pc := 0) C 0 dX10_backTo_0 rfl rfl ?_
  refine sw_aload_n (pc := 1) C 0 dX10_backTo_1 rfl rfl ?_
  refine gM_0_29 (pc := 2) C wd_5_2 dX10_backTo_2 ?_
  refine sw_iload_n (pc := 5) C 1 dX10_backTo_5 rfl rfl ?_
  obtain ⟨hi6, hJ⟩ := gd hJ
  refine lM_15 (pc := 6) C hi6 dX10_backTo_6 ?_
  refine pM_0_18 (pc := 7) C wd_24_4 dX10_backTo_7 ?_
  refine sw_iconst (pc := 10) C (v := (0 : Int32)) dX10_backTo_10 (by decide) ?_
  refine sw_istore_n (pc := 11) C dX10_backTo_11 rfl (by decide) (ll2 := [(2, .int (0 : Int32)), (0, .ref (ad 0)), (1, .int a1)]) rfl ?_
  exact sw_sub [1, 2, 0] (by rfl) (t_M_backTo_12 C _ _ _ _ hJ)
set_option maxHeartbeats 4000000 in
set_option maxRecDepth 100000 in
theorem k_M_backTo {l : Launch} {D : va_G} {cy : Nat → ClassId} {ad : Nat → Nat} {A : Nat → Prop} (hD : ∀ X, va_D A (wM cy ad X)) {X : St} {a1 : Int32} {r : St} (hJ : jM_backTo X a1 = some r) : Met l yX10_backTo (wsY yX10_backTo cX10_backTo 3 none) ({ frames := 0, cells := 0, slots := 0, locals := 0 } : Room) (prX D cy (wM cy ad) X [.ref (ad 0), .int a1]) (poV D (wM cy ad) A r) 0 0 A := sw_met (by decide +kernel) (Nat.le_of_ble_eq_true rfl) hD (fun p e s m args below meth c C => t_M_backTo C _ _ hJ)
set_option maxHeartbeats 4000000 in
set_option maxRecDepth 100000 in
theorem t_M_nextOne_41 {p : Program} {l : Launch} {e : Env} {s : State} {m : MethodId} {args : Array Value} {below : List Frame} {meth : Method} {c : Code} {D : va_G} {cy : Nat → ClassId} {ad : Nat → Nat} {A : Nat → Prop} (C : Cx p s m args meth c D cy cX10_nextOne 4 RX10 (some .int) A (wM cy ad)) {X : St} {k2 : Int32 → Int32 → Option (Int32)} {r : Int32} (h2 : ∀ (v2 : Int32) (v3 : Int32), k2 v2 v3 = some r → SW p l e ({ frames := 2, cells := 0, slots := 0, locals := 47 } : Room) s m args below meth c D 4 A (wM cy ad) (MQ below (poI D (wM cy ad) A r X) args s 0 0 A) X [(0, .ref (ad 0)), (2, .int v2), (3, .int v3)] 2 []) : ∀ (v2 : Int32) (v3 : Int32), jM_nextOne_41 X k2 v2 v3 = some r → SW p l e ({ frames := 2, cells := 0, slots := 0, locals := 47 } : Room) s m args below meth c D 4 A (wM cy ad) (MQ below (poI D (wM cy ad) A r X) args s 0 0 A) X [(0, .ref (ad 0)), (2, .int v2), (3, .int v3)] 41 [] := by
  intro v2 v3 hJ
  unfold jM_nextOne_41 at hJ
  refine sw_iinc (pc := 41) C 2 dX10_nextOne_41 rfl (v := (v3 + (1 : Int32))) (congrArg (fun z => v3 + z) (by decide)) (by decide) (ll2 := [(3, .int (v3 + (1 : Int32))), (0, .ref (ad 0)), (2, .int v2)]) rfl ?_
  refine sw_goto (pc := 44) (tgt := 2) C dX10_nextOne_44 (by decide) ?_
  exact sw_sub [1, 2, 0] (by rfl) (h2 _ _ hJ)
set_option maxHeartbeats 4000000 in
set_option maxRecDepth 100000 in
theorem t_M_nextOne_2 {p : Program} {l : Launch} {e : Env} {s : State} {m : MethodId} {args : Array Value} {below : List Frame} {meth : Method} {c : Code} {D : va_G} {cy : Nat → ClassId} {ad : Nat → Nat} {A : Nat → Prop} (C : Cx p s m args meth c D cy cX10_nextOne 4 RX10 (some .int) A (wM cy ad)) {X : St} {r : Int32} : ∀ (n : Nat) (v2 : Int32) (v3 : Int32), jM_nextOne_2 X n v2 v3 = some r → SW p l e ({ frames := 2, cells := 0, slots := 0, locals := 47 } : Room) s m args below meth c D 4 A (wM cy ad) (MQ below (poI D (wM cy ad) A r X) args s 0 0 A) X [(0, .ref (ad 0)), (2, .int v2), (3, .int v3)] 2 [] := by
  intro n
  induction n with
  | zero => intro v2 v3 hJ; exact absurd (show (none : Option (Int32)) = some r from hJ) (fun h => by cases h)
  | succ n ih =>
    intro v2 v3 hJ
    rw [jM_nextOne_2] at hJ
    refine sw_iload_n (pc := 2) C 2 dX10_nextOne_2 rfl rfl ?_
    refine sw_aload_n (pc := 3) C 0 dX10_nextOne_3 rfl rfl ?_
    refine gM_0_12 (pc := 4) C wd_14_18 dX10_nextOne_4 ?_
    refine sw_icmp_ge (pc := 7) (tgt := 47) C dX10_nextOne_7 (by decide) (fun hb7 => ?_) (fun hb7 => ?_)
    · replace hJ := itep hb7 hJ
      refine sw_iload_n (pc := 47) C 2 dX10_nextOne_47 rfl rfl ?_
      obtain rfl := Option.some.inj hJ
      exact sw_iret (pc := 48) C dX10_nextOne_48
    · replace hJ := iten hb7 hJ
      refine sw_aload_n (pc := 10) C 0 dX10_nextOne_10 rfl rfl ?_
      refine gM_0_13 (pc := 11) C wd_4_15 dX10_nextOne_11 ?_
      refine sw_bipush (pc := 14) C (v := (8 : Int32)) dX10_nextOne_14 (by decide) ?_
      refine sw_iload_n (pc := 16) C 2 dX10_nextOne_16 rfl rfl ?_
      refine sw_imul (pc := 17) C dX10_nextOne_17 ?_
      refine sw_iconst (pc := 18) C (v := (3 : Int32)) dX10_nextOne_18 (by decide) ?_
      refine sw_iadd (pc := 19) C dX10_nextOne_19 ?_
      obtain ⟨hi20, hJ⟩ := gd hJ
      refine lM_5 (pc := 20) C hi20 dX10_nextOne_20 ?_
      refine sw_iload_n (pc := 21) C 1 dX10_nextOne_21 rfl rfl ?_
      refine sw_icmp_ne (pc := 22) (tgt := 41) C dX10_nextOne_22 (by decide) (fun hb22 => ?_) (fun hb22 => ?_)
      · replace hJ := iten hb22 hJ
        exact sw_sub [0, 1, 2] (by rfl) (t_M_nextOne_41 C ih _ _ hJ)
      · replace hJ := itep hb22 hJ
        refine sw_aload_n (pc := 25) C 0 dX10_nextOne_25 rfl rfl ?_
        refine sw_iload_n (pc := 26) C 2 dX10_nextOne_26 rfl rfl ?_
        refine sw_aload_n (pc := 27) C 0 dX10_nextOne_27 rfl rfl ?_
        refine gM_0_17 (pc := 28) C wd_4_17 dX10_nextOne_28 ?_
        refine sw_aload_n (pc := 31) C 0 dX10_nextOne_31 rfl rfl ?_
        refine gM_0_18 (pc := 32) C wd_24_4 dX10_nextOne_32 ?_
        obtain ⟨q35, hq35, hJ⟩ := bind_some hJ
        refine sw_callV_i (pc := 35) C (st := []) (As := [.int v3, .ref (ad 7), .int (sF X 18)]) (k_M_mayRise C.2.2.2.2.2.2.1 a7_7 hq35) pk_X10_mayRise wd_19_7 0 rfl rfl rfl ⟨Nat.le_of_ble_eq_true rfl, Nat.le_of_ble_eq_true rfl⟩ ⟨rfl, rfl⟩ rfl rfl (Nat.le_of_ble_eq_true rfl) dX10_nextOne_35 ?_
        refine sw_if_ne (pc := 38) (tgt := 47) C dX10_nextOne_38 (by decide) (fun hb38 => ?_) (fun hb38 => ?_)
        · replace hJ := iten hb38 hJ
          refine sw_iload_n (pc := 47) C 2 dX10_nextOne_47 rfl rfl ?_
          obtain rfl := Option.some.inj hJ
          exact sw_iret (pc := 48) C dX10_nextOne_48
        · replace hJ := itep hb38 hJ
          exact sw_sub [0, 1, 2] (by rfl) (t_M_nextOne_41 C ih _ _ hJ)
set_option maxHeartbeats 4000000 in
set_option maxRecDepth 100000 in
theorem t_M_nextOne {p : Program} {l : Launch} {e : Env} {s : State} {m : MethodId} {args : Array Value} {below : List Frame} {meth : Method} {c : Code} {D : va_G} {cy : Nat → ClassId} {ad : Nat → Nat} {A : Nat → Prop} (C : Cx p s m args meth c D cy cX10_nextOne 4 RX10 (some .int) A (wM cy ad)) {X : St} {r : Int32} : ∀ (a1 : Int32) (a2 : Int32), jM_nextOne X a1 a2 = some r → SW p l e ({ frames := 2, cells := 0, slots := 0, locals := 47 } : Room) s m args below meth c D 4 A (wM cy ad) (MQ below (poI D (wM cy ad) A r X) args s 0 0 A) X [(0, .ref (ad 0)), (1, .int a1), (2, .int a2)] 0 [] := by
  intro a1 a2 hJ
  unfold jM_nextOne at hJ
  refine sw_iload_n (pc := 0) C 1 dX10_nextOne_0 rfl rfl ?_
  refine sw_istore_n (pc := 1) C dX10_nextOne_1 rfl (by decide) (ll2 := [(3, .int a1), (0, .ref (ad 0)), (1, .int a1), (2, .int a2)]) rfl ?_
  exact sw_sub [1, 3, 0] (by rfl) (t_M_nextOne_2 C _ _ _ hJ)
set_option maxHeartbeats 4000000 in
set_option maxRecDepth 100000 in
theorem k_M_nextOne {l : Launch} {D : va_G} {cy : Nat → ClassId} {ad : Nat → Nat} {A : Nat → Prop} (hD : ∀ X, va_D A (wM cy ad X)) {X : St} {a1 : Int32} {a2 : Int32} {r : Int32} (hJ : jM_nextOne X a1 a2 = some r) : Met l yX10_nextOne (wsY yX10_nextOne cX10_nextOne 4 (some .int)) ({ frames := 2, cells := 0, slots := 0, locals := 47 } : Room) (prX D cy (wM cy ad) X [.ref (ad 0), .int a1, .int a2]) (poI D (wM cy ad) A r X) 0 0 A := sw_met (by decide +kernel) (Nat.le_of_ble_eq_true rfl) hD (fun p e s m args below meth c C => t_M_nextOne C _ _ hJ)
set_option maxHeartbeats 4000000 in
set_option maxRecDepth 100000 in
theorem t_M_keep_38 {p : Program} {l : Launch} {e : Env} {s : State} {m : MethodId} {args : Array Value} {below : List Frame} {meth : Method} {c : Code} {D : va_G} {cy : Nat → ClassId} {ad : Nat → Nat} {A : Nat → Prop} (C : Cx p s m args meth c D cy cX10_keep 4 RX10 none A (wM cy ad)) {r : St} : ∀ (X : St) (s1 : Int32) (s2 : Int32), jM_keep_38 X s1 s2 = some r → SW p l e ({ frames := 0, cells := 0, slots := 0, locals := 0 } : Room) s m args below meth c D 4 A (wM cy ad) (MQ below (poV D (wM cy ad) A r) args s 0 0 A) X [] 38 [.int s2, .int s1, .ref (ad 13)] := by
  intro X s1 s2 hJ
  unfold jM_keep_38 at hJ
  obtain ⟨hi38, hJ⟩ := gd hJ
  refine tM_13 (pc := 38) C hi38 dX10_keep_38 ?_
  obtain rfl := Option.some.inj hJ
  exact sw_vret (pc := 39) C dX10_keep_39
set_option maxHeartbeats 4000000 in
set_option maxRecDepth 100000 in
theorem t_M_keep_12 {p : Program} {l : Launch} {e : Env} {s : State} {m : MethodId} {args : Array Value} {below : List Frame} {meth : Method} {c : Code} {D : va_G} {cy : Nat → ClassId} {ad : Nat → Nat} {A : Nat → Prop} (C : Cx p s m args meth c D cy cX10_keep 4 RX10 none A (wM cy ad)) {r : St} : ∀ (X : St) (v1 : Int32) (s0 : Int32), jM_keep_12 X v1 s0 = some r → SW p l e ({ frames := 0, cells := 0, slots := 0, locals := 0 } : Room) s m args below meth c D 4 A (wM cy ad) (MQ below (poV D (wM cy ad) A r) args s 0 0 A) X [(0, .ref (ad 0)), (1, .int v1)] 12 [.int s0] := by
  intro X v1 s0 hJ
  unfold jM_keep_12 at hJ
  refine sw_istore_n (pc := 12) C dX10_keep_12 rfl (by decide) (ll2 := [(3, .int s0), (0, .ref (ad 0)), (1, .int v1)]) rfl ?_
  refine sw_aload_n (pc := 13) C 1 dX10_keep_13 rfl rfl ?_
  refine gM_0_27 (pc := 14) C wd_5_0 dX10_keep_14 ?_
  refine sw_iload_n (pc := 17) C 2 dX10_keep_17 rfl rfl ?_
  refine sw_iload_n (pc := 18) C 0 dX10_keep_18 rfl rfl ?_
  refine sw_aload_n (pc := 19) C 1 dX10_keep_19 rfl rfl ?_
  refine gM_0_27 (pc := 20) C wd_5_0 dX10_keep_20 ?_
  refine sw_iload_n (pc := 23) C 2 dX10_keep_23 rfl rfl ?_
  obtain ⟨hi24, hJ⟩ := gd hJ
  refine lM_13 (pc := 24) C hi24 dX10_keep_24 ?_
  refine sw_icmp_le (pc := 25) (tgt := 32) C dX10_keep_25 (by decide) (fun hb25 => ?_) (fun hb25 => ?_)
  · replace hJ := itep hb25 hJ
    refine sw_aload_n (pc := 32) C 1 dX10_keep_32 rfl rfl ?_
    refine gM_0_27 (pc := 33) C wd_5_0 dX10_keep_33 ?_
    refine sw_iload_n (pc := 36) C 2 dX10_keep_36 rfl rfl ?_
    obtain ⟨hi37, hJ⟩ := gd hJ
    refine lM_13 (pc := 37) C hi37 dX10_keep_37 ?_
    exact sw_sub [] (by rfl) (t_M_keep_38 C _ _ _ hJ)
  · replace hJ := iten hb25 hJ
    refine sw_iload_n (pc := 28) C 0 dX10_keep_28 rfl rfl ?_
    refine sw_goto (pc := 29) (tgt := 38) C dX10_keep_29 (by decide) ?_
    exact sw_sub [] (by rfl) (t_M_keep_38 C _ _ _ hJ)
set_option maxHeartbeats 4000000 in
set_option maxRecDepth 100000 in
theorem t_M_keep {p : Program} {l : Launch} {e : Env} {s : State} {m : MethodId} {args : Array Value} {below : List Frame} {meth : Method} {c : Code} {D : va_G} {cy : Nat → ClassId} {ad : Nat → Nat} {A : Nat → Prop} (C : Cx p s m args meth c D cy cX10_keep 4 RX10 none A (wM cy ad)) {r : St} : ∀ (X : St) (a1 : Int32) (a2 : Int32), jM_keep X a1 a2 = some r → SW p l e ({ frames := 0, cells := 0, slots := 0, locals := 0 } : Room) s m args below meth c D 4 A (wM cy ad) (MQ below (poV D (wM cy ad) A r) args s 0 0 A) X [(0, .ref (ad 0)), (1, .int a1), (2, .int a2)] 0 [] := by
  intro X a1 a2 hJ
  unfold jM_keep at hJ
  refine sw_iload_n (pc := 0) C 1 dX10_keep_0 rfl rfl ?_
  refine sw_iconst (pc := 1) C (v := (2 : Int32)) dX10_keep_1 (by decide) ?_
  refine sw_irem (pc := 2) C dX10_keep_2 (by decide) ?_
  refine sw_if_ne (pc := 3) (tgt := 10) C dX10_keep_3 (by decide) (fun hb3 => ?_) (fun hb3 => ?_)
  · replace hJ := iten hb3 hJ
    refine sw_iload_n (pc := 10) C 2 dX10_keep_10 rfl rfl ?_
    refine sw_ineg (pc := 11) C dX10_keep_11 ?_
    exact sw_sub [0, 1] (by rfl) (t_M_keep_12 C _ _ _ hJ)
  · replace hJ := itep hb3 hJ
    refine sw_iload_n (pc := 6) C 2 dX10_keep_6 rfl rfl ?_
    refine sw_goto (pc := 7) (tgt := 12) C dX10_keep_7 (by decide) ?_
    exact sw_sub [0, 1] (by rfl) (t_M_keep_12 C _ _ _ hJ)
set_option maxHeartbeats 4000000 in
set_option maxRecDepth 100000 in
theorem k_M_keep {l : Launch} {D : va_G} {cy : Nat → ClassId} {ad : Nat → Nat} {A : Nat → Prop} (hD : ∀ X, va_D A (wM cy ad X)) {X : St} {a1 : Int32} {a2 : Int32} {r : St} (hJ : jM_keep X a1 a2 = some r) : Met l yX10_keep (wsY yX10_keep cX10_keep 4 none) ({ frames := 0, cells := 0, slots := 0, locals := 0 } : Room) (prX D cy (wM cy ad) X [.ref (ad 0), .int a1, .int a2]) (poV D (wM cy ad) A r) 0 0 A := sw_met (by decide +kernel) (Nat.le_of_ble_eq_true rfl) hD (fun p e s m args below meth c C => t_M_keep C _ _ _ hJ)
