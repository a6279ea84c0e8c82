set_option maxHeartbeats 4000000 in
set_option maxRecDepth 100000 in
theorem t_T_changed {p : Program} {l : Launch} {e : Env} {s : State} {m : MethodId} {args : Array Value} {below : List Frame} {meth : Method} {c : Code} {D : va_G} {cy : Nat → ClassId} {ad : Nat → Nat} {A : Nat → Prop} (C : Cx p s m args meth c D cy cX9_changed 1 RX9 (some .int) A (wC cy ad)) {r : Int32 × St} : ∀ (X : St), jT_changed X = some r → SW p l e ({ frames := 3, cells := 0, slots := 0, locals := 72 } : Room) s m args below meth c D 1 A (wC cy ad) (MQ below (poI D (wC cy ad) A r.1 r.2) args s 0 0 A) X [(0, .ref (ad 0))] 0 [] := by
  intro X hJ
  unfold jT_changed at hJ
  refine sw_aload_n (pc := 0) C 0 dX9_changed_0 rfl rfl ?_
  refine gC_0_6 (pc := 1) C wd_15_16 dX9_changed_1 ?_
  refine sw_if_ne (pc := 4) (tgt := 11) C dX9_changed_4 (by decide) (fun hb4 => ?_) (fun hb4 => ?_)
  · replace hJ := iten hb4 hJ
    refine sw_aload_n (pc := 11) C 0 dX9_changed_11 rfl rfl ?_
    refine gC_0_3 (pc := 12) C wd_2_4 dX9_changed_12 ?_
    refine sw_aload_n (pc := 15) C 0 dX9_changed_15 rfl rfl ?_
    refine gC_0_6 (pc := 16) C wd_15_16 dX9_changed_16 ?_
    obtain ⟨q19, hq19, hJ⟩ := bind_some hJ
    refine sw_callV_i (pc := 19) C (st := []) (As := [.int (sF X 6)]) (k_Ch_bestSpare C.2.2.2.2.2.2.1 hq19) pk_X1_bestSpare wd_29_2 5 rfl rfl rfl ⟨Nat.le_of_ble_eq_true rfl, Nat.le_of_ble_eq_true rfl⟩ ⟨rfl, rfl⟩ rfl rfl (Nat.le_of_ble_eq_true rfl) dX9_changed_19 ?_
    obtain rfl := Option.some.inj hJ
    exact sw_iret (pc := 22) C dX9_changed_22
  · replace hJ := itep hb4 hJ
    refine sw_iconst (pc := 7) C (v := (-1 : Int32)) dX9_changed_7 (by decide) ?_
    refine sw_goto (pc := 8) (tgt := 22) C dX9_changed_8 (by decide) ?_
    obtain rfl := Option.some.inj hJ
    exact sw_iret (pc := 22) C dX9_changed_22
set_option maxHeartbeats 4000000 in
set_option maxRecDepth 100000 in
theorem k_T_changed {l : Launch} {D : va_G} {cy : Nat → ClassId} {ad : Nat → Nat} {A : Nat → Prop} (hD : ∀ X, va_D A (wC cy ad X)) {X : St}  {r : Int32 × St} (hJ : jT_changed X = some r) : Met l yX9_changed (wsY yX9_changed cX9_changed 1 (some .int)) ({ frames := 3, cells := 0, slots := 0, locals := 72 } : Room) (prX D cy (wC cy ad) X [.ref (ad 0)]) (poI D (wC cy ad) A r.1 r.2) 0 0 A := sw_met (by decide +kernel) (Nat.le_of_ble_eq_true rfl) hD (fun p e s m args below meth c C => t_T_changed C _ hJ)
set_option maxHeartbeats 4000000 in
set_option maxRecDepth 100000 in
theorem t_T_bestEnd_9 {p : Program} {l : Launch} {e : Env} {s : State} {m : MethodId} {args : Array Value} {below : List Frame} {meth : Method} {c : Code} {D : va_G} {cy : Nat → ClassId} {ad : Nat → Nat} {A : Nat → Prop} (C : Cx p s m args meth c D cy cX9_bestEnd 8 RX9 (some .int) A (wC cy ad)) {X : St} {d : Nat} {rc : St → Int32 → Int32 → Int32 → Option (Int32)} {r : Int32} (hrc : ∀ {X : St} {a1 : Int32} {a2 : Int32} {a3 : Int32} {r2 : Int32}, rc X a1 a2 a3 = some r2 → Met l yX9_bestEnd (wsY yX9_bestEnd cX9_bestEnd 8 (some .int)) ({ frames := 3 + d, cells := 0, slots := 0, locals := 70 + d * 27 } : Room) (prX D cy (wC cy ad) X [.ref (ad 5), .int a1, .int a2, .int a3]) (poI D (wC cy ad) A r2 X) 0 0 A) : ∀ (v1 : Int32), jT_bestEnd_9 X rc v1 = some r → SW p l e ({ frames := 3 + (d + 1), cells := 0, slots := 0, locals := 70 + (d + 1) * 27 } : Room) s m args below meth c D 8 A (wC cy ad) (MQ below (poI D (wC cy ad) A r X) args s 0 0 A) X [(0, .ref (ad 5)), (1, .int v1)] 9 [] := by
  intro v1 hJ
  unfold jT_bestEnd_9 at hJ
  refine sw_aload_n (pc := 9) C 0 dX9_bestEnd_9 rfl rfl ?_
  refine sw_iload_n (pc := 10) C 1 dX9_bestEnd_10 rfl rfl ?_
  obtain ⟨q11, hq11, hJ⟩ := bind_some hJ
  refine sw_callV_i (pc := 11) C (st := []) (As := [.int v1]) (k_Ch_sideOnTop C.2.2.2.2.2.2.1 hq11) pk_X1_sideOnTop wd_30_13 5 rfl rfl rfl ⟨by dsimp only; omega, by dsimp only; omega⟩ ⟨rfl, rfl⟩ rfl rfl (Nat.le_of_ble_eq_true rfl) dX9_bestEnd_11 ?_
  obtain rfl := Option.some.inj hJ
  exact sw_iret (pc := 14) C dX9_bestEnd_14
set_option maxHeartbeats 4000000 in
set_option maxRecDepth 100000 in
theorem t_T_bestEnd_120 {p : Program} {l : Launch} {e : Env} {s : State} {m : MethodId} {args : Array Value} {below : List Frame} {meth : Method} {c : Code} {D : va_G} {cy : Nat → ClassId} {ad : Nat → Nat} {A : Nat → Prop} (C : Cx p s m args meth c D cy cX9_bestEnd 8 RX9 (some .int) A (wC cy ad)) {X : St} {d : Nat} {rc : St → Int32 → Int32 → Int32 → Option (Int32)} {r : Int32} (hrc : ∀ {X : St} {a1 : Int32} {a2 : Int32} {a3 : Int32} {r2 : Int32}, rc X a1 a2 a3 = some r2 → Met l yX9_bestEnd (wsY yX9_bestEnd cX9_bestEnd 8 (some .int)) ({ frames := 3 + d, cells := 0, slots := 0, locals := 70 + d * 27 } : Room) (prX D cy (wC cy ad) X [.ref (ad 5), .int a1, .int a2, .int a3]) (poI D (wC cy ad) A r2 X) 0 0 A) : ∀ (v4 : Int32) (v5 : Int32), jT_bestEnd_120 X rc v4 v5 = some r → SW p l e ({ frames := 3 + (d + 1), cells := 0, slots := 0, locals := 70 + (d + 1) * 27 } : Room) s m args below meth c D 8 A (wC cy ad) (MQ below (poI D (wC cy ad) A r X) args s 0 0 A) X [(4, .int v4), (5, .int v5)] 120 [] := by
  intro v4 v5 hJ
  unfold jT_bestEnd_120 at hJ
  refine sw_iload (pc := 120) C 0 dX9_bestEnd_120 rfl ?_
  refine sw_iload (pc := 122) C 1 dX9_bestEnd_122 rfl ?_
  refine sw_imul (pc := 124) C dX9_bestEnd_124 ?_
  obtain rfl := Option.some.inj hJ
  exact sw_iret (pc := 125) C dX9_bestEnd_125
set_option maxHeartbeats 4000000 in
set_option maxRecDepth 100000 in
theorem t_T_bestEnd_114 {p : Program} {l : Launch} {e : Env} {s : State} {m : MethodId} {args : Array Value} {below : List Frame} {meth : Method} {c : Code} {D : va_G} {cy : Nat → ClassId} {ad : Nat → Nat} {A : Nat → Prop} (C : Cx p s m args meth c D cy cX9_bestEnd 8 RX9 (some .int) A (wC cy ad)) {X : St} {d : Nat} {rc : St → Int32 → Int32 → Int32 → Option (Int32)} {k45 : Int32 → Int32 → Int32 → Int32 → Int32 → Int32 → Option (Int32)} {r : Int32} (hrc : ∀ {X : St} {a1 : Int32} {a2 : Int32} {a3 : Int32} {r2 : Int32}, rc X a1 a2 a3 = some r2 → Met l yX9_bestEnd (wsY yX9_bestEnd cX9_bestEnd 8 (some .int)) ({ frames := 3 + d, cells := 0, slots := 0, locals := 70 + d * 27 } : Room) (prX D cy (wC cy ad) X [.ref (ad 5), .int a1, .int a2, .int a3]) (poI D (wC cy ad) A r2 X) 0 0 A) (h45 : ∀ (v1 : Int32) (v2 : Int32) (v3 : Int32) (v4 : Int32) (v5 : Int32) (v6 : Int32), k45 v1 v2 v3 v4 v5 v6 = some r → SW p l e ({ frames := 3 + (d + 1), cells := 0, slots := 0, locals := 70 + (d + 1) * 27 } : Room) s m args below meth c D 8 A (wC cy ad) (MQ below (poI D (wC cy ad) A r X) args s 0 0 A) X [(0, .ref (ad 5)), (1, .int v1), (2, .int v2), (3, .int v3), (4, .int v4), (5, .int v5), (6, .int v6)] 45 []) : ∀ (v1 : Int32) (v2 : Int32) (v3 : Int32) (v4 : Int32) (v5 : Int32) (v6 : Int32), jT_bestEnd_114 X rc k45 v1 v2 v3 v4 v5 v6 = some r → SW p l e ({ frames := 3 + (d + 1), cells := 0, slots := 0, locals := 70 + (d + 1) * 27 } : Room) s m args below meth c D 8 A (wC cy ad) (MQ below (poI D (wC cy ad) A r X) args s 0 0 A) X [(0, .ref (ad 5)), (1, .int v1), (2, .int v2), (3, .int v3), (4, .int v4), (5, .int v5), (6, .int v6)] 114 [] := by
  intro v1 v2 v3 v4 v5 v6 hJ
  unfold jT_bestEnd_114 at hJ
  refine sw_iinc (pc := 114) C 6 dX9_bestEnd_114 rfl (v := (v6 + (1 : Int32))) (congrArg (fun z => v6 + z) (by decide)) (by decide) (ll2 := [(6, .int (v6 + (1 : Int32))), (0, .ref (ad 5)), (1, .int v1), (2, .int v2), (3, .int v3), (4, .int v4), (5, .int v5)]) rfl ?_
  refine sw_goto (pc := 117) (tgt := 45) C dX9_bestEnd_117 (by decide) ?_
  exact sw_sub [1, 2, 3, 4, 5, 6, 0] (by rfl) (h45 _ _ _ _ _ _ hJ)
set_option maxHeartbeats 4000000 in
set_option maxRecDepth 100000 in
theorem t_T_bestEnd_45 {p : Program} {l : Launch} {e : Env} {s : State} {m : MethodId} {args : Array Value} {below : List Frame} {meth : Method} {c : Code} {D : va_G} {cy : Nat → ClassId} {ad : Nat → Nat} {A : Nat → Prop} (C : Cx p s m args meth c D cy cX9_bestEnd 8 RX9 (some .int) A (wC cy ad)) {X : St} {d : Nat} {rc : St → Int32 → Int32 → Int32 → Option (Int32)} {r : Int32} (hrc : ∀ {X : St} {a1 : Int32} {a2 : Int32} {a3 : Int32} {r2 : Int32}, rc X a1 a2 a3 = some r2 → Met l yX9_bestEnd (wsY yX9_bestEnd cX9_bestEnd 8 (some .int)) ({ frames := 3 + d, cells := 0, slots := 0, locals := 70 + d * 27 } : Room) (prX D cy (wC cy ad) X [.ref (ad 5), .int a1, .int a2, .int a3]) (poI D (wC cy ad) A r2 X) 0 0 A) : ∀ (n : Nat) (v1 : Int32) (v2 : Int32) (v3 : Int32) (v4 : Int32) (v5 : Int32) (v6 : Int32), jT_bestEnd_45 X rc n v1 v2 v3 v4 v5 v6 = some r → SW p l e ({ frames := 3 + (d + 1), cells := 0, slots := 0, locals := 70 + (d + 1) * 27 } : Room) s m args below meth c D 8 A (wC cy ad) (MQ below (poI D (wC cy ad) A r X) args s 0 0 A) X [(0, .ref (ad 5)), (1, .int v1), (2, .int v2), (3, .int v3), (4, .int v4), (5, .int v5), (6, .int v6)] 45 [] := by
  intro n
  induction n with
  | zero => intro v1 v2 v3 v4 v5 v6 hJ; exact absurd (show (none : Option (Int32)) = some r from hJ) (fun h => by cases h)
  | succ n ih =>
    intro v1 v2 v3 v4 v5 v6 hJ
    rw [jT_bestEnd_45] at hJ
    refine sw_iload (pc := 45) C 6 dX9_bestEnd_45 rfl ?_
    refine sw_aload_n (pc := 47) C 0 dX9_bestEnd_47 rfl rfl ?_
    obtain ⟨q48, hq48, hJ⟩ := bind_some hJ
    refine sw_callV_i (pc := 48) C (st := [.int v6]) (As := []) (k_Ch_size C.2.2.2.2.2.2.1 hq48) pk_X1_size wd_13_1 5 rfl rfl rfl ⟨by dsimp only; omega, by dsimp only; omega⟩ ⟨rfl, rfl⟩ rfl rfl (Nat.le_of_ble_eq_true rfl) dX9_bestEnd_48 ?_
    refine sw_icmp_ge (pc := 51) (tgt := 120) C dX9_bestEnd_51 (by decide) (fun hb51 => ?_) (fun hb51 => ?_)
    · replace hJ := itep hb51 hJ
      exact sw_sub [4, 5] (by rfl) (t_T_bestEnd_120 C hrc _ _ hJ)
    · replace hJ := iten hb51 hJ
      refine sw_iload (pc := 54) C 5 dX9_bestEnd_54 rfl ?_
      refine sw_iconst (pc := 56) C (v := (1 : Int32)) dX9_bestEnd_56 (by decide) ?_
      refine sw_icmp_ge (pc := 57) (tgt := 120) C dX9_bestEnd_57 (by decide) (fun hb57 => ?_) (fun hb57 => ?_)
      · replace hJ := itep hb57 hJ
        exact sw_sub [4, 5] (by rfl) (t_T_bestEnd_120 C hrc _ _ hJ)
      · replace hJ := iten hb57 hJ
        refine sw_aload_n (pc := 60) C 0 dX9_bestEnd_60 rfl rfl ?_
        refine sw_iload (pc := 61) C 6 dX9_bestEnd_61 rfl ?_
        obtain ⟨q63, hq63, hJ⟩ := bind_some hJ
        refine sw_callV_r (pc := 63) C (st := []) (As := [.int v6]) (k_Ch_who C.2.2.2.2.2.2.1 hq63) pk_X1_who wd_15_3 5 rfl rfl rfl ⟨by dsimp only; omega, by dsimp only; omega⟩ ⟨rfl, rfl⟩ rfl rfl (Nat.le_of_ble_eq_true rfl) dX9_bestEnd_63 ?_
        obtain ⟨hm63, hJ⟩ := gd hJ
        refine gC_m_3N (pc := 66) C (i := q63) hm63 nd_F3 dX9_bestEnd_66 ?_
        refine sw_iload_n (pc := 69) C 3 dX9_bestEnd_69 rfl rfl ?_
        refine sw_icmp_ne (pc := 70) (tgt := 114) C dX9_bestEnd_70 (by decide) (fun hb70 => ?_) (fun hb70 => ?_)
        · replace hJ := iten hb70 hJ
          exact sw_sub [0, 1, 2, 3, 4, 5, 6] (by rfl) (t_T_bestEnd_114 C hrc ih _ _ _ _ _ _ hJ)
        · replace hJ := itep hb70 hJ
          refine sw_aload_n (pc := 73) C 0 dX9_bestEnd_73 rfl rfl ?_
          refine sw_iload_n (pc := 74) C 1 dX9_bestEnd_74 rfl rfl ?_
          refine sw_iload (pc := 75) C 6 dX9_bestEnd_75 rfl ?_
          obtain ⟨q77, hq77, hJ⟩ := bind_some hJ
          refine sw_callV_i (pc := 77) C (st := []) (As := [.int v1, .int v6]) (k_Ch_canRise C.2.2.2.2.2.2.1 hq77) pk_X1_canRise wd_18_18 5 rfl rfl rfl ⟨by dsimp only; omega, by dsimp only; omega⟩ ⟨rfl, rfl⟩ rfl rfl (Nat.le_of_ble_eq_true rfl) dX9_bestEnd_77 ?_
          refine sw_if_eq (pc := 80) (tgt := 114) C dX9_bestEnd_80 (by decide) (fun hb80 => ?_) (fun hb80 => ?_)
          · replace hJ := itep hb80 hJ
            exact sw_sub [0, 1, 2, 3, 4, 5, 6] (by rfl) (t_T_bestEnd_114 C hrc ih _ _ _ _ _ _ hJ)
          · replace hJ := iten hb80 hJ
            refine sw_aload_n (pc := 83) C 0 dX9_bestEnd_83 rfl rfl ?_
            refine sw_iload_n (pc := 84) C 1 dX9_bestEnd_84 rfl rfl ?_
            refine sw_iload (pc := 85) C 6 dX9_bestEnd_85 rfl ?_
            obtain ⟨q87, hq87, hJ⟩ := bind_some hJ
            refine sw_callV_i (pc := 87) C (st := []) (As := [.int v1, .int v6]) (k_Ch_risen C.2.2.2.2.2.2.1 hq87) pk_X1_risen wd_19_19 5 rfl rfl rfl ⟨by dsimp only; omega, by dsimp only; omega⟩ ⟨rfl, rfl⟩ rfl rfl (Nat.le_of_ble_eq_true rfl) dX9_bestEnd_87 ?_
            refine sw_istore (pc := 90) C dX9_bestEnd_90 (by decide) (ll2 := [(7, .int q87), (0, .ref (ad 5)), (1, .int v1), (2, .int v2), (3, .int v3), (4, .int v4), (5, .int v5), (6, .int v6)]) rfl ?_
            refine sw_iload (pc := 92) C 6 dX9_bestEnd_92 rfl ?_
            refine sw_iload (pc := 94) C 5 dX9_bestEnd_94 rfl ?_
            refine sw_aload_n (pc := 96) C 1 dX9_bestEnd_96 rfl rfl ?_
            refine sw_iload (pc := 97) C 0 dX9_bestEnd_97 rfl ?_
            refine sw_iload_n (pc := 99) C 3 dX9_bestEnd_99 rfl rfl ?_
            refine sw_iconst (pc := 100) C (v := (1 : Int32)) dX9_bestEnd_100 (by decide) ?_
            refine sw_isub (pc := 101) C dX9_bestEnd_101 ?_
            refine sw_iconst (pc := 102) C (v := (1 : Int32)) dX9_bestEnd_102 (by decide) ?_
            refine sw_iload_n (pc := 103) C 4 dX9_bestEnd_103 rfl rfl ?_
            refine sw_isub (pc := 104) C dX9_bestEnd_104 ?_
            obtain ⟨q105, hq105, hJ⟩ := bind_some hJ
            refine sw_callS_i (pc := 105) C (st := [.int v4, .int v5]) (As := [.ref (ad 5), .int q87, .int (v2 - (1 : Int32)), .int ((1 : Int32) - v3)]) (hrc hq105) pk_X9_bestEnd wd_30_9 ⟨by dsimp only; omega, by dsimp only; omega⟩ ⟨rfl, rfl⟩ rfl rfl (Nat.le_of_ble_eq_true rfl) dX9_bestEnd_105 ?_
            refine sw_imul (pc := 108) C dX9_bestEnd_108 ?_
            refine sw_mmax (pc := 109) C (st := []) wd_30_12 wd_22_22 wd_13_12 wd_22_23 ⟨by dsimp only; omega, by dsimp only [List.map, List.sum_cons, List.sum_nil, Value.category]; omega⟩ dX9_bestEnd_109 ?_
            refine sw_istore (pc := 112) C dX9_bestEnd_112 (by decide) (ll2 := [(5, .int (if v5 < (v4 * q105) then (v4 * q105) else v5)), (7, .int q87), (0, .ref (ad 5)), (1, .int v1), (2, .int v2), (3, .int v3), (4, .int v4), (6, .int v6)]) rfl ?_
            exact sw_sub [2, 3, 4, 5, 6, 0, 7] (by rfl) (t_T_bestEnd_114 C hrc ih _ _ _ _ _ _ hJ)
set_option maxHeartbeats 4000000 in
set_option maxRecDepth 100000 in
theorem t_T_bestEnd_24 {p : Program} {l : Launch} {e : Env} {s : State} {m : MethodId} {args : Array Value} {below : List Frame} {meth : Method} {c : Code} {D : va_G} {cy : Nat → ClassId} {ad : Nat → Nat} {A : Nat → Prop} (C : Cx p s m args meth c D cy cX9_bestEnd 8 RX9 (some .int) A (wC cy ad)) {X : St} {d : Nat} {rc : St → Int32 → Int32 → Int32 → Option (Int32)} {r : Int32} (hrc : ∀ {X : St} {a1 : Int32} {a2 : Int32} {a3 : Int32} {r2 : Int32}, rc X a1 a2 a3 = some r2 → Met l yX9_bestEnd (wsY yX9_bestEnd cX9_bestEnd 8 (some .int)) ({ frames := 3 + d, cells := 0, slots := 0, locals := 70 + d * 27 } : Room) (prX D cy (wC cy ad) X [.ref (ad 5), .int a1, .int a2, .int a3]) (poI D (wC cy ad) A r2 X) 0 0 A) : ∀ (v1 : Int32) (v2 : Int32) (v3 : Int32) (s0 : Int32), jT_bestEnd_24 X rc v1 v2 v3 s0 = some r → SW p l e ({ frames := 3 + (d + 1), cells := 0, slots := 0, locals := 70 + (d + 1) * 27 } : Room) s m args below meth c D 8 A (wC cy ad) (MQ below (poI D (wC cy ad) A r X) args s 0 0 A) X [(0, .ref (ad 5)), (1, .int v1), (2, .int v2), (3, .int v3)] 24 [.int s0] := by
  intro v1 v2 v3 s0 hJ
  unfold jT_bestEnd_24 at hJ
  refine sw_istore (pc := 24) C dX9_bestEnd_24 (by decide) (ll2 := [(4, .int s0), (0, .ref (ad 5)), (1, .int v1), (2, .int v2), (3, .int v3)]) rfl ?_
  refine sw_iload (pc := 26) C 0 dX9_bestEnd_26 rfl ?_
  refine sw_aload_n (pc := 28) C 1 dX9_bestEnd_28 rfl rfl ?_
  refine sw_iload_n (pc := 29) C 2 dX9_bestEnd_29 rfl rfl ?_
  refine sw_iload_n (pc := 30) C 3 dX9_bestEnd_30 rfl rfl ?_
  refine sw_iconst (pc := 31) C (v := (1 : Int32)) dX9_bestEnd_31 (by decide) ?_
  refine sw_isub (pc := 32) C dX9_bestEnd_32 ?_
  refine sw_iconst (pc := 33) C (v := (1 : Int32)) dX9_bestEnd_33 (by decide) ?_
  refine sw_iload_n (pc := 34) C 4 dX9_bestEnd_34 rfl rfl ?_
  refine sw_isub (pc := 35) C dX9_bestEnd_35 ?_
  obtain ⟨q36, hq36, hJ⟩ := bind_some hJ
  refine sw_callS_i (pc := 36) C (st := [.int s0]) (As := [.ref (ad 5), .int v1, .int (v2 - (1 : Int32)), .int ((1 : Int32) - v3)]) (hrc hq36) pk_X9_bestEnd wd_30_9 ⟨by dsimp only; omega, by dsimp only; omega⟩ ⟨rfl, rfl⟩ rfl rfl (Nat.le_of_ble_eq_true rfl) dX9_bestEnd_36 ?_
  refine sw_imul (pc := 39) C dX9_bestEnd_39 ?_
  refine sw_istore (pc := 40) C dX9_bestEnd_40 (by decide) (ll2 := [(5, .int (s0 * q36)), (4, .int s0), (0, .ref (ad 5)), (1, .int v1), (2, .int v2), (3, .int v3)]) rfl ?_
  refine sw_iconst (pc := 42) C (v := (0 : Int32)) dX9_bestEnd_42 (by decide) ?_
  refine sw_istore (pc := 43) C dX9_bestEnd_43 (by decide) (ll2 := [(6, .int (0 : Int32)), (5, .int (s0 * q36)), (4, .int s0), (0, .ref (ad 5)), (1, .int v1), (2, .int v2), (3, .int v3)]) rfl ?_
  exact sw_sub [3, 4, 5, 6, 2, 1, 0] (by rfl) (t_T_bestEnd_45 C hrc _ _ _ _ _ _ _ hJ)
set_option maxHeartbeats 4000000 in
set_option maxRecDepth 100000 in
theorem t_T_bestEnd_0 {p : Program} {l : Launch} {e : Env} {s : State} {m : MethodId} {args : Array Value} {below : List Frame} {meth : Method} {c : Code} {D : va_G} {cy : Nat → ClassId} {ad : Nat → Nat} {A : Nat → Prop} (C : Cx p s m args meth c D cy cX9_bestEnd 8 RX9 (some .int) A (wC cy ad)) {X : St} {d : Nat} {rc : St → Int32 → Int32 → Int32 → Option (Int32)} {r : Int32} (hrc : ∀ {X : St} {a1 : Int32} {a2 : Int32} {a3 : Int32} {r2 : Int32}, rc X a1 a2 a3 = some r2 → Met l yX9_bestEnd (wsY yX9_bestEnd cX9_bestEnd 8 (some .int)) ({ frames := 3 + d, cells := 0, slots := 0, locals := 70 + d * 27 } : Room) (prX D cy (wC cy ad) X [.ref (ad 5), .int a1, .int a2, .int a3]) (poI D (wC cy ad) A r2 X) 0 0 A) : ∀ (a1 : Int32) (a2 : Int32) (a3 : Int32), jT_bestEnd_0 X rc a1 a2 a3 = some r → SW p l e ({ frames := 3 + (d + 1), cells := 0, slots := 0, locals := 70 + (d + 1) * 27 } : Room) s m args below meth c D 8 A (wC cy ad) (MQ below (poI D (wC cy ad) A r X) args s 0 0 A) X [(0, .ref (ad 5)), (1, .int a1), (2, .int a2), (3, .int a3)] 0 [] := by
  intro a1 a2 a3 hJ
  unfold jT_bestEnd_0 at hJ
  refine sw_iload_n (pc := 0) C 2 dX9_bestEnd_0 rfl rfl ?_
  refine sw_if_le (pc := 1) (tgt := 9) C dX9_bestEnd_1 (by decide) (fun hb1 => ?_) (fun hb1 => ?_)
  · replace hJ := itep hb1 hJ
    exact sw_sub [0, 1] (by rfl) (t_T_bestEnd_9 C hrc _ hJ)
  · replace hJ := iten hb1 hJ
    refine sw_iload_n (pc := 4) C 2 dX9_bestEnd_4 rfl rfl ?_
    refine sw_iconst (pc := 5) C (v := (5 : Int32)) dX9_bestEnd_5 (by decide) ?_
    refine sw_icmp_le (pc := 6) (tgt := 15) C dX9_bestEnd_6 (by decide) (fun hb6 => ?_) (fun hb6 => ?_)
    · replace hJ := itep hb6 hJ
      refine sw_iload_n (pc := 15) C 3 dX9_bestEnd_15 rfl rfl ?_
      refine sw_if_ne (pc := 16) (tgt := 23) C dX9_bestEnd_16 (by decide) (fun hb16 => ?_) (fun hb16 => ?_)
      · replace hJ := iten hb16 hJ
        refine sw_iconst (pc := 23) C (v := (-1 : Int32)) dX9_bestEnd_23 (by decide) ?_
        exact sw_sub [0, 1, 2, 3] (by rfl) (t_T_bestEnd_24 C hrc _ _ _ _ hJ)
      · replace hJ := itep hb16 hJ
        refine sw_iconst (pc := 19) C (v := (1 : Int32)) dX9_bestEnd_19 (by decide) ?_
        refine sw_goto (pc := 20) (tgt := 24) C dX9_bestEnd_20 (by decide) ?_
        exact sw_sub [0, 1, 2, 3] (by rfl) (t_T_bestEnd_24 C hrc _ _ _ _ hJ)
    · replace hJ := iten hb6 hJ
      exact sw_sub [0, 1] (by rfl) (t_T_bestEnd_9 C hrc _ hJ)
set_option maxHeartbeats 4000000 in
set_option maxRecDepth 100000 in
theorem k_T_bestEnd {l : Launch} {D : va_G} {cy : Nat → ClassId} {ad : Nat → Nat} {A : Nat → Prop} (hD : ∀ X, va_D A (wC cy ad X)) : ∀ (d : Nat) {X : St} {a1 : Int32} {a2 : Int32} {a3 : Int32} {r : Int32}, jT_bestEnd d X a1 a2 a3 = some r → Met l yX9_bestEnd (wsY yX9_bestEnd cX9_bestEnd 8 (some .int)) ({ frames := 3 + d, cells := 0, slots := 0, locals := 70 + d * 27 } : Room) (prX D cy (wC cy ad) X [.ref (ad 5), .int a1, .int a2, .int a3]) (poI D (wC cy ad) A r X) 0 0 A := by
  intro d
  induction d with
  | zero => intro X a1 a2 a3 r hJ; exact absurd (show (none : Option (Int32)) = some r from hJ) (fun h => by cases h)
  | succ d ih =>
    intro X a1 a2 a3 r hJ
    rw [jT_bestEnd] at hJ
    exact sw_met (by decide +kernel) (Nat.le_of_ble_eq_true rfl) hD (fun p e s m args below meth c C => t_T_bestEnd_0 C ih _ _ _ hJ)
set_option maxHeartbeats 4000000 in
set_option maxRecDepth 100000 in
theorem t_T_midnight {p : Program} {l : Launch} {e : Env} {s : State} {m : MethodId} {args : Array Value} {below : List Frame} {meth : Method} {c : Code} {D : va_G} {cy : Nat → ClassId} {ad : Nat → Nat} {A : Nat → Prop} (C : Cx p s m args meth c D cy cX9_midnight 2 RX9 (some .int) A (wC cy ad)) {r : Int32 × St} : ∀ (X : St) (a1 : Int32), jT_midnight X a1 = some r → SW p l e ({ frames := 12, cells := 0, slots := 0, locals := 313 } : Room) s m args below meth c D 2 A (wC cy ad) (MQ below (poI D (wC cy ad) A r.1 r.2) args s 0 0 A) X [(0, .ref (ad 0)), (1, .int a1)] 0 [] := by
  intro X a1 hJ
  unfold jT_midnight at hJ
  refine sw_iload_n (pc := 0) C 1 dX9_midnight_0 rfl rfl ?_
  refine sw_iconst (pc := 1) C (v := (1 : Int32)) dX9_midnight_1 (by decide) ?_
  refine sw_iconst (pc := 2) C (v := (5 : Int32)) dX9_midnight_2 (by decide) ?_
  obtain ⟨q3, hq3, hJ⟩ := bind_some hJ
  refine sw_callS_i (pc := 3) C (st := []) (As := [.int a1, .int (1 : Int32), .int (5 : Int32)]) (k_T_isBetween C.2.2.2.2.2.2.1 hq3) pk_X9_isBetween wd_12_12 ⟨Nat.le_of_ble_eq_true rfl, Nat.le_of_ble_eq_true rfl⟩ ⟨rfl, rfl⟩ rfl rfl (Nat.le_of_ble_eq_true rfl) dX9_midnight_3 ?_
  refine sw_if_ne (pc := 6) (tgt := 12) C dX9_midnight_6 (by decide) (fun hb6 => ?_) (fun hb6 => ?_)
  · replace hJ := iten hb6 hJ
    refine sw_aload_n (pc := 12) C 0 dX9_midnight_12 rfl rfl ?_
    refine gC_0_9 (pc := 13) C wd_30_7 dX9_midnight_13 ?_
    refine sw_bipush (pc := 16) C (v := (30 : Int32)) dX9_midnight_16 (by decide) ?_
    refine sw_icmp_lt (pc := 18) (tgt := 24) C dX9_midnight_18 (by decide) (fun hb18 => ?_) (fun hb18 => ?_)
    · replace hJ := itep hb18 hJ
      refine sw_aload_n (pc := 24) C 0 dX9_midnight_24 rfl rfl ?_
      refine sw_dup (pc := 25) C dX9_midnight_25 rfl ?_
      refine gC_0_9 (pc := 26) C wd_30_7 dX9_midnight_26 ?_
      refine sw_iconst (pc := 29) C (v := (1 : Int32)) dX9_midnight_29 (by decide) ?_
      refine sw_iadd (pc := 30) C dX9_midnight_30 ?_
      refine pC_0_9 (pc := 31) C wd_30_7 dX9_midnight_31 ?_
      refine sw_aload_n (pc := 34) C 0 dX9_midnight_34 rfl rfl ?_
      refine gC_0_3 (pc := 35) C wd_2_4 dX9_midnight_35 ?_
      refine sw_aload_n (pc := 38) C 0 dX9_midnight_38 rfl rfl ?_
      refine gC_0_6 (pc := 39) C wd_15_16 dX9_midnight_39 ?_
      refine sw_iload_n (pc := 42) C 1 dX9_midnight_42 rfl rfl ?_
      refine sw_iconst (pc := 43) C (v := (0 : Int32)) dX9_midnight_43 (by decide) ?_
      obtain ⟨q44, hq44, hJ⟩ := bind_some hJ
      refine sw_callS_i (pc := 44) C (st := []) (As := [.ref (ad 5), .int (sF (pF X 9 ((sF X 9) + (1 : Int32))) 6), .int a1, .int (0 : Int32)]) (k_T_bestEnd C.2.2.2.2.2.2.1 8 hq44) pk_X9_bestEnd wd_30_9 ⟨Nat.le_of_ble_eq_true rfl, Nat.le_of_ble_eq_true rfl⟩ ⟨rfl, rfl⟩ rfl rfl (Nat.le_of_ble_eq_true rfl) dX9_midnight_44 ?_
      obtain rfl := Option.some.inj hJ
      exact sw_iret (pc := 47) C dX9_midnight_47
    · replace hJ := iten hb18 hJ
      refine sw_ldc (pc := 21) C (v := (-100103 : Int32)) wd_30_8 dX9_midnight_21 ?_
      obtain rfl := Option.some.inj hJ
      exact sw_iret (pc := 23) C dX9_midnight_23
  · replace hJ := itep hb6 hJ
    refine sw_ldc (pc := 9) C (v := (-100102 : Int32)) wd_30_6 dX9_midnight_9 ?_
    obtain rfl := Option.some.inj hJ
    exact sw_iret (pc := 11) C dX9_midnight_11
set_option maxHeartbeats 4000000 in
set_option maxRecDepth 100000 in
theorem k_T_midnight {l : Launch} {D : va_G} {cy : Nat → ClassId} {ad : Nat → Nat} {A : Nat → Prop} (hD : ∀ X, va_D A (wC cy ad X)) {X : St} {a1 : Int32} {r : Int32 × St} (hJ : jT_midnight X a1 = some r) : Met l yX9_midnight (wsY yX9_midnight cX9_midnight 2 (some .int)) ({ frames := 12, cells := 0, slots := 0, locals := 313 } : Room) (prX D cy (wC cy ad) X [.ref (ad 0), .int a1]) (poI D (wC cy ad) A r.1 r.2) 0 0 A := sw_met (by decide +kernel) (Nat.le_of_ble_eq_true rfl) hD (fun p e s m args below meth c C => t_T_midnight C _ _ hJ)
set_option maxHeartbeats 4000000 in
set_option maxRecDepth 100000 in
theorem t_T_sessions_139 {p : Program} {l : Launch} {e : Env} {s : State} {m : MethodId} {args : Array Value} {below : List Frame} {meth : Method} {c : Code} {D : va_G} {cy : Nat → ClassId} {ad : Nat → Nat} {A : Nat → Prop} (C : Cx p s m args meth c D cy cX9_sessions 11 RX9 (some .int) A (wC cy ad)) {X : St} {r : Int32} : ∀ (v3 : Int32) (v5 : Int32) (v6 : Int32) (v7 : Int64), jT_sessions_139 X v3 v5 v6 v7 = some r → SW p l e ({ frames := 3, cells := 0, slots := 0, locals := 70 } : Room) s m args below meth c D 11 A (wC cy ad) (MQ below (poI D (wC cy ad) A r X) args s 0 0 A) X [(0, .ref (ad 0)), (3, .int v3), (5, .int v5), (6, .int v6), (7, .long v7)] 139 [] := by
  intro v3 v5 v6 v7 hJ
  unfold jT_sessions_139 at hJ
  refine sw_iload_n (pc := 139) C 1 dX9_sessions_139 rfl rfl ?_
  by_cases hs140_0 : v3 = (0 : Int32)
  · replace hJ := itep hs140_0 hJ
    refine sw_tblIn (pc := 140) C (0 : Int32) (off := 28) (tgt := 168) dX9_sessions_140 hs140_0 (by decide) (by decide) rfl (by decide) ?_
    refine sw_iload (pc := 168) C 2 dX9_sessions_168 rfl ?_
    obtain ⟨q170, hq170, hJ⟩ := bind_some hJ
    refine sw_callS_i (pc := 170) C (st := []) (As := [.int v5]) (k_Ro_size C.2.2.2.2.2.2.1 hq170) pk_X6_size wd_20_13 ⟨Nat.le_of_ble_eq_true rfl, Nat.le_of_ble_eq_true rfl⟩ ⟨rfl, rfl⟩ rfl rfl (Nat.le_of_ble_eq_true rfl) dX9_sessions_170 ?_
    obtain rfl := Option.some.inj hJ
    exact sw_iret (pc := 173) C dX9_sessions_173
  replace hJ := iten hs140_0 hJ
  by_cases hs140_1 : v3 = (1 : Int32)
  · replace hJ := itep hs140_1 hJ
    refine sw_tblIn (pc := 140) C (1 : Int32) (off := 34) (tgt := 174) dX9_sessions_140 hs140_1 (by decide) (by decide) rfl (by decide) ?_
    refine sw_iload (pc := 174) C 3 dX9_sessions_174 rfl ?_
    obtain rfl := Option.some.inj hJ
    exact sw_iret (pc := 176) C dX9_sessions_176
  replace hJ := iten hs140_1 hJ
  by_cases hs140_2 : v3 = (2 : Int32)
  · replace hJ := itep hs140_2 hJ
    refine sw_tblIn (pc := 140) C (2 : Int32) (off := 37) (tgt := 177) dX9_sessions_140 hs140_2 (by decide) (by decide) rfl (by decide) ?_
    refine sw_aload_n (pc := 177) C 0 dX9_sessions_177 rfl rfl ?_
    refine gC_0_3 (pc := 178) C wd_2_4 dX9_sessions_178 ?_
    refine sw_iload (pc := 181) C 2 dX9_sessions_181 rfl ?_
    obtain ⟨q183, hq183, hJ⟩ := bind_some hJ
    refine sw_callV_i (pc := 183) C (st := []) (As := [.int v5]) (k_Ch_billOf C.2.2.2.2.2.2.1 hq183) pk_X1_billOf wd_22_6 5 rfl rfl rfl ⟨Nat.le_of_ble_eq_true rfl, Nat.le_of_ble_eq_true rfl⟩ ⟨rfl, rfl⟩ rfl rfl (Nat.le_of_ble_eq_true rfl) dX9_sessions_183 ?_
    obtain rfl := Option.some.inj hJ
    exact sw_iret (pc := 186) C dX9_sessions_186
  replace hJ := iten hs140_2 hJ
  have e140_0 := tbl_ne (0 : Int32) (a := 0) hs140_0 (by decide)
  have e140_1 := tbl_ne (1 : Int32) (a := 1) hs140_1 (by decide)
  have e140_2 := tbl_ne (2 : Int32) (a := 2) hs140_2 (by decide)
  refine sw_tblOut (pc := 140) (tgt := 187) C dX9_sessions_140 (by omega) (by decide) ?_
  refine sw_lload (pc := 187) C 4 dX9_sessions_187 rfl ?_
  refine sw_l2i (pc := 189) C dX9_sessions_189 ?_
  obtain rfl := Option.some.inj hJ
  exact sw_iret (pc := 190) C dX9_sessions_190
set_option maxHeartbeats 4000000 in
set_option maxRecDepth 100000 in
theorem t_T_sessions_133 {p : Program} {l : Launch} {e : Env} {s : State} {m : MethodId} {args : Array Value} {below : List Frame} {meth : Method} {c : Code} {D : va_G} {cy : Nat → ClassId} {ad : Nat → Nat} {A : Nat → Prop} (C : Cx p s m args meth c D cy cX9_sessions 11 RX9 (some .int) A (wC cy ad)) {X : St} {k51 : Int32 → Int32 → Int32 → Int32 → Int32 → Int64 → Int32 → Option (Int32)} {r : Int32} (h51 : ∀ (v1 : Int32) (v3 : Int32) (v4 : Int32) (v5 : Int32) (v6 : Int32) (v7 : Int64) (v9 : Int32), k51 v1 v3 v4 v5 v6 v7 v9 = some r → SW p l e ({ frames := 3, cells := 0, slots := 0, locals := 70 } : Room) s m args below meth c D 11 A (wC cy ad) (MQ below (poI D (wC cy ad) A r X) args s 0 0 A) X [(0, .ref (ad 0)), (1, .int v1), (3, .int v3), (4, .int v4), (5, .int v5), (6, .int v6), (7, .long v7), (9, .int v9)] 51 []) : ∀ (v1 : Int32) (v3 : Int32) (v4 : Int32) (v5 : Int32) (v6 : Int32) (v7 : Int64) (v9 : Int32), jT_sessions_133 X k51 v1 v3 v4 v5 v6 v7 v9 = some r → SW p l e ({ frames := 3, cells := 0, slots := 0, locals := 70 } : Room) s m args below meth c D 11 A (wC cy ad) (MQ below (poI D (wC cy ad) A r X) args s 0 0 A) X [(0, .ref (ad 0)), (1, .int v1), (3, .int v3), (4, .int v4), (5, .int v5), (6, .int v6), (7, .long v7), (9, .int v9)] 133 [] := by
  intro v1 v3 v4 v5 v6 v7 v9 hJ
  unfold jT_sessions_133 at hJ
  refine sw_iinc (pc := 133) C 7 dX9_sessions_133 rfl (v := (v9 + (1 : Int32))) (congrArg (fun z => v9 + z) (by decide)) (by decide) (ll2 := [(9, .int (v9 + (1 : Int32))), (0, .ref (ad 0)), (1, .int v1), (3, .int v3), (4, .int v4), (5, .int v5), (6, .int v6), (7, .long v7)]) rfl ?_
  refine sw_goto (pc := 136) (tgt := 51) C dX9_sessions_136 (by decide) ?_
  exact sw_sub [1, 2, 3, 4, 5, 6, 7, 0] (by rfl) (h51 _ _ _ _ _ _ _ hJ)
set_option maxHeartbeats 4000000 in
set_option maxRecDepth 100000 in
theorem t_T_sessions_130 {p : Program} {l : Launch} {e : Env} {s : State} {m : MethodId} {args : Array Value} {below : List Frame} {meth : Method} {c : Code} {D : va_G} {cy : Nat → ClassId} {ad : Nat → Nat} {A : Nat → Prop} (C : Cx p s m args meth c D cy cX9_sessions 11 RX9 (some .int) A (wC cy ad)) {X : St} {k51 : Int32 → Int32 → Int32 → Int32 → Int32 → Int64 → Int32 → Option (Int32)} {r : Int32} (h51 : ∀ (v1 : Int32) (v3 : Int32) (v4 : Int32) (v5 : Int32) (v6 : Int32) (v7 : Int64) (v9 : Int32), k51 v1 v3 v4 v5 v6 v7 v9 = some r → SW p l e ({ frames := 3, cells := 0, slots := 0, locals := 70 } : Room) s m args below meth c D 11 A (wC cy ad) (MQ below (poI D (wC cy ad) A r X) args s 0 0 A) X [(0, .ref (ad 0)), (1, .int v1), (3, .int v3), (4, .int v4), (5, .int v5), (6, .int v6), (7, .long v7), (9, .int v9)] 51 []) : ∀ (v1 : Int32) (v3 : Int32) (v4 : Int32) (v5 : Int32) (v7 : Int64) (v9 : Int32) (s0 : Int32) (s1 : Int32), jT_sessions_130 X k51 v1 v3 v4 v5 v7 v9 s0 s1 = some r → SW p l e ({ frames := 3, cells := 0, slots := 0, locals := 70 } : Room) s m args below meth c D 11 A (wC cy ad) (MQ below (poI D (wC cy ad) A r X) args s 0 0 A) X [(0, .ref (ad 0)), (1, .int v1), (3, .int v3), (4, .int v4), (5, .int v5), (7, .long v7), (9, .int v9)] 130 [.int s1, .int s0] := by
  intro v1 v3 v4 v5 v7 v9 s0 s1 hJ
  unfold jT_sessions_130 at hJ
  refine sw_iadd (pc := 130) C dX9_sessions_130 ?_
  refine sw_istore (pc := 131) C dX9_sessions_131 (by decide) (ll2 := [(6, .int (s0 + s1)), (0, .ref (ad 0)), (1, .int v1), (3, .int v3), (4, .int v4), (5, .int v5), (7, .long v7), (9, .int v9)]) rfl ?_
  exact sw_sub [1, 2, 3, 4, 5, 0, 6, 7] (by rfl) (t_T_sessions_133 C h51 _ _ _ _ _ _ _ hJ)
set_option maxHeartbeats 4000000 in
set_option maxRecDepth 100000 in
theorem t_T_sessions_51 {p : Program} {l : Launch} {e : Env} {s : State} {m : MethodId} {args : Array Value} {below : List Frame} {meth : Method} {c : Code} {D : va_G} {cy : Nat → ClassId} {ad : Nat → Nat} {A : Nat → Prop} (C : Cx p s m args meth c D cy cX9_sessions 11 RX9 (some .int) A (wC cy ad)) {X : St} {r : Int32} : ∀ (n : Nat) (v1 : Int32) (v3 : Int32) (v4 : Int32) (v5 : Int32) (v6 : Int32) (v7 : Int64) (v9 : Int32), jT_sessions_51 X n v1 v3 v4 v5 v6 v7 v9 = some r → SW p l e ({ frames := 3, cells := 0, slots := 0, locals := 70 } : Room) s m args below meth c D 11 A (wC cy ad) (MQ below (poI D (wC cy ad) A r X) args s 0 0 A) X [(0, .ref (ad 0)), (1, .int v1), (3, .int v3), (4, .int v4), (5, .int v5), (6, .int v6), (7, .long v7), (9, .int v9)] 51 [] := by
  intro n
  induction n with
  | zero => intro v1 v3 v4 v5 v6 v7 v9 hJ; exact absurd (show (none : Option (Int32)) = some r from hJ) (fun h => by cases h)
  | succ n ih =>
    intro v1 v3 v4 v5 v6 v7 v9 hJ
    rw [jT_sessions_51] at hJ
    refine sw_iload (pc := 51) C 7 dX9_sessions_51 rfl ?_
    refine sw_iload_n (pc := 53) C 1 dX9_sessions_53 rfl rfl ?_
    refine sw_icmp_ge (pc := 54) (tgt := 139) C dX9_sessions_54 (by decide) (fun hb54 => ?_) (fun hb54 => ?_)
    · replace hJ := itep hb54 hJ
      exact sw_sub [0, 2, 4, 5, 6] (by rfl) (t_T_sessions_139 C _ _ _ _ hJ)
    · replace hJ := iten hb54 hJ
      refine sw_iload (pc := 57) C 3 dX9_sessions_57 rfl ?_
      refine sw_if_le (pc := 59) (tgt := 139) C dX9_sessions_59 (by decide) (fun hb59 => ?_) (fun hb59 => ?_)
      · replace hJ := itep hb59 hJ
        exact sw_sub [0, 2, 4, 5, 6] (by rfl) (t_T_sessions_139 C _ _ _ _ hJ)
      · replace hJ := iten hb59 hJ
        refine sw_ldc2 (pc := 62) C (v := (1103515245 : Int64)) wd_32_5 dX9_sessions_62 ?_
        refine sw_lload (pc := 65) C 6 dX9_sessions_65 rfl ?_
        refine sw_lmul (pc := 67) C dX9_sessions_67 ?_
        refine sw_ldc2 (pc := 68) C (v := (12345 : Int64)) wd_32_6 dX9_sessions_68 ?_
        refine sw_ladd (pc := 71) C dX9_sessions_71 ?_
        refine sw_ldc2 (pc := 72) C (v := (2147483648 : Int64)) wd_32_7 dX9_sessions_72 ?_
        refine sw_lrem (pc := 75) C dX9_sessions_75 (by decide) ?_
        refine sw_lstore (pc := 76) C dX9_sessions_76 (by decide) (ll2 := [(7, .long ((((1103515245 : Int64) * v7) + (12345 : Int64)) - (((1103515245 : Int64) * v7) + (12345 : Int64)) / (2147483648 : Int64) * (2147483648 : Int64))), (0, .ref (ad 0)), (1, .int v1), (3, .int v3), (4, .int v4), (5, .int v5), (6, .int v6), (9, .int v9)]) rfl ?_
        refine sw_lload (pc := 78) C 0 dX9_sessions_78 rfl ?_
        refine sw_ldc2 (pc := 80) C (v := (65536 : Int64)) wd_32_8 dX9_sessions_80 ?_
        refine sw_ldiv (pc := 83) C dX9_sessions_83 (by decide) ?_
        refine sw_iload (pc := 84) C 4 dX9_sessions_84 rfl ?_
        refine sw_i2l (pc := 86) C dX9_sessions_86 ?_
        obtain ⟨hd87, hJ⟩ := gdn hJ
        refine sw_lrem (pc := 87) C dX9_sessions_87 hd87 ?_
        refine sw_l2i (pc := 88) C dX9_sessions_88 ?_
        refine sw_istore (pc := 89) C dX9_sessions_89 (by decide) (ll2 := [(10, .int ((((((1103515245 : Int64) * v7) + (12345 : Int64)) - (((1103515245 : Int64) * v7) + (12345 : Int64)) / (2147483648 : Int64) * (2147483648 : Int64)) / (65536 : Int64)) - (((((1103515245 : Int64) * v7) + (12345 : Int64)) - (((1103515245 : Int64) * v7) + (12345 : Int64)) / (2147483648 : Int64) * (2147483648 : Int64)) / (65536 : Int64)) / v4.toInt64 * v4.toInt64).toInt32), (7, .long ((((1103515245 : Int64) * v7) + (12345 : Int64)) - (((1103515245 : Int64) * v7) + (12345 : Int64)) / (2147483648 : Int64) * (2147483648 : Int64))), (0, .ref (ad 0)), (1, .int v1), (3, .int v3), (4, .int v4), (5, .int v5), (6, .int v6), (9, .int v9)]) rfl ?_
        refine sw_aload_n (pc := 91) C 2 dX9_sessions_91 rfl rfl ?_
        refine gC_0_3 (pc := 92) C wd_2_4 dX9_sessions_92 ?_
        refine sw_iload (pc := 95) C 6 dX9_sessions_95 rfl ?_
        refine sw_iload (pc := 97) C 0 dX9_sessions_97 rfl ?_
        obtain ⟨q99, hq99, hJ⟩ := bind_some hJ
        refine sw_callV_i (pc := 99) C (st := []) (As := [.int v5, .int ((((((1103515245 : Int64) * v7) + (12345 : Int64)) - (((1103515245 : Int64) * v7) + (12345 : Int64)) / (2147483648 : Int64) * (2147483648 : Int64)) / (65536 : Int64)) - (((((1103515245 : Int64) * v7) + (12345 : Int64)) - (((1103515245 : Int64) * v7) + (12345 : Int64)) / (2147483648 : Int64) * (2147483648 : Int64)) / (65536 : Int64)) / v4.toInt64 * v4.toInt64).toInt32]) (k_Ch_canRise C.2.2.2.2.2.2.1 hq99) pk_X1_canRise wd_18_18 5 rfl rfl rfl ⟨Nat.le_of_ble_eq_true rfl, Nat.le_of_ble_eq_true rfl⟩ ⟨rfl, rfl⟩ rfl rfl (Nat.le_of_ble_eq_true rfl) dX9_sessions_99 ?_
        refine sw_if_eq (pc := 102) (tgt := 133) C dX9_sessions_102 (by decide) (fun hb102 => ?_) (fun hb102 => ?_)
        · replace hJ := itep hb102 hJ
          exact sw_sub [2, 3, 4, 5, 6, 7, 1, 8] (by rfl) (t_T_sessions_133 C ih _ _ _ _ _ _ _ hJ)
        · replace hJ := iten hb102 hJ
          refine sw_aload_n (pc := 105) C 2 dX9_sessions_105 rfl rfl ?_
          refine gC_0_3 (pc := 106) C wd_2_4 dX9_sessions_106 ?_
          refine sw_iload (pc := 109) C 6 dX9_sessions_109 rfl ?_
          refine sw_iload (pc := 111) C 0 dX9_sessions_111 rfl ?_
          obtain ⟨q113, hq113, hJ⟩ := bind_some hJ
          refine sw_callV_i (pc := 113) C (st := []) (As := [.int v5, .int ((((((1103515245 : Int64) * v7) + (12345 : Int64)) - (((1103515245 : Int64) * v7) + (12345 : Int64)) / (2147483648 : Int64) * (2147483648 : Int64)) / (65536 : Int64)) - (((((1103515245 : Int64) * v7) + (12345 : Int64)) - (((1103515245 : Int64) * v7) + (12345 : Int64)) / (2147483648 : Int64) * (2147483648 : Int64)) / (65536 : Int64)) / v4.toInt64 * v4.toInt64).toInt32]) (k_Ch_risen C.2.2.2.2.2.2.1 hq113) pk_X1_risen wd_19_19 5 rfl rfl rfl ⟨Nat.le_of_ble_eq_true rfl, Nat.le_of_ble_eq_true rfl⟩ ⟨rfl, rfl⟩ rfl rfl (Nat.le_of_ble_eq_true rfl) dX9_sessions_113 ?_
          refine sw_istore (pc := 116) C dX9_sessions_116 (by decide) (ll2 := [(5, .int q113), (10, .int ((((((1103515245 : Int64) * v7) + (12345 : Int64)) - (((1103515245 : Int64) * v7) + (12345 : Int64)) / (2147483648 : Int64) * (2147483648 : Int64)) / (65536 : Int64)) - (((((1103515245 : Int64) * v7) + (12345 : Int64)) - (((1103515245 : Int64) * v7) + (12345 : Int64)) / (2147483648 : Int64) * (2147483648 : Int64)) / (65536 : Int64)) / v4.toInt64 * v4.toInt64).toInt32), (7, .long ((((1103515245 : Int64) * v7) + (12345 : Int64)) - (((1103515245 : Int64) * v7) + (12345 : Int64)) / (2147483648 : Int64) * (2147483648 : Int64))), (0, .ref (ad 0)), (1, .int v1), (3, .int v3), (4, .int v4), (6, .int v6), (9, .int v9)]) rfl ?_
          refine sw_iload (pc := 118) C 7 dX9_sessions_118 rfl ?_
          refine sw_iload (pc := 120) C 0 dX9_sessions_120 rfl ?_
          refine sw_if_ne (pc := 122) (tgt := 129) C dX9_sessions_122 (by decide) (fun hb122 => ?_) (fun hb122 => ?_)
          · replace hJ := iten hb122 hJ
            refine sw_iconst (pc := 129) C (v := (0 : Int32)) dX9_sessions_129 (by decide) ?_
            exact sw_sub [3, 4, 5, 6, 0, 2, 8] (by rfl) (t_T_sessions_130 C ih _ _ _ _ _ _ _ _ hJ)
          · replace hJ := itep hb122 hJ
            refine sw_iconst (pc := 125) C (v := (1 : Int32)) dX9_sessions_125 (by decide) ?_
            refine sw_goto (pc := 126) (tgt := 130) C dX9_sessions_126 (by decide) ?_
            exact sw_sub [3, 4, 5, 6, 0, 2, 8] (by rfl) (t_T_sessions_130 C ih _ _ _ _ _ _ _ _ hJ)
set_option maxHeartbeats 4000000 in
set_option maxRecDepth 100000 in
theorem t_T_sessions {p : Program} {l : Launch} {e : Env} {s : State} {m : MethodId} {args : Array Value} {below : List Frame} {meth : Method} {c : Code} {D : va_G} {cy : Nat → ClassId} {ad : Nat → Nat} {A : Nat → Prop} (C : Cx p s m args meth c D cy cX9_sessions 11 RX9 (some .int) A (wC cy ad)) {X : St} {r : Int32} : ∀ (a1 : Int32) (a2 : Int32) (a3 : Int32), jT_sessions X a1 a2 a3 = some r → SW p l e ({ frames := 3, cells := 0, slots := 0, locals := 70 } : Room) s m args below meth c D 11 A (wC cy ad) (MQ below (poI D (wC cy ad) A r X) args s 0 0 A) X [(0, .ref (ad 0)), (1, .int a1), (2, .int a2), (3, .int a3)] 0 [] := by
  intro a1 a2 a3 hJ
  unfold jT_sessions at hJ
  refine sw_iload_n (pc := 0) C 1 dX9_sessions_0 rfl rfl ?_
  refine sw_iconst (pc := 1) C (v := (1 : Int32)) dX9_sessions_1 (by decide) ?_
  refine sw_bipush (pc := 2) C (v := (60 : Int32)) dX9_sessions_2 (by decide) ?_
  obtain ⟨q4, hq4, hJ⟩ := bind_some hJ
  refine sw_callS_i (pc := 4) C (st := []) (As := [.int a1, .int (1 : Int32), .int (60 : Int32)]) (k_T_isBetween C.2.2.2.2.2.2.1 hq4) pk_X9_isBetween wd_12_12 ⟨Nat.le_of_ble_eq_true rfl, Nat.le_of_ble_eq_true rfl⟩ ⟨rfl, rfl⟩ rfl rfl (Nat.le_of_ble_eq_true rfl) dX9_sessions_4 ?_
  refine sw_if_eq (pc := 7) (tgt := 23) C dX9_sessions_7 (by decide) (fun hb7 => ?_) (fun hb7 => ?_)
  · replace hJ := itep hb7 hJ
    refine sw_bipush (pc := 23) C (v := (-102 : Int32)) dX9_sessions_23 (by decide) ?_
    obtain rfl := Option.some.inj hJ
    exact sw_iret (pc := 25) C dX9_sessions_25
  · replace hJ := iten hb7 hJ
    refine sw_iload_n (pc := 10) C 2 dX9_sessions_10 rfl rfl ?_
    refine sw_if_lt (pc := 11) (tgt := 23) C dX9_sessions_11 (by decide) (fun hb11 => ?_) (fun hb11 => ?_)
    · replace hJ := itep hb11 hJ
      refine sw_bipush (pc := 23) C (v := (-102 : Int32)) dX9_sessions_23 (by decide) ?_
      obtain rfl := Option.some.inj hJ
      exact sw_iret (pc := 25) C dX9_sessions_25
    · replace hJ := iten hb11 hJ
      refine sw_iload_n (pc := 14) C 3 dX9_sessions_14 rfl rfl ?_
      refine sw_iconst (pc := 15) C (v := (0 : Int32)) dX9_sessions_15 (by decide) ?_
      refine sw_iconst (pc := 16) C (v := (3 : Int32)) dX9_sessions_16 (by decide) ?_
      obtain ⟨q17, hq17, hJ⟩ := bind_some hJ
      refine sw_callS_i (pc := 17) C (st := []) (As := [.int a3, .int (0 : Int32), .int (3 : Int32)]) (k_T_isBetween C.2.2.2.2.2.2.1 hq17) pk_X9_isBetween wd_12_12 ⟨Nat.le_of_ble_eq_true rfl, Nat.le_of_ble_eq_true rfl⟩ ⟨rfl, rfl⟩ rfl rfl (Nat.le_of_ble_eq_true rfl) dX9_sessions_17 ?_
      refine sw_if_ne (pc := 20) (tgt := 26) C dX9_sessions_20 (by decide) (fun hb20 => ?_) (fun hb20 => ?_)
      · replace hJ := iten hb20 hJ
        refine sw_aload_n (pc := 26) C 0 dX9_sessions_26 rfl rfl ?_
        refine gC_0_3 (pc := 27) C wd_2_4 dX9_sessions_27 ?_
        obtain ⟨q30, hq30, hJ⟩ := bind_some hJ
        refine sw_callV_i (pc := 30) C (st := []) (As := []) (k_Ch_size C.2.2.2.2.2.2.1 hq30) pk_X1_size wd_13_1 5 rfl rfl rfl ⟨Nat.le_of_ble_eq_true rfl, Nat.le_of_ble_eq_true rfl⟩ ⟨rfl, rfl⟩ rfl rfl (Nat.le_of_ble_eq_true rfl) dX9_sessions_30 ?_
        refine sw_istore (pc := 33) C dX9_sessions_33 (by decide) (ll2 := [(4, .int q30), (0, .ref (ad 0)), (1, .int a1), (2, .int a2), (3, .int a3)]) rfl ?_
        refine sw_aload_n (pc := 35) C 1 dX9_sessions_35 rfl rfl ?_
        refine gC_0_6 (pc := 36) C wd_15_16 dX9_sessions_36 ?_
        refine sw_istore (pc := 39) C dX9_sessions_39 (by decide) (ll2 := [(5, .int (sF X 6)), (4, .int q30), (0, .ref (ad 0)), (1, .int a1), (2, .int a2), (3, .int a3)]) rfl ?_
        refine sw_iconst (pc := 41) C (v := (0 : Int32)) dX9_sessions_41 (by decide) ?_
        refine sw_istore (pc := 42) C dX9_sessions_42 (by decide) (ll2 := [(6, .int (0 : Int32)), (5, .int (sF X 6)), (4, .int q30), (0, .ref (ad 0)), (1, .int a1), (2, .int a2), (3, .int a3)]) rfl ?_
        refine sw_iload_n (pc := 44) C 5 dX9_sessions_44 rfl rfl ?_
        refine sw_i2l (pc := 45) C dX9_sessions_45 ?_
        refine sw_lstore (pc := 46) C dX9_sessions_46 (by decide) (ll2 := [(7, .long a2.toInt64), (6, .int (0 : Int32)), (5, .int (sF X 6)), (4, .int q30), (0, .ref (ad 0)), (1, .int a1), (2, .int a2), (3, .int a3)]) rfl ?_
        refine sw_iconst (pc := 48) C (v := (0 : Int32)) dX9_sessions_48 (by decide) ?_
        refine sw_istore (pc := 49) C dX9_sessions_49 (by decide) (ll2 := [(9, .int (0 : Int32)), (7, .long a2.toInt64), (6, .int (0 : Int32)), (5, .int (sF X 6)), (4, .int q30), (0, .ref (ad 0)), (1, .int a1), (2, .int a2), (3, .int a3)]) rfl ?_
        exact sw_sub [5, 6, 8, 4, 3, 2, 1, 0] (by rfl) (t_T_sessions_51 C _ _ _ _ _ _ _ _ hJ)
      · replace hJ := itep hb20 hJ
        refine sw_bipush (pc := 23) C (v := (-102 : Int32)) dX9_sessions_23 (by decide) ?_
        obtain rfl := Option.some.inj hJ
        exact sw_iret (pc := 25) C dX9_sessions_25
set_option maxHeartbeats 4000000 in
set_option maxRecDepth 100000 in
theorem k_T_sessions {l : Launch} {D : va_G} {cy : Nat → ClassId} {ad : Nat → Nat} {A : Nat → Prop} (hD : ∀ X, va_D A (wC cy ad X)) {X : St} {a1 : Int32} {a2 : Int32} {a3 : Int32} {r : Int32} (hJ : jT_sessions X a1 a2 a3 = some r) : Met l yX9_sessions (wsY yX9_sessions cX9_sessions 11 (some .int)) ({ frames := 3, cells := 0, slots := 0, locals := 70 } : Room) (prX D cy (wC cy ad) X [.ref (ad 0), .int a1, .int a2, .int a3]) (poI D (wC cy ad) A r X) 0 0 A := sw_met (by decide +kernel) (Nat.le_of_ble_eq_true rfl) hD (fun p e s m args below meth c C => t_T_sessions C _ _ _ hJ)
set_option maxHeartbeats 4000000 in
set_option maxRecDepth 100000 in
theorem t_T_image {p : Program} {l : Launch} {e : Env} {s : State} {m : MethodId} {args : Array Value} {below : List Frame} {meth : Method} {c : Code} {D : va_G} {cy : Nat → ClassId} {ad : Nat → Nat} {A : Nat → Prop} (C : Cx p s m args meth c D cy cX9_image 1 RX9 (some .int) A (wC cy ad)) {r : Int32 × St} : ∀ (X : St), jT_image X = some r → SW p l e ({ frames := 2, cells := 0, slots := 0, locals := 44 } : Room) s m args below meth c D 1 A (wC cy ad) (MQ below (poI D (wC cy ad) A r.1 r.2) args s 0 0 A) X [(0, .ref (ad 0))] 0 [] := by
  intro X hJ
  unfold jT_image at hJ
  refine sw_aload_n (pc := 0) C 0 dX9_image_0 rfl rfl ?_
  refine gC_0_4 (pc := 1) C wd_2_8 dX9_image_1 ?_
  refine sw_aload_n (pc := 4) C 0 dX9_image_4 rfl rfl ?_
  refine gC_0_3 (pc := 5) C wd_2_4 dX9_image_5 ?_
  refine sw_aload_n (pc := 8) C 0 dX9_image_8 rfl rfl ?_
  refine gC_0_6 (pc := 9) C wd_15_16 dX9_image_9 ?_
  obtain ⟨q12, hq12, hJ⟩ := bind_some hJ
  refine sw_callV_v (pc := 12) C (st := []) (As := [.ref (ad 5), .int (sF X 6)]) (k_Im_keep C.2.2.2.2.2.2.1 hq12) pk_X3_keep wd_33_3 9 rfl rfl rfl ⟨Nat.le_of_ble_eq_true rfl, Nat.le_of_ble_eq_true rfl⟩ ⟨rfl, rfl⟩ rfl rfl (Nat.le_of_ble_eq_true rfl) dX9_image_12 ?_
  refine sw_aload_n (pc := 15) C 0 dX9_image_15 rfl rfl ?_
  refine gC_0_6 (pc := 16) C wd_15_16 dX9_image_16 ?_
  obtain ⟨q19, hq19, hJ⟩ := bind_some hJ
  refine sw_callS_i (pc := 19) C (st := []) (As := [.int (sF q12 6)]) (k_Ro_size C.2.2.2.2.2.2.1 hq19) pk_X6_size wd_20_13 ⟨Nat.le_of_ble_eq_true rfl, Nat.le_of_ble_eq_true rfl⟩ ⟨rfl, rfl⟩ rfl rfl (Nat.le_of_ble_eq_true rfl) dX9_image_19 ?_
  obtain rfl := Option.some.inj hJ
  exact sw_iret (pc := 22) C dX9_image_22
set_option maxHeartbeats 4000000 in
set_option maxRecDepth 100000 in
theorem k_T_image {l : Launch} {D : va_G} {cy : Nat → ClassId} {ad : Nat → Nat} {A : Nat → Prop} (hD : ∀ X, va_D A (wC cy ad X)) {X : St}  {r : Int32 × St} (hJ : jT_image X = some r) : Met l yX9_image (wsY yX9_image cX9_image 1 (some .int)) ({ frames := 2, cells := 0, slots := 0, locals := 44 } : Room) (prX D cy (wC cy ad) X [.ref (ad 0)]) (poI D (wC cy ad) A r.1 r.2) 0 0 A := sw_met (by decide +kernel) (Nat.le_of_ble_eq_true rfl) hD (fun p e s m args below meth c C => t_T_image C _ hJ)
set_option maxHeartbeats 4000000 in
set_option maxRecDepth 100000 in
theorem t_T_restore {p : Program} {l : Launch} {e : Env} {s : State} {m : MethodId} {args : Array Value} {below : List Frame} {meth : Method} {c : Code} {D : va_G} {cy : Nat → ClassId} {ad : Nat → Nat} {A : Nat → Prop} (C : Cx p s m args meth c D cy cX9_restore 1 RX9 (some .int) A (wC cy ad)) {r : Int32 × St} : ∀ (X : St), jT_restore X = some r → SW p l e ({ frames := 2, cells := 0, slots := 0, locals := 43 } : Room) s m args below meth c D 1 A (wC cy ad) (MQ below (poI D (wC cy ad) A r.1 r.2) args s 0 0 A) X [(0, .ref (ad 0))] 0 [] := by
  intro X hJ
  unfold jT_restore at hJ
  refine sw_aload_n (pc := 0) C 0 dX9_restore_0 rfl rfl ?_
  refine gC_0_4 (pc := 1) C wd_2_8 dX9_restore_1 ?_
  refine sw_aload_n (pc := 4) C 0 dX9_restore_4 rfl rfl ?_
  refine gC_0_3 (pc := 5) C wd_2_4 dX9_restore_5 ?_
  obtain ⟨q8, hq8, hJ⟩ := bind_some hJ
  refine sw_callV_i (pc := 8) C (st := []) (As := [.ref (ad 5)]) (k_Im_fits C.2.2.2.2.2.2.1 hq8) pk_X3_fits wd_33_19 9 rfl rfl rfl ⟨Nat.le_of_ble_eq_true rfl, Nat.le_of_ble_eq_true rfl⟩ ⟨rfl, rfl⟩ rfl rfl (Nat.le_of_ble_eq_true rfl) dX9_restore_8 ?_
  refine sw_if_ne (pc := 11) (tgt := 17) C dX9_restore_11 (by decide) (fun hb11 => ?_) (fun hb11 => ?_)
  · replace hJ := iten hb11 hJ
    refine sw_aload_n (pc := 17) C 0 dX9_restore_17 rfl rfl ?_
    refine sw_aload_n (pc := 18) C 0 dX9_restore_18 rfl rfl ?_
    refine gC_0_4 (pc := 19) C wd_2_8 dX9_restore_19 ?_
    refine sw_aload_n (pc := 22) C 0 dX9_restore_22 rfl rfl ?_
    refine gC_0_3 (pc := 23) C wd_2_4 dX9_restore_23 ?_
    obtain ⟨q26, hq26, hJ⟩ := bind_some hJ
    refine sw_callV_i (pc := 26) C (st := [.ref (ad 0)]) (As := [.ref (ad 5)]) (k_Im_giveBack C.2.2.2.2.2.2.1 hq26) pk_X3_giveBack wd_33_23 9 rfl rfl rfl ⟨Nat.le_of_ble_eq_true rfl, Nat.le_of_ble_eq_true rfl⟩ ⟨rfl, rfl⟩ rfl rfl (Nat.le_of_ble_eq_true rfl) dX9_restore_26 ?_
    refine pC_0_6 (pc := 29) C wd_15_16 dX9_restore_29 ?_
    refine sw_aload_n (pc := 32) C 0 dX9_restore_32 rfl rfl ?_
    refine gC_0_6 (pc := 33) C wd_15_16 dX9_restore_33 ?_
    obtain ⟨q36, hq36, hJ⟩ := bind_some hJ
    refine sw_callS_i (pc := 36) C (st := []) (As := [.int (sF (pF q26.2 6 q26.1) 6)]) (k_Ro_size C.2.2.2.2.2.2.1 hq36) pk_X6_size wd_20_13 ⟨Nat.le_of_ble_eq_true rfl, Nat.le_of_ble_eq_true rfl⟩ ⟨rfl, rfl⟩ rfl rfl (Nat.le_of_ble_eq_true rfl) dX9_restore_36 ?_
    obtain rfl := Option.some.inj hJ
    exact sw_iret (pc := 39) C dX9_restore_39
  · replace hJ := itep hb11 hJ
    refine sw_bipush (pc := 14) C (v := (-103 : Int32)) dX9_restore_14 (by decide) ?_
    obtain rfl := Option.some.inj hJ
    exact sw_iret (pc := 16) C dX9_restore_16
set_option maxHeartbeats 4000000 in
set_option maxRecDepth 100000 in
theorem k_T_restore {l : Launch} {D : va_G} {cy : Nat → ClassId} {ad : Nat → Nat} {A : Nat → Prop} (hD : ∀ X, va_D A (wC cy ad X)) {X : St}  {r : Int32 × St} (hJ : jT_restore X = some r) : Met l yX9_restore (wsY yX9_restore cX9_restore 1 (some .int)) ({ frames := 2, cells := 0, slots := 0, locals := 43 } : Room) (prX D cy (wC cy ad) X [.ref (ad 0)]) (poI D (wC cy ad) A r.1 r.2) 0 0 A := sw_met (by decide +kernel) (Nat.le_of_ble_eq_true rfl) hD (fun p e s m args below meth c C => t_T_restore C _ hJ)
set_option maxHeartbeats 4000000 in
set_option maxRecDepth 100000 in
theorem t_T_count {p : Program} {l : Launch} {e : Env} {s : State} {m : MethodId} {args : Array Value} {below : List Frame} {meth : Method} {c : Code} {D : va_G} {cy : Nat → ClassId} {ad : Nat → Nat} {A : Nat → Prop} (C : Cx p s m args meth c D cy cX9_count 2 RX9 (some .int) A (wC cy ad)) {X : St} {r : Int32} : ∀ (a1 : Int32), jT_count X a1 = some r → SW p l e ({ frames := 1, cells := 0, slots := 0, locals := 21 } : Room) s m args below meth c D 2 A (wC cy ad) (MQ below (poI D (wC cy ad) A r X) args s 0 0 A) X [(0, .ref (ad 0)), (1, .int a1)] 0 [] := by
  intro a1 hJ
  unfold jT_count at hJ
  refine sw_iload_n (pc := 0) C 1 dX9_count_0 rfl rfl ?_
  by_cases hs1_0 : a1 = (0 : Int32)
  · replace hJ := itep hs1_0 hJ
    refine sw_tblIn (pc := 1) C (0 : Int32) (off := 47) (tgt := 48) dX9_count_1 hs1_0 (by decide) (by decide) rfl (by decide) ?_
    refine sw_aload_n (pc := 48) C 0 dX9_count_48 rfl rfl ?_
    refine gC_0_3 (pc := 49) C wd_2_4 dX9_count_49 ?_
    obtain ⟨q52, hq52, hJ⟩ := bind_some hJ
    refine sw_callV_i (pc := 52) C (st := []) (As := []) (k_Ch_size C.2.2.2.2.2.2.1 hq52) pk_X1_size wd_13_1 5 rfl rfl rfl ⟨Nat.le_of_ble_eq_true rfl, Nat.le_of_ble_eq_true rfl⟩ ⟨rfl, rfl⟩ rfl rfl (Nat.le_of_ble_eq_true rfl) dX9_count_52 ?_
    obtain rfl := Option.some.inj hJ
    exact sw_iret (pc := 55) C dX9_count_55
  replace hJ := iten hs1_0 hJ
  by_cases hs1_1 : a1 = (1 : Int32)
  · replace hJ := itep hs1_1 hJ
    refine sw_tblIn (pc := 1) C (1 : Int32) (off := 55) (tgt := 56) dX9_count_1 hs1_1 (by decide) (by decide) rfl (by decide) ?_
    refine sw_aload_n (pc := 56) C 0 dX9_count_56 rfl rfl ?_
    refine gC_0_6 (pc := 57) C wd_15_16 dX9_count_57 ?_
    obtain ⟨q60, hq60, hJ⟩ := bind_some hJ
    refine sw_callS_i (pc := 60) C (st := []) (As := [.int (sF X 6)]) (k_Ro_size C.2.2.2.2.2.2.1 hq60) pk_X6_size wd_20_13 ⟨Nat.le_of_ble_eq_true rfl, Nat.le_of_ble_eq_true rfl⟩ ⟨rfl, rfl⟩ rfl rfl (Nat.le_of_ble_eq_true rfl) dX9_count_60 ?_
    obtain rfl := Option.some.inj hJ
    exact sw_iret (pc := 63) C dX9_count_63
  replace hJ := iten hs1_1 hJ
  by_cases hs1_2 : a1 = (2 : Int32)
  · replace hJ := itep hs1_2 hJ
    refine sw_tblIn (pc := 1) C (2 : Int32) (off := 63) (tgt := 64) dX9_count_1 hs1_2 (by decide) (by decide) rfl (by decide) ?_
    refine sw_aload_n (pc := 64) C 0 dX9_count_64 rfl rfl ?_
    refine gC_0_3 (pc := 65) C wd_2_4 dX9_count_65 ?_
    obtain ⟨q68, hq68, hJ⟩ := bind_some hJ
    refine sw_callV_i (pc := 68) C (st := []) (As := []) (k_Ch_pairs C.2.2.2.2.2.2.1 hq68) pk_X1_pairs wd_11_23 5 rfl rfl rfl ⟨Nat.le_of_ble_eq_true rfl, Nat.le_of_ble_eq_true rfl⟩ ⟨rfl, rfl⟩ rfl rfl (Nat.le_of_ble_eq_true rfl) dX9_count_68 ?_
    obtain rfl := Option.some.inj hJ
    exact sw_iret (pc := 71) C dX9_count_71
  replace hJ := iten hs1_2 hJ
  by_cases hs1_3 : a1 = (3 : Int32)
  · replace hJ := itep hs1_3 hJ
    refine sw_tblIn (pc := 1) C (3 : Int32) (off := 71) (tgt := 72) dX9_count_1 hs1_3 (by decide) (by decide) rfl (by decide) ?_
    refine sw_aload_n (pc := 72) C 0 dX9_count_72 rfl rfl ?_
    refine gC_0_3 (pc := 73) C wd_2_4 dX9_count_73 ?_
    obtain ⟨q76, hq76, hJ⟩ := bind_some hJ
    refine sw_callV_i (pc := 76) C (st := []) (As := []) (k_Ch_limit C.2.2.2.2.2.2.1 hq76) pk_X1_limit wd_34_11 5 rfl rfl rfl ⟨Nat.le_of_ble_eq_true rfl, Nat.le_of_ble_eq_true rfl⟩ ⟨rfl, rfl⟩ rfl rfl (Nat.le_of_ble_eq_true rfl) dX9_count_76 ?_
    obtain rfl := Option.some.inj hJ
    exact sw_iret (pc := 79) C dX9_count_79
  replace hJ := iten hs1_3 hJ
  by_cases hs1_4 : a1 = (4 : Int32)
  · replace hJ := itep hs1_4 hJ
    refine sw_tblIn (pc := 1) C (4 : Int32) (off := 79) (tgt := 80) dX9_count_1 hs1_4 (by decide) (by decide) rfl (by decide) ?_
    refine sw_aload_n (pc := 80) C 0 dX9_count_80 rfl rfl ?_
    refine gC_0_0 (pc := 81) C wd_1_16 dX9_count_81 ?_
    obtain ⟨q84, hq84, hJ⟩ := bind_some hJ
    refine sw_callV_i (pc := 84) C (st := []) (As := []) (k_Pg_length C.2.2.2.2.2.2.1 hq84) pk_X5_length wd_6_3 1 rfl rfl rfl ⟨Nat.le_of_ble_eq_true rfl, Nat.le_of_ble_eq_true rfl⟩ ⟨rfl, rfl⟩ rfl rfl (Nat.le_of_ble_eq_true rfl) dX9_count_84 ?_
    obtain rfl := Option.some.inj hJ
    exact sw_iret (pc := 87) C dX9_count_87
  replace hJ := iten hs1_4 hJ
  by_cases hs1_5 : a1 = (5 : Int32)
  · replace hJ := itep hs1_5 hJ
    refine sw_tblIn (pc := 1) C (5 : Int32) (off := 87) (tgt := 88) dX9_count_1 hs1_5 (by decide) (by decide) rfl (by decide) ?_
    refine sw_aload_n (pc := 88) C 0 dX9_count_88 rfl rfl ?_
    refine gC_0_7 (pc := 89) C wd_19_18 dX9_count_89 ?_
    obtain rfl := Option.some.inj hJ
    exact sw_iret (pc := 92) C dX9_count_92
  replace hJ := iten hs1_5 hJ
  by_cases hs1_6 : a1 = (6 : Int32)
  · replace hJ := itep hs1_6 hJ
    refine sw_tblIn (pc := 1) C (6 : Int32) (off := 92) (tgt := 93) dX9_count_1 hs1_6 (by decide) (by decide) rfl (by decide) ?_
    refine sw_aload_n (pc := 93) C 0 dX9_count_93 rfl rfl ?_
    refine gC_0_8 (pc := 94) C wd_25_22 dX9_count_94 ?_
    obtain rfl := Option.some.inj hJ
    exact sw_iret (pc := 97) C dX9_count_97
  replace hJ := iten hs1_6 hJ
  by_cases hs1_7 : a1 = (7 : Int32)
  · replace hJ := itep hs1_7 hJ
    refine sw_tblIn (pc := 1) C (7 : Int32) (off := 97) (tgt := 98) dX9_count_1 hs1_7 (by decide) (by decide) rfl (by decide) ?_
    refine sw_aload_n (pc := 98) C 0 dX9_count_98 rfl rfl ?_
    refine gC_0_9 (pc := 99) C wd_30_7 dX9_count_99 ?_
    obtain rfl := Option.some.inj hJ
    exact sw_iret (pc := 102) C dX9_count_102
  replace hJ := iten hs1_7 hJ
  have e1_0 := tbl_ne (0 : Int32) (a := 0) hs1_0 (by decide)
  have e1_1 := tbl_ne (1 : Int32) (a := 1) hs1_1 (by decide)
  have e1_2 := tbl_ne (2 : Int32) (a := 2) hs1_2 (by decide)
  have e1_3 := tbl_ne (3 : Int32) (a := 3) hs1_3 (by decide)
  have e1_4 := tbl_ne (4 : Int32) (a := 4) hs1_4 (by decide)
  have e1_5 := tbl_ne (5 : Int32) (a := 5) hs1_5 (by decide)
  have e1_6 := tbl_ne (6 : Int32) (a := 6) hs1_6 (by decide)
  have e1_7 := tbl_ne (7 : Int32) (a := 7) hs1_7 (by decide)
  refine sw_tblOut (pc := 1) (tgt := 103) C dX9_count_1 (by omega) (by decide) ?_
  refine sw_bipush (pc := 103) C (v := (-102 : Int32)) dX9_count_103 (by decide) ?_
  obtain rfl := Option.some.inj hJ
  exact sw_iret (pc := 105) C dX9_count_105
set_option maxHeartbeats 4000000 in
set_option maxRecDepth 100000 in
theorem k_T_count {l : Launch} {D : va_G} {cy : Nat → ClassId} {ad : Nat → Nat} {A : Nat → Prop} (hD : ∀ X, va_D A (wC cy ad X)) {X : St} {a1 : Int32} {r : Int32} (hJ : jT_count X a1 = some r) : Met l yX9_count (wsY yX9_count cX9_count 2 (some .int)) ({ frames := 1, cells := 0, slots := 0, locals := 21 } : Room) (prX D cy (wC cy ad) X [.ref (ad 0), .int a1]) (poI D (wC cy ad) A r X) 0 0 A := sw_met (by decide +kernel) (Nat.le_of_ble_eq_true rfl) hD (fun p e s m args below meth c C => t_T_count C _ hJ)
set_option maxHeartbeats 4000000 in
set_option maxRecDepth 100000 in
theorem t_T_digest_194 {p : Program} {l : Launch} {e : Env} {s : State} {m : MethodId} {args : Array Value} {below : List Frame} {meth : Method} {c : Code} {D : va_G} {cy : Nat → ClassId} {ad : Nat → Nat} {A : Nat → Prop} (C : Cx p s m args meth c D cy cX9_digest 5 RX9 (some .long) A (wC cy ad)) {r : Int64 × St} : ∀ (n : Nat) (X : St) (v1 : Int64) (v3 : Int32), jT_digest_194 n X v1 v3 = some r → SW p l e ({ frames := 4, cells := 0, slots := 0, locals := 92 } : Room) s m args below meth c D 5 A (wC cy ad) (MQ below (poL D (wC cy ad) A r.1 r.2) args s 0 0 A) X [(0, .ref (ad 0)), (1, .long v1), (3, .int v3)] 194 [] := by
  intro n
  induction n with
  | zero => intro X v1 v3 hJ; exact absurd (show (none : Option (Int64 × St)) = some r from hJ) (fun h => by cases h)
  | succ n ih =>
    intro X v1 v3 hJ
    rw [jT_digest_194] at hJ
    refine sw_iload_n (pc := 194) C 2 dX9_digest_194 rfl rfl ?_
    refine sw_bipush (pc := 195) C (v := (7 : Int32)) dX9_digest_195 (by decide) ?_
    refine sw_icmp_gt (pc := 197) (tgt := 219) C dX9_digest_197 (by decide) (fun hb197 => ?_) (fun hb197 => ?_)
    · replace hJ := itep hb197 hJ
      refine sw_lload_n (pc := 219) C 1 dX9_digest_219 rfl rfl ?_
      obtain rfl := Option.some.inj hJ
      exact sw_lret (pc := 220) C dX9_digest_220
    · replace hJ := iten hb197 hJ
      refine sw_ldc2 (pc := 200) C (v := (31 : Int64)) wd_35_4 dX9_digest_200 ?_
      refine sw_lload_n (pc := 203) C 1 dX9_digest_203 rfl rfl ?_
      refine sw_lmul (pc := 204) C dX9_digest_204 ?_
      refine sw_aload_n (pc := 205) C 0 dX9_digest_205 rfl rfl ?_
      refine sw_iload_n (pc := 206) C 2 dX9_digest_206 rfl rfl ?_
      obtain ⟨q207, hq207, hJ⟩ := bind_some hJ
      refine sw_callV_i (pc := 207) C (st := [.long ((31 : Int64) * v1)]) (As := [.int v3]) (k_T_count C.2.2.2.2.2.2.1 hq207) pk_X9_count wd_35_12 0 rfl rfl rfl ⟨Nat.le_of_ble_eq_true rfl, Nat.le_of_ble_eq_true rfl⟩ ⟨rfl, rfl⟩ rfl rfl (Nat.le_of_ble_eq_true rfl) dX9_digest_207 ?_
      refine sw_i2l (pc := 210) C dX9_digest_210 ?_
      refine sw_ladd (pc := 211) C dX9_digest_211 ?_
      refine sw_lstore_n (pc := 212) C dX9_digest_212 rfl (by decide) (ll2 := [(1, .long (((31 : Int64) * v1) + q207.toInt64)), (0, .ref (ad 0)), (3, .int v3)]) rfl ?_
      refine sw_iinc (pc := 213) C 2 dX9_digest_213 rfl (v := (v3 + (1 : Int32))) (congrArg (fun z => v3 + z) (by decide)) (by decide) (ll2 := [(3, .int (v3 + (1 : Int32))), (1, .long (((31 : Int64) * v1) + q207.toInt64)), (0, .ref (ad 0))]) rfl ?_
      refine sw_goto (pc := 216) (tgt := 194) C dX9_digest_216 (by decide) ?_
      exact sw_sub [2, 1, 0] (by rfl) (ih _ _ _ hJ)
set_option maxHeartbeats 4000000 in
set_option maxRecDepth 100000 in
theorem t_T_digest_159 {p : Program} {l : Launch} {e : Env} {s : State} {m : MethodId} {args : Array Value} {below : List Frame} {meth : Method} {c : Code} {D : va_G} {cy : Nat → ClassId} {ad : Nat → Nat} {A : Nat → Prop} (C : Cx p s m args meth c D cy cX9_digest 5 RX9 (some .long) A (wC cy ad)) {r : Int64 × St} : ∀ (n : Nat) (X : St) (v1 : Int64) (v3 : Int32), jT_digest_159 n X v1 v3 = some r → SW p l e ({ frames := 4, cells := 0, slots := 0, locals := 92 } : Room) s m args below meth c D 5 A (wC cy ad) (MQ below (poL D (wC cy ad) A r.1 r.2) args s 0 0 A) X [(0, .ref (ad 0)), (1, .long v1), (3, .int v3)] 159 [] := by
  intro n
  induction n with
  | zero => intro X v1 v3 hJ; exact absurd (show (none : Option (Int64 × St)) = some r from hJ) (fun h => by cases h)
  | succ n ih =>
    intro X v1 v3 hJ
    rw [jT_digest_159] at hJ
    refine sw_iload_n (pc := 159) C 2 dX9_digest_159 rfl rfl ?_
    refine sw_aload_n (pc := 160) C 0 dX9_digest_160 rfl rfl ?_
    refine gC_0_0 (pc := 161) C wd_1_16 dX9_digest_161 ?_
    obtain ⟨q164, hq164, hJ⟩ := bind_some hJ
    refine sw_callV_i (pc := 164) C (st := [.int v3]) (As := []) (k_Pg_length C.2.2.2.2.2.2.1 hq164) pk_X5_length wd_6_3 1 rfl rfl rfl ⟨Nat.le_of_ble_eq_true rfl, Nat.le_of_ble_eq_true rfl⟩ ⟨rfl, rfl⟩ rfl rfl (Nat.le_of_ble_eq_true rfl) dX9_digest_164 ?_
    refine sw_icmp_ge (pc := 167) (tgt := 192) C dX9_digest_167 (by decide) (fun hb167 => ?_) (fun hb167 => ?_)
    · replace hJ := itep hb167 hJ
      refine sw_iconst (pc := 192) C (v := (0 : Int32)) dX9_digest_192 (by decide) ?_
      refine sw_istore_n (pc := 193) C dX9_digest_193 rfl (by decide) (ll2 := [(3, .int (0 : Int32)), (0, .ref (ad 0)), (1, .long v1)]) rfl ?_
      exact sw_sub [1, 2, 0] (by rfl) (t_T_digest_194 C _ _ _ _ hJ)
    · replace hJ := iten hb167 hJ
      refine sw_ldc2 (pc := 170) C (v := (31 : Int64)) wd_35_4 dX9_digest_170 ?_
      refine sw_lload_n (pc := 173) C 1 dX9_digest_173 rfl rfl ?_
      refine sw_lmul (pc := 174) C dX9_digest_174 ?_
      refine sw_aload_n (pc := 175) C 0 dX9_digest_175 rfl rfl ?_
      refine gC_0_0 (pc := 176) C wd_1_16 dX9_digest_176 ?_
      refine sw_iload_n (pc := 179) C 2 dX9_digest_179 rfl rfl ?_
      obtain ⟨q180, hq180, hJ⟩ := bind_some hJ
      refine sw_callV_i (pc := 180) C (st := [.long ((31 : Int64) * v1)]) (As := [.int v3]) (k_Pg_letter C.2.2.2.2.2.2.1 hq180) pk_X5_letter wd_35_11 1 rfl rfl rfl ⟨Nat.le_of_ble_eq_true rfl, Nat.le_of_ble_eq_true rfl⟩ ⟨rfl, rfl⟩ rfl rfl (Nat.le_of_ble_eq_true rfl) dX9_digest_180 ?_
      refine sw_i2l (pc := 183) C dX9_digest_183 ?_
      refine sw_ladd (pc := 184) C dX9_digest_184 ?_
      refine sw_lstore_n (pc := 185) C dX9_digest_185 rfl (by decide) (ll2 := [(1, .long (((31 : Int64) * v1) + q180.toInt64)), (0, .ref (ad 0)), (3, .int v3)]) rfl ?_
      refine sw_iinc (pc := 186) C 2 dX9_digest_186 rfl (v := (v3 + (1 : Int32))) (congrArg (fun z => v3 + z) (by decide)) (by decide) (ll2 := [(3, .int (v3 + (1 : Int32))), (1, .long (((31 : Int64) * v1) + q180.toInt64)), (0, .ref (ad 0))]) rfl ?_
      refine sw_goto (pc := 189) (tgt := 159) C dX9_digest_189 (by decide) ?_
      exact sw_sub [2, 1, 0] (by rfl) (ih _ _ _ hJ)
set_option maxHeartbeats 4000000 in
set_option maxRecDepth 100000 in
theorem t_T_digest_103 {p : Program} {l : Launch} {e : Env} {s : State} {m : MethodId} {args : Array Value} {below : List Frame} {meth : Method} {c : Code} {D : va_G} {cy : Nat → ClassId} {ad : Nat → Nat} {A : Nat → Prop} (C : Cx p s m args meth c D cy cX9_digest 5 RX9 (some .long) A (wC cy ad)) {r : Int64 × St} : ∀ (n : Nat) (X : St) (v1 : Int64) (v3 : Int32), jT_digest_103 n X v1 v3 = some r → SW p l e ({ frames := 4, cells := 0, slots := 0, locals := 92 } : Room) s m args below meth c D 5 A (wC cy ad) (MQ below (poL D (wC cy ad) A r.1 r.2) args s 0 0 A) X [(0, .ref (ad 0)), (1, .long v1), (3, .int v3)] 103 [] := by
  intro n
  induction n with
  | zero => intro X v1 v3 hJ; exact absurd (show (none : Option (Int64 × St)) = some r from hJ) (fun h => by cases h)
  | succ n ih =>
    intro X v1 v3 hJ
    rw [jT_digest_103] at hJ
    refine sw_iload_n (pc := 103) C 2 dX9_digest_103 rfl rfl ?_
    refine sw_aload_n (pc := 104) C 0 dX9_digest_104 rfl rfl ?_
    refine gC_0_6 (pc := 105) C wd_15_16 dX9_digest_105 ?_
    obtain ⟨q108, hq108, hJ⟩ := bind_some hJ
    refine sw_callS_i (pc := 108) C (st := [.int v3]) (As := [.int (sF X 6)]) (k_Ro_size C.2.2.2.2.2.2.1 hq108) pk_X6_size wd_20_13 ⟨Nat.le_of_ble_eq_true rfl, Nat.le_of_ble_eq_true rfl⟩ ⟨rfl, rfl⟩ rfl rfl (Nat.le_of_ble_eq_true rfl) dX9_digest_108 ?_
    refine sw_icmp_gt (pc := 111) (tgt := 133) C dX9_digest_111 (by decide) (fun hb111 => ?_) (fun hb111 => ?_)
    · replace hJ := itep hb111 hJ
      refine sw_ldc2 (pc := 133) C (v := (31 : Int64)) wd_35_4 dX9_digest_133 ?_
      refine sw_lload_n (pc := 136) C 1 dX9_digest_136 rfl rfl ?_
      refine sw_lmul (pc := 137) C dX9_digest_137 ?_
      refine sw_aload_n (pc := 138) C 0 dX9_digest_138 rfl rfl ?_
      obtain ⟨q139, hq139, hJ⟩ := bind_some hJ
      refine sw_callV_i (pc := 139) C (st := [.long ((31 : Int64) * v1)]) (As := []) (k_T_bill C.2.2.2.2.2.2.1 hq139) pk_X9_bill wd_35_9 0 rfl rfl rfl ⟨Nat.le_of_ble_eq_true rfl, Nat.le_of_ble_eq_true rfl⟩ ⟨rfl, rfl⟩ rfl rfl (Nat.le_of_ble_eq_true rfl) dX9_digest_139 ?_
      refine sw_i2l (pc := 142) C dX9_digest_142 ?_
      refine sw_ladd (pc := 143) C dX9_digest_143 ?_
      refine sw_lstore_n (pc := 144) C dX9_digest_144 rfl (by decide) (ll2 := [(1, .long (((31 : Int64) * v1) + q139.toInt64)), (0, .ref (ad 0)), (3, .int v3)]) rfl ?_
      refine sw_ldc2 (pc := 145) C (v := (31 : Int64)) wd_35_4 dX9_digest_145 ?_
      refine sw_lload_n (pc := 148) C 0 dX9_digest_148 rfl rfl ?_
      refine sw_lmul (pc := 149) C dX9_digest_149 ?_
      refine sw_aload_n (pc := 150) C 1 dX9_digest_150 rfl rfl ?_
      obtain ⟨q151, hq151, hJ⟩ := bind_some hJ
      refine sw_callV_i (pc := 151) C (st := [.long ((31 : Int64) * (((31 : Int64) * v1) + q139.toInt64))]) (As := []) (k_T_changed C.2.2.2.2.2.2.1 hq151) pk_X9_changed wd_35_10 0 rfl rfl rfl ⟨Nat.le_of_ble_eq_true rfl, Nat.le_of_ble_eq_true rfl⟩ ⟨rfl, rfl⟩ rfl rfl (Nat.le_of_ble_eq_true rfl) dX9_digest_151 ?_
      refine sw_i2l (pc := 154) C dX9_digest_154 ?_
      refine sw_ladd (pc := 155) C dX9_digest_155 ?_
      refine sw_lstore_n (pc := 156) C dX9_digest_156 rfl (by decide) (ll2 := [(1, .long (((31 : Int64) * (((31 : Int64) * v1) + q139.toInt64)) + q151.1.toInt64)), (0, .ref (ad 0)), (3, .int v3)]) rfl ?_
      refine sw_iconst (pc := 157) C (v := (0 : Int32)) dX9_digest_157 (by decide) ?_
      refine sw_istore_n (pc := 158) C dX9_digest_158 rfl (by decide) (ll2 := [(3, .int (0 : Int32)), (1, .long (((31 : Int64) * (((31 : Int64) * v1) + q139.toInt64)) + q151.1.toInt64)), (0, .ref (ad 0))]) rfl ?_
      exact sw_sub [2, 1, 0] (by rfl) (t_T_digest_159 C _ _ _ _ hJ)
    · replace hJ := iten hb111 hJ
      refine sw_ldc2 (pc := 114) C (v := (31 : Int64)) wd_35_4 dX9_digest_114 ?_
      refine sw_lload_n (pc := 117) C 1 dX9_digest_117 rfl rfl ?_
      refine sw_lmul (pc := 118) C dX9_digest_118 ?_
      refine sw_aload_n (pc := 119) C 0 dX9_digest_119 rfl rfl ?_
      refine sw_iload_n (pc := 120) C 2 dX9_digest_120 rfl rfl ?_
      obtain ⟨q121, hq121, hJ⟩ := bind_some hJ
      refine sw_callV_i (pc := 121) C (st := [.long ((31 : Int64) * v1)]) (As := [.int v3]) (k_T_at C.2.2.2.2.2.2.1 hq121) pk_X9_at wd_35_8 0 rfl rfl rfl ⟨Nat.le_of_ble_eq_true rfl, Nat.le_of_ble_eq_true rfl⟩ ⟨rfl, rfl⟩ rfl rfl (Nat.le_of_ble_eq_true rfl) dX9_digest_121 ?_
      refine sw_i2l (pc := 124) C dX9_digest_124 ?_
      refine sw_ladd (pc := 125) C dX9_digest_125 ?_
      refine sw_lstore_n (pc := 126) C dX9_digest_126 rfl (by decide) (ll2 := [(1, .long (((31 : Int64) * v1) + q121.toInt64)), (0, .ref (ad 0)), (3, .int v3)]) rfl ?_
      refine sw_iinc (pc := 127) C 2 dX9_digest_127 rfl (v := (v3 + (1 : Int32))) (congrArg (fun z => v3 + z) (by decide)) (by decide) (ll2 := [(3, .int (v3 + (1 : Int32))), (1, .long (((31 : Int64) * v1) + q121.toInt64)), (0, .ref (ad 0))]) rfl ?_
      refine sw_goto (pc := 130) (tgt := 103) C dX9_digest_130 (by decide) ?_
      exact sw_sub [2, 1, 0] (by rfl) (ih _ _ _ hJ)
set_option maxHeartbeats 4000000 in
set_option maxRecDepth 100000 in
theorem t_T_digest_54 {p : Program} {l : Launch} {e : Env} {s : State} {m : MethodId} {args : Array Value} {below : List Frame} {meth : Method} {c : Code} {D : va_G} {cy : Nat → ClassId} {ad : Nat → Nat} {A : Nat → Prop} (C : Cx p s m args meth c D cy cX9_digest 5 RX9 (some .long) A (wC cy ad)) {k40 : St → Int64 → Int32 → Option (Int64 × St)} {r : Int64 × St} (h40 : ∀ (X : St) (v1 : Int64) (v3 : Int32), k40 X v1 v3 = some r → SW p l e ({ frames := 4, cells := 0, slots := 0, locals := 92 } : Room) s m args below meth c D 5 A (wC cy ad) (MQ below (poL D (wC cy ad) A r.1 r.2) args s 0 0 A) X [(0, .ref (ad 0)), (1, .long v1), (3, .int v3)] 40 []) : ∀ (n : Nat) (X : St) (v1 : Int64) (v3 : Int32) (v4 : Int32), jT_digest_54 k40 n X v1 v3 v4 = some r → SW p l e ({ frames := 4, cells := 0, slots := 0, locals := 92 } : Room) s m args below meth c D 5 A (wC cy ad) (MQ below (poL D (wC cy ad) A r.1 r.2) args s 0 0 A) X [(0, .ref (ad 0)), (1, .long v1), (3, .int v3), (4, .int v4)] 54 [] := by
  intro n
  induction n with
  | zero => intro X v1 v3 v4 hJ; exact absurd (show (none : Option (Int64 × St)) = some r from hJ) (fun h => by cases h)
  | succ n ih =>
    intro X v1 v3 v4 hJ
    rw [jT_digest_54] at hJ
    refine sw_iload (pc := 54) C 3 dX9_digest_54 rfl ?_
    refine sw_bipush (pc := 56) C (v := (11 : Int32)) dX9_digest_56 (by decide) ?_
    refine sw_icmp_gt (pc := 58) (tgt := 82) C dX9_digest_58 (by decide) (fun hb58 => ?_) (fun hb58 => ?_)
    · replace hJ := itep hb58 hJ
      refine sw_ldc2 (pc := 82) C (v := (31 : Int64)) wd_35_4 dX9_digest_82 ?_
      refine sw_lload_n (pc := 85) C 1 dX9_digest_85 rfl rfl ?_
      refine sw_lmul (pc := 86) C dX9_digest_86 ?_
      refine sw_aload_n (pc := 87) C 0 dX9_digest_87 rfl rfl ?_
      refine sw_iload_n (pc := 88) C 2 dX9_digest_88 rfl rfl ?_
      obtain ⟨q89, hq89, hJ⟩ := bind_some hJ
      refine sw_callV_i (pc := 89) C (st := [.long ((31 : Int64) * v1)]) (As := [.int v3]) (k_T_may C.2.2.2.2.2.2.1 hq89) pk_X9_may wd_35_7 0 rfl rfl rfl ⟨Nat.le_of_ble_eq_true rfl, Nat.le_of_ble_eq_true rfl⟩ ⟨rfl, rfl⟩ rfl rfl (Nat.le_of_ble_eq_true rfl) dX9_digest_89 ?_
      refine sw_i2l (pc := 92) C dX9_digest_92 ?_
      refine sw_ladd (pc := 93) C dX9_digest_93 ?_
      refine sw_lstore_n (pc := 94) C dX9_digest_94 rfl (by decide) (ll2 := [(1, .long (((31 : Int64) * v1) + q89.toInt64)), (0, .ref (ad 0)), (3, .int v3), (4, .int v4)]) rfl ?_
      refine sw_iinc (pc := 95) C 2 dX9_digest_95 rfl (v := (v3 + (1 : Int32))) (congrArg (fun z => v3 + z) (by decide)) (by decide) (ll2 := [(3, .int (v3 + (1 : Int32))), (1, .long (((31 : Int64) * v1) + q89.toInt64)), (0, .ref (ad 0)), (4, .int v4)]) rfl ?_
      refine sw_goto (pc := 98) (tgt := 40) C dX9_digest_98 (by decide) ?_
      exact sw_sub [2, 1, 0] (by rfl) (h40 _ _ _ hJ)
    · replace hJ := iten hb58 hJ
      refine sw_ldc2 (pc := 61) C (v := (31 : Int64)) wd_35_4 dX9_digest_61 ?_
      refine sw_lload_n (pc := 64) C 1 dX9_digest_64 rfl rfl ?_
      refine sw_lmul (pc := 65) C dX9_digest_65 ?_
      refine sw_aload_n (pc := 66) C 0 dX9_digest_66 rfl rfl ?_
      refine sw_iload_n (pc := 67) C 2 dX9_digest_67 rfl rfl ?_
      refine sw_iload (pc := 68) C 3 dX9_digest_68 rfl ?_
      obtain ⟨q70, hq70, hJ⟩ := bind_some hJ
      refine sw_callV_i (pc := 70) C (st := [.long ((31 : Int64) * v1)]) (As := [.int v3, .int v4]) (k_T_about C.2.2.2.2.2.2.1 hq70) pk_X9_about wd_35_6 0 rfl rfl rfl ⟨Nat.le_of_ble_eq_true rfl, Nat.le_of_ble_eq_true rfl⟩ ⟨rfl, rfl⟩ rfl rfl (Nat.le_of_ble_eq_true rfl) dX9_digest_70 ?_
      refine sw_i2l (pc := 73) C dX9_digest_73 ?_
      refine sw_ladd (pc := 74) C dX9_digest_74 ?_
      refine sw_lstore_n (pc := 75) C dX9_digest_75 rfl (by decide) (ll2 := [(1, .long (((31 : Int64) * v1) + q70.toInt64)), (0, .ref (ad 0)), (3, .int v3), (4, .int v4)]) rfl ?_
      refine sw_iinc (pc := 76) C 3 dX9_digest_76 rfl (v := (v4 + (1 : Int32))) (congrArg (fun z => v4 + z) (by decide)) (by decide) (ll2 := [(4, .int (v4 + (1 : Int32))), (1, .long (((31 : Int64) * v1) + q70.toInt64)), (0, .ref (ad 0)), (3, .int v3)]) rfl ?_
      refine sw_goto (pc := 79) (tgt := 54) C dX9_digest_79 (by decide) ?_
      exact sw_sub [2, 1, 3, 0] (by rfl) (ih _ _ _ _ hJ)
set_option maxHeartbeats 4000000 in
set_option maxRecDepth 100000 in
theorem t_T_digest_40 {p : Program} {l : Launch} {e : Env} {s : State} {m : MethodId} {args : Array Value} {below : List Frame} {meth : Method} {c : Code} {D : va_G} {cy : Nat → ClassId} {ad : Nat → Nat} {A : Nat → Prop} (C : Cx p s m args meth c D cy cX9_digest 5 RX9 (some .long) A (wC cy ad)) {r : Int64 × St} : ∀ (n : Nat) (X : St) (v1 : Int64) (v3 : Int32), jT_digest_40 n X v1 v3 = some r → SW p l e ({ frames := 4, cells := 0, slots := 0, locals := 92 } : Room) s m args below meth c D 5 A (wC cy ad) (MQ below (poL D (wC cy ad) A r.1 r.2) args s 0 0 A) X [(0, .ref (ad 0)), (1, .long v1), (3, .int v3)] 40 [] := by
  intro n
  induction n with
  | zero => intro X v1 v3 hJ; exact absurd (show (none : Option (Int64 × St)) = some r from hJ) (fun h => by cases h)
  | succ n ih =>
    intro X v1 v3 hJ
    rw [jT_digest_40] at hJ
    refine sw_iload_n (pc := 40) C 2 dX9_digest_40 rfl rfl ?_
    refine sw_aload_n (pc := 41) C 0 dX9_digest_41 rfl rfl ?_
    refine gC_0_3 (pc := 42) C wd_2_4 dX9_digest_42 ?_
    obtain ⟨q45, hq45, hJ⟩ := bind_some hJ
    refine sw_callV_i (pc := 45) C (st := [.int v3]) (As := []) (k_Ch_size C.2.2.2.2.2.2.1 hq45) pk_X1_size wd_13_1 5 rfl rfl rfl ⟨Nat.le_of_ble_eq_true rfl, Nat.le_of_ble_eq_true rfl⟩ ⟨rfl, rfl⟩ rfl rfl (Nat.le_of_ble_eq_true rfl) dX9_digest_45 ?_
    refine sw_icmp_ge (pc := 48) (tgt := 101) C dX9_digest_48 (by decide) (fun hb48 => ?_) (fun hb48 => ?_)
    · replace hJ := itep hb48 hJ
      refine sw_iconst (pc := 101) C (v := (1 : Int32)) dX9_digest_101 (by decide) ?_
      refine sw_istore_n (pc := 102) C dX9_digest_102 rfl (by decide) (ll2 := [(3, .int (1 : Int32)), (0, .ref (ad 0)), (1, .long v1)]) rfl ?_
      exact sw_sub [1, 2, 0] (by rfl) (t_T_digest_103 C _ _ _ _ hJ)
    · replace hJ := iten hb48 hJ
      refine sw_iconst (pc := 51) C (v := (0 : Int32)) dX9_digest_51 (by decide) ?_
      refine sw_istore (pc := 52) C dX9_digest_52 (by decide) (ll2 := [(4, .int (0 : Int32)), (0, .ref (ad 0)), (1, .long v1), (3, .int v3)]) rfl ?_
      exact sw_sub [1, 2, 3, 0] (by rfl) (t_T_digest_54 C ih _ _ _ _ _ hJ)
set_option maxHeartbeats 4000000 in
set_option maxRecDepth 100000 in
theorem t_T_digest_6 {p : Program} {l : Launch} {e : Env} {s : State} {m : MethodId} {args : Array Value} {below : List Frame} {meth : Method} {c : Code} {D : va_G} {cy : Nat → ClassId} {ad : Nat → Nat} {A : Nat → Prop} (C : Cx p s m args meth c D cy cX9_digest 5 RX9 (some .long) A (wC cy ad)) {r : Int64 × St} : ∀ (n : Nat) (X : St) (v1 : Int64) (v3 : Int32), jT_digest_6 n X v1 v3 = some r → SW p l e ({ frames := 4, cells := 0, slots := 0, locals := 92 } : Room) s m args below meth c D 5 A (wC cy ad) (MQ below (poL D (wC cy ad) A r.1 r.2) args s 0 0 A) X [(0, .ref (ad 0)), (1, .long v1), (3, .int v3)] 6 [] := by
  intro n
  induction n with
  | zero => intro X v1 v3 hJ; exact absurd (show (none : Option (Int64 × St)) = some r from hJ) (fun h => by cases h)
  | succ n ih =>
    intro X v1 v3 hJ
    rw [jT_digest_6] at hJ
    refine sw_iload_n (pc := 6) C 2 dX9_digest_6 rfl rfl ?_
    refine sw_bipush (pc := 7) C (v := (49 : Int32)) dX9_digest_7 (by decide) ?_
    refine sw_icmp_ge (pc := 9) (tgt := 38) C dX9_digest_9 (by decide) (fun hb9 => ?_) (fun hb9 => ?_)
    · replace hJ := itep hb9 hJ
      refine sw_iconst (pc := 38) C (v := (0 : Int32)) dX9_digest_38 (by decide) ?_
      refine sw_istore_n (pc := 39) C dX9_digest_39 rfl (by decide) (ll2 := [(3, .int (0 : Int32)), (0, .ref (ad 0)), (1, .long v1)]) rfl ?_
      exact sw_sub [1, 2, 0] (by rfl) (t_T_digest_40 C _ _ _ _ hJ)
    · replace hJ := iten hb9 hJ
      refine sw_ldc2 (pc := 12) C (v := (31 : Int64)) wd_35_4 dX9_digest_12 ?_
      refine sw_lload_n (pc := 15) C 1 dX9_digest_15 rfl rfl ?_
      refine sw_lmul (pc := 16) C dX9_digest_16 ?_
      refine sw_aload_n (pc := 17) C 0 dX9_digest_17 rfl rfl ?_
      refine sw_iload_n (pc := 18) C 2 dX9_digest_18 rfl rfl ?_
      refine sw_bipush (pc := 19) C (v := (7 : Int32)) dX9_digest_19 (by decide) ?_
      refine sw_idiv (pc := 21) C dX9_digest_21 (by decide) ?_
      refine sw_iload_n (pc := 22) C 2 dX9_digest_22 rfl rfl ?_
      refine sw_bipush (pc := 23) C (v := (7 : Int32)) dX9_digest_23 (by decide) ?_
      refine sw_irem (pc := 25) C dX9_digest_25 (by decide) ?_
      obtain ⟨q26, hq26, hJ⟩ := bind_some hJ
      refine sw_callV_i (pc := 26) C (st := [.long ((31 : Int64) * v1)]) (As := [.int (v3 / (7 : Int32)), .int (v3 - v3 / (7 : Int32) * (7 : Int32))]) (k_T_replies C.2.2.2.2.2.2.1 hq26) pk_X9_replies wd_35_5 0 rfl rfl rfl ⟨Nat.le_of_ble_eq_true rfl, Nat.le_of_ble_eq_true rfl⟩ ⟨rfl, rfl⟩ rfl rfl (Nat.le_of_ble_eq_true rfl) dX9_digest_26 ?_
      refine sw_i2l (pc := 29) C dX9_digest_29 ?_
      refine sw_ladd (pc := 30) C dX9_digest_30 ?_
      refine sw_lstore_n (pc := 31) C dX9_digest_31 rfl (by decide) (ll2 := [(1, .long (((31 : Int64) * v1) + q26.toInt64)), (0, .ref (ad 0)), (3, .int v3)]) rfl ?_
      refine sw_iinc (pc := 32) C 2 dX9_digest_32 rfl (v := (v3 + (1 : Int32))) (congrArg (fun z => v3 + z) (by decide)) (by decide) (ll2 := [(3, .int (v3 + (1 : Int32))), (1, .long (((31 : Int64) * v1) + q26.toInt64)), (0, .ref (ad 0))]) rfl ?_
      refine sw_goto (pc := 35) (tgt := 6) C dX9_digest_35 (by decide) ?_
      exact sw_sub [2, 1, 0] (by rfl) (ih _ _ _ hJ)
set_option maxHeartbeats 4000000 in
set_option maxRecDepth 100000 in
theorem t_T_digest {p : Program} {l : Launch} {e : Env} {s : State} {m : MethodId} {args : Array Value} {below : List Frame} {meth : Method} {c : Code} {D : va_G} {cy : Nat → ClassId} {ad : Nat → Nat} {A : Nat → Prop} (C : Cx p s m args meth c D cy cX9_digest 5 RX9 (some .long) A (wC cy ad)) {r : Int64 × St} : ∀ (X : St), jT_digest X = some r → SW p l e ({ frames := 4, cells := 0, slots := 0, locals := 92 } : Room) s m args below meth c D 5 A (wC cy ad) (MQ below (poL D (wC cy ad) A r.1 r.2) args s 0 0 A) X [(0, .ref (ad 0))] 0 [] := by
  intro X hJ
  unfold jT_digest at hJ
  refine sw_ldc2 (pc := 0) C (v := (653 : Int64)) wd_35_3 dX9_digest_0 ?_
  refine sw_lstore_n (pc := 3) C dX9_digest_3 rfl (by decide) (ll2 := [(1, .long (653 : Int64)), (0, .ref (ad 0))]) rfl ?_
  refine sw_iconst (pc := 4) C (v := (0 : Int32)) dX9_digest_4 (by decide) ?_
  refine sw_istore_n (pc := 5) C dX9_digest_5 rfl (by decide) (ll2 := [(3, .int (0 : Int32)), (1, .long (653 : Int64)), (0, .ref (ad 0))]) rfl ?_
  exact sw_sub [2, 1, 0] (by rfl) (t_T_digest_6 C _ _ _ _ hJ)
set_option maxHeartbeats 4000000 in
set_option maxRecDepth 100000 in
theorem k_T_digest {l : Launch} {D : va_G} {cy : Nat → ClassId} {ad : Nat → Nat} {A : Nat → Prop} (hD : ∀ X, va_D A (wC cy ad X)) {X : St}  {r : Int64 × St} (hJ : jT_digest X = some r) : Met l yX9_digest (wsY yX9_digest cX9_digest 5 (some .long)) ({ frames := 4, cells := 0, slots := 0, locals := 92 } : Room) (prX D cy (wC cy ad) X [.ref (ad 0)]) (poL D (wC cy ad) A r.1 r.2) 0 0 A := sw_met (by decide +kernel) (Nat.le_of_ble_eq_true rfl) hD (fun p e s m args below meth c C => t_T_digest C _ hJ)
set_option maxHeartbeats 4000000 in
set_option maxRecDepth 100000 in
theorem t_M_in {p : Program} {l : Launch} {e : Env} {s : State} {m : MethodId} {args : Array Value} {below : List Frame} {meth : Method} {c : Code} {D : va_G} {cy : Nat → ClassId} {ad : Nat → Nat} {A : Nat → Prop} (C : Cx p s m args meth c D cy cX10_in 6 RX10 (some .boolean) A (wM cy ad)) {X : St} {r : Int32} : ∀ (a0 : Int64) (a2 : Int64) (a4 : Int64), jM_in a0 a2 a4 = some r → SW p l e ({ frames := 0, cells := 0, slots := 0, locals := 0 } : Room) s m args below meth c D 6 A (wM cy ad) (MQ below (poI D (wM cy ad) A r X) args s 0 0 A) X [(0, .long a0), (2, .long a2), (4, .long a4)] 0 [] := by
  intro a0 a2 a4 hJ
  unfold jM_in at hJ
  refine sw_lload_n (pc := 0) C 0 dX10_in_0 rfl rfl ?_
  refine sw_lload_n (pc := 1) C 1 dX10_in_1 rfl rfl ?_
  refine sw_lcmp (pc := 2) C dX10_in_2 ?_
  refine sw_if_lt (pc := 3) (tgt := 17) C dX10_in_3 (by decide) (fun hb3 => ?_) (fun hb3 => ?_)
  · replace hJ := itep hb3 hJ
    refine sw_iconst (pc := 17) C (v := (0 : Int32)) dX10_in_17 (by decide) ?_
    obtain rfl := Option.some.inj hJ
    exact sw_zret (pc := 18) (v := (0 : Int32)) C (by decide) dX10_in_18
  · replace hJ := iten hb3 hJ
    refine sw_lload_n (pc := 6) C 0 dX10_in_6 rfl rfl ?_
    refine sw_lload (pc := 7) C 2 dX10_in_7 rfl ?_
    refine sw_lcmp (pc := 9) C dX10_in_9 ?_
    refine sw_if_gt (pc := 10) (tgt := 17) C dX10_in_10 (by decide) (fun hb10 => ?_) (fun hb10 => ?_)
    · replace hJ := itep hb10 hJ
      refine sw_iconst (pc := 17) C (v := (0 : Int32)) dX10_in_17 (by decide) ?_
      obtain rfl := Option.some.inj hJ
      exact sw_zret (pc := 18) (v := (0 : Int32)) C (by decide) dX10_in_18
    · replace hJ := iten hb10 hJ
      refine sw_iconst (pc := 13) C (v := (1 : Int32)) dX10_in_13 (by decide) ?_
      refine sw_goto (pc := 14) (tgt := 18) C dX10_in_14 (by decide) ?_
      obtain rfl := Option.some.inj hJ
      exact sw_zret (pc := 18) (v := (1 : Int32)) C (by decide) dX10_in_18
set_option maxHeartbeats 4000000 in
set_option maxRecDepth 100000 in
theorem k_M_in {l : Launch} {D : va_G} {cy : Nat → ClassId} {ad : Nat → Nat} {A : Nat → Prop} (hD : ∀ X, va_D A (wM cy ad X)) {X : St} {a0 : Int64} {a2 : Int64} {a4 : Int64} {r : Int32} (hJ : jM_in a0 a2 a4 = some r) : Met l yX10_in (wsY yX10_in cX10_in 6 (some .boolean)) ({ frames := 0, cells := 0, slots := 0, locals := 0 } : Room) (prX D cy (wM cy ad) X [.long a0, .long a2, .long a4]) (poI D (wM cy ad) A r X) 0 0 A := sw_met (by decide +kernel) (Nat.le_of_ble_eq_true rfl) hD (fun p e s m args below meth c C => t_M_in C _ _ _ hJ)
set_option maxHeartbeats 4000000 in
set_option maxRecDepth 100000 in
theorem t_M_letters_108 {p : Program} {l : Launch} {e : Env} {s : State} {m : MethodId} {args : Array Value} {below : List Frame} {meth : Method} {c : Code} {D : va_G} {cy : Nat → ClassId} {ad : Nat → Nat} {A : Nat → Prop} (C : Cx p s m args meth c D cy cX10_letters 9 RX10 (some .int) A (wM cy ad)) {r : Int32 × St} : ∀ (n : Nat) (X : St) (v1 : Int64) (v3 : Int32) (v7 : Int32), jM_letters_108 n X v1 v3 v7 = some r → SW p l e ({ frames := 0, cells := 0, slots := 0, locals := 0 } : Room) s m args below meth c D 9 A (wM cy ad) (MQ below (poI D (wM cy ad) A r.1 r.2) args s 0 0 A) X [(0, .ref (ad 0)), (1, .long v1), (3, .int v3), (7, .int v7)] 108 [] := by
  intro n
  induction n with
  | zero => intro X v1 v3 v7 hJ; exact absurd (show (none : Option (Int32 × St)) = some r from hJ) (fun h => by cases h)
  | succ n ih =>
    intro X v1 v3 v7 hJ
    rw [jM_letters_108] at hJ
    refine sw_iload (pc := 108) C 3 dX10_letters_108 rfl ?_
    refine sw_iload_n (pc := 110) C 2 dX10_letters_110 rfl rfl ?_
    refine sw_icmp_ge (pc := 111) (tgt := 151) C dX10_letters_111 (by decide) (fun hb111 => ?_) (fun hb111 => ?_)
    · replace hJ := itep hb111 hJ
      refine sw_aload_n (pc := 151) C 0 dX10_letters_151 rfl rfl ?_
      refine gM_0_1 (pc := 152) C wd_6_12 dX10_letters_152 ?_
      obtain rfl := Option.some.inj hJ
      exact sw_iret (pc := 155) C dX10_letters_155
    · replace hJ := iten hb111 hJ
      refine sw_aload_n (pc := 114) C 0 dX10_letters_114 rfl rfl ?_
      refine gM_0_0 (pc := 115) C wd_4_11 dX10_letters_115 ?_
      refine sw_aload_n (pc := 118) C 0 dX10_letters_118 rfl rfl ?_
      refine gM_0_1 (pc := 119) C wd_6_12 dX10_letters_119 ?_
      refine sw_lload_n (pc := 122) C 1 dX10_letters_122 rfl rfl ?_
      refine sw_bipush (pc := 123) C (v := (8 : Int32)) dX10_letters_123 (by decide) ?_
      refine sw_iload (pc := 125) C 3 dX10_letters_125 rfl ?_
      refine sw_imul (pc := 127) C dX10_letters_127 ?_
      refine sw_lushr (pc := 128) C dX10_letters_128 ?_
      refine sw_ldc2 (pc := 129) C (v := (255 : Int64)) wd_6_11 dX10_letters_129 ?_
      refine sw_land (pc := 132) C dX10_letters_132 ?_
      refine sw_l2i (pc := 133) C dX10_letters_133 ?_
      obtain ⟨hi134, hJ⟩ := gd hJ
      refine tM_1 (pc := 134) C hi134 dX10_letters_134 ?_
      refine sw_aload_n (pc := 135) C 0 dX10_letters_135 rfl rfl ?_
      refine sw_dup (pc := 136) C dX10_letters_136 rfl ?_
      refine gM_0_1 (pc := 137) C wd_6_12 dX10_letters_137 ?_
      refine sw_iconst (pc := 140) C (v := (1 : Int32)) dX10_letters_140 (by decide) ?_
      refine sw_iadd (pc := 141) C dX10_letters_141 ?_
      refine pM_0_1 (pc := 142) C wd_6_12 dX10_letters_142 ?_
      refine sw_iinc (pc := 145) C 3 dX10_letters_145 rfl (v := (v7 + (1 : Int32))) (congrArg (fun z => v7 + z) (by decide)) (by decide) (ll2 := [(7, .int (v7 + (1 : Int32))), (0, .ref (ad 0)), (1, .long v1), (3, .int v3)]) rfl ?_
      refine sw_goto (pc := 148) (tgt := 108) C dX10_letters_148 (by decide) ?_
      exact sw_sub [1, 2, 3, 0] (by rfl) (ih _ _ _ _ hJ)
set_option maxHeartbeats 4000000 in
set_option maxRecDepth 100000 in
theorem t_M_letters_75 {p : Program} {l : Launch} {e : Env} {s : State} {m : MethodId} {args : Array Value} {below : List Frame} {meth : Method} {c : Code} {D : va_G} {cy : Nat → ClassId} {ad : Nat → Nat} {A : Nat → Prop} (C : Cx p s m args meth c D cy cX10_letters 9 RX10 (some .int) A (wM cy ad)) {k11 : St → Int64 → Int32 → Int32 → Int64 → Int32 → Option (Int32 × St)} {r : Int32 × St} (h11 : ∀ (X : St) (v1 : Int64) (v3 : Int32) (v4 : Int32) (v5 : Int64) (v7 : Int32), k11 X v1 v3 v4 v5 v7 = some r → SW p l e ({ frames := 0, cells := 0, slots := 0, locals := 0 } : Room) s m args below meth c D 9 A (wM cy ad) (MQ below (poI D (wM cy ad) A r.1 r.2) args s 0 0 A) X [(0, .ref (ad 0)), (1, .long v1), (3, .int v3), (4, .int v4), (5, .long v5), (7, .int v7)] 11 []) : ∀ (X : St) (v1 : Int64) (v4 : Int32) (v5 : Int64) (v7 : Int32) (s0 : Int32) (s1 : Int32), jM_letters_75 k11 X v1 v4 v5 v7 s0 s1 = some r → SW p l e ({ frames := 0, cells := 0, slots := 0, locals := 0 } : Room) s m args below meth c D 9 A (wM cy ad) (MQ below (poI D (wM cy ad) A r.1 r.2) args s 0 0 A) X [(0, .ref (ad 0)), (1, .long v1), (4, .int v4), (5, .long v5), (7, .int v7)] 75 [.int s1, .int s0] := by
  intro X v1 v4 v5 v7 s0 s1 hJ
  unfold jM_letters_75 at hJ
  refine sw_iadd (pc := 75) C dX10_letters_75 ?_
  refine sw_istore_n (pc := 76) C dX10_letters_76 rfl (by decide) (ll2 := [(3, .int (s0 + s1)), (0, .ref (ad 0)), (1, .long v1), (4, .int v4), (5, .long v5), (7, .int v7)]) rfl ?_
  refine sw_iinc (pc := 77) C 5 dX10_letters_77 rfl (v := (v7 + (1 : Int32))) (congrArg (fun z => v7 + z) (by decide)) (by decide) (ll2 := [(7, .int (v7 + (1 : Int32))), (3, .int (s0 + s1)), (0, .ref (ad 0)), (1, .long v1), (4, .int v4), (5, .long v5)]) rfl ?_
  refine sw_goto (pc := 80) (tgt := 11) C dX10_letters_80 (by decide) ?_
  exact sw_sub [2, 3, 1, 4, 5, 0] (by rfl) (h11 _ _ _ _ _ _ hJ)
set_option maxHeartbeats 4000000 in
set_option maxRecDepth 100000 in
theorem t_M_letters_62 {p : Program} {l : Launch} {e : Env} {s : State} {m : MethodId} {args : Array Value} {below : List Frame} {meth : Method} {c : Code} {D : va_G} {cy : Nat → ClassId} {ad : Nat → Nat} {A : Nat → Prop} (C : Cx p s m args meth c D cy cX10_letters 9 RX10 (some .int) A (wM cy ad)) {k11 : St → Int64 → Int32 → Int32 → Int64 → Int32 → Option (Int32 × St)} {r : Int32 × St} (h11 : ∀ (X : St) (v1 : Int64) (v3 : Int32) (v4 : Int32) (v5 : Int64) (v7 : Int32), k11 X v1 v3 v4 v5 v7 = some r → SW p l e ({ frames := 0, cells := 0, slots := 0, locals := 0 } : Room) s m args below meth c D 9 A (wM cy ad) (MQ below (poI D (wM cy ad) A r.1 r.2) args s 0 0 A) X [(0, .ref (ad 0)), (1, .long v1), (3, .int v3), (4, .int v4), (5, .long v5), (7, .int v7)] 11 []) : ∀ (X : St) (v1 : Int64) (v3 : Int32) (v5 : Int64) (v7 : Int32) (v8 : Int32) (s0 : Int32), jM_letters_62 k11 X v1 v3 v5 v7 v8 s0 = some r → SW p l e ({ frames := 0, cells := 0, slots := 0, locals := 0 } : Room) s m args below meth c D 9 A (wM cy ad) (MQ below (poI D (wM cy ad) A r.1 r.2) args s 0 0 A) X [(0, .ref (ad 0)), (1, .long v1), (3, .int v3), (5, .long v5), (7, .int v7), (8, .int v8)] 62 [.int s0] := by
  intro X v1 v3 v5 v7 v8 s0 hJ
  unfold jM_letters_62 at hJ
  refine sw_istore (pc := 62) C dX10_letters_62 (by decide) (ll2 := [(4, .int s0), (0, .ref (ad 0)), (1, .long v1), (3, .int v3), (5, .long v5), (7, .int v7), (8, .int v8)]) rfl ?_
  refine sw_iload_n (pc := 64) C 3 dX10_letters_64 rfl rfl ?_
  refine sw_iload (pc := 65) C 6 dX10_letters_65 rfl ?_
  refine sw_if_le (pc := 67) (tgt := 74) C dX10_letters_67 (by decide) (fun hb67 => ?_) (fun hb67 => ?_)
  · replace hJ := itep hb67 hJ
    refine sw_iconst (pc := 74) C (v := (0 : Int32)) dX10_letters_74 (by decide) ?_
    exact sw_sub [1, 2, 0, 4, 5] (by rfl) (t_M_letters_75 C h11 _ _ _ _ _ _ _ hJ)
  · replace hJ := iten hb67 hJ
    refine sw_iconst (pc := 70) C (v := (1 : Int32)) dX10_letters_70 (by decide) ?_
    refine sw_goto (pc := 71) (tgt := 75) C dX10_letters_71 (by decide) ?_
    exact sw_sub [1, 2, 0, 4, 5] (by rfl) (t_M_letters_75 C h11 _ _ _ _ _ _ _ hJ)
set_option maxHeartbeats 4000000 in
set_option maxRecDepth 100000 in
theorem t_M_letters_61 {p : Program} {l : Launch} {e : Env} {s : State} {m : MethodId} {args : Array Value} {below : List Frame} {meth : Method} {c : Code} {D : va_G} {cy : Nat → ClassId} {ad : Nat → Nat} {A : Nat → Prop} (C : Cx p s m args meth c D cy cX10_letters 9 RX10 (some .int) A (wM cy ad)) {k11 : St → Int64 → Int32 → Int32 → Int64 → Int32 → Option (Int32 × St)} {r : Int32 × St} (h11 : ∀ (X : St) (v1 : Int64) (v3 : Int32) (v4 : Int32) (v5 : Int64) (v7 : Int32), k11 X v1 v3 v4 v5 v7 = some r → SW p l e ({ frames := 0, cells := 0, slots := 0, locals := 0 } : Room) s m args below meth c D 9 A (wM cy ad) (MQ below (poI D (wM cy ad) A r.1 r.2) args s 0 0 A) X [(0, .ref (ad 0)), (1, .long v1), (3, .int v3), (4, .int v4), (5, .long v5), (7, .int v7)] 11 []) : ∀ (X : St) (v1 : Int64) (v3 : Int32) (v5 : Int64) (v7 : Int32) (v8 : Int32), jM_letters_61 k11 X v1 v3 v5 v7 v8 = some r → SW p l e ({ frames := 0, cells := 0, slots := 0, locals := 0 } : Room) s m args below meth c D 9 A (wM cy ad) (MQ below (poI D (wM cy ad) A r.1 r.2) args s 0 0 A) X [(0, .ref (ad 0)), (1, .long v1), (3, .int v3), (5, .long v5), (7, .int v7), (8, .int v8)] 61 [] := by
  intro X v1 v3 v5 v7 v8 hJ
  unfold jM_letters_61 at hJ
  refine sw_iconst (pc := 61) C (v := (0 : Int32)) dX10_letters_61 (by decide) ?_
  exact sw_sub [0, 1, 2, 3, 4, 5] (by rfl) (t_M_letters_62 C h11 _ _ _ _ _ _ _ hJ)
set_option maxHeartbeats 4000000 in
set_option maxRecDepth 100000 in
theorem t_M_letters_57 {p : Program} {l : Launch} {e : Env} {s : State} {m : MethodId} {args : Array Value} {below : List Frame} {meth : Method} {c : Code} {D : va_G} {cy : Nat → ClassId} {ad : Nat → Nat} {A : Nat → Prop} (C : Cx p s m args meth c D cy cX10_letters 9 RX10 (some .int) A (wM cy ad)) {k11 : St → Int64 → Int32 → Int32 → Int64 → Int32 → Option (Int32 × St)} {r : Int32 × St} (h11 : ∀ (X : St) (v1 : Int64) (v3 : Int32) (v4 : Int32) (v5 : Int64) (v7 : Int32), k11 X v1 v3 v4 v5 v7 = some r → SW p l e ({ frames := 0, cells := 0, slots := 0, locals := 0 } : Room) s m args below meth c D 9 A (wM cy ad) (MQ below (poI D (wM cy ad) A r.1 r.2) args s 0 0 A) X [(0, .ref (ad 0)), (1, .long v1), (3, .int v3), (4, .int v4), (5, .long v5), (7, .int v7)] 11 []) : ∀ (X : St) (v1 : Int64) (v3 : Int32) (v5 : Int64) (v7 : Int32) (v8 : Int32), jM_letters_57 k11 X v1 v3 v5 v7 v8 = some r → SW p l e ({ frames := 0, cells := 0, slots := 0, locals := 0 } : Room) s m args below meth c D 9 A (wM cy ad) (MQ below (poI D (wM cy ad) A r.1 r.2) args s 0 0 A) X [(0, .ref (ad 0)), (1, .long v1), (3, .int v3), (5, .long v5), (7, .int v7), (8, .int v8)] 57 [] := by
  intro X v1 v3 v5 v7 v8 hJ
  unfold jM_letters_57 at hJ
  refine sw_iconst (pc := 57) C (v := (1 : Int32)) dX10_letters_57 (by decide) ?_
  refine sw_goto (pc := 58) (tgt := 62) C dX10_letters_58 (by decide) ?_
  exact sw_sub [0, 1, 2, 3, 4, 5] (by rfl) (t_M_letters_62 C h11 _ _ _ _ _ _ _ hJ)
set_option maxHeartbeats 4000000 in
set_option maxRecDepth 100000 in
theorem t_M_letters_11 {p : Program} {l : Launch} {e : Env} {s : State} {m : MethodId} {args : Array Value} {below : List Frame} {meth : Method} {c : Code} {D : va_G} {cy : Nat → ClassId} {ad : Nat → Nat} {A : Nat → Prop} (C : Cx p s m args meth c D cy cX10_letters 9 RX10 (some .int) A (wM cy ad)) {r : Int32 × St} : ∀ (n : Nat) (X : St) (v1 : Int64) (v3 : Int32) (v4 : Int32) (v5 : Int64) (v7 : Int32), jM_letters_11 n X v1 v3 v4 v5 v7 = some r → SW p l e ({ frames := 0, cells := 0, slots := 0, locals := 0 } : Room) s m args below meth c D 9 A (wM cy ad) (MQ below (poI D (wM cy ad) A r.1 r.2) args s 0 0 A) X [(0, .ref (ad 0)), (1, .long v1), (3, .int v3), (4, .int v4), (5, .long v5), (7, .int v7)] 11 [] := by
  intro n
  induction n with
  | zero => intro X v1 v3 v4 v5 v7 hJ; exact absurd (show (none : Option (Int32 × St)) = some r from hJ) (fun h => by cases h)
  | succ n ih =>
    intro X v1 v3 v4 v5 v7 hJ
    rw [jM_letters_11] at hJ
    refine sw_iload (pc := 11) C 5 dX10_letters_11 rfl ?_
    refine sw_bipush (pc := 13) C (v := (8 : Int32)) dX10_letters_13 (by decide) ?_
    refine sw_icmp_ge (pc := 15) (tgt := 83) C dX10_letters_15 (by decide) (fun hb15 => ?_) (fun hb15 => ?_)
    · replace hJ := itep hb15 hJ
      refine sw_iload (pc := 83) C 3 dX10_letters_83 rfl ?_
      refine sw_if_ne (pc := 85) (tgt := 91) C dX10_letters_85 (by decide) (fun hb85 => ?_) (fun hb85 => ?_)
      · replace hJ := iten hb85 hJ
        refine sw_aload_n (pc := 91) C 0 dX10_letters_91 rfl rfl ?_
        refine gM_0_1 (pc := 92) C wd_6_12 dX10_letters_92 ?_
        refine sw_iload_n (pc := 95) C 2 dX10_letters_95 rfl rfl ?_
        refine sw_iadd (pc := 96) C dX10_letters_96 ?_
        refine sw_bipush (pc := 97) C (v := (32 : Int32)) dX10_letters_97 (by decide) ?_
        refine sw_icmp_le (pc := 99) (tgt := 105) C dX10_letters_99 (by decide) (fun hb99 => ?_) (fun hb99 => ?_)
        · replace hJ := itep hb99 hJ
          refine sw_iconst (pc := 105) C (v := (0 : Int32)) dX10_letters_105 (by decide) ?_
          refine sw_istore (pc := 106) C dX10_letters_106 (by decide) (ll2 := [(7, .int (0 : Int32)), (0, .ref (ad 0)), (1, .long v1), (3, .int v3), (4, .int v4), (5, .long v5)]) rfl ?_
          exact sw_sub [1, 2, 3, 0] (by rfl) (t_M_letters_108 C _ _ _ _ _ hJ)
        · replace hJ := iten hb99 hJ
          refine sw_bipush (pc := 102) C (v := (-104 : Int32)) dX10_letters_102 (by decide) ?_
          obtain rfl := Option.some.inj hJ
          exact sw_iret (pc := 104) C dX10_letters_104
      · replace hJ := itep hb85 hJ
        refine sw_bipush (pc := 88) C (v := (-102 : Int32)) dX10_letters_88 (by decide) ?_
        obtain rfl := Option.some.inj hJ
        exact sw_iret (pc := 90) C dX10_letters_90
    · replace hJ := iten hb15 hJ
      refine sw_lload (pc := 18) C 4 dX10_letters_18 rfl ?_
      refine sw_ldc2 (pc := 20) C (v := (255 : Int64)) wd_6_11 dX10_letters_20 ?_
      refine sw_land (pc := 23) C dX10_letters_23 ?_
      refine sw_l2i (pc := 24) C dX10_letters_24 ?_
      refine sw_istore (pc := 25) C dX10_letters_25 (by decide) (ll2 := [(8, .int (v5 &&& (255 : Int64)).toInt32), (0, .ref (ad 0)), (1, .long v1), (3, .int v3), (4, .int v4), (5, .long v5), (7, .int v7)]) rfl ?_
      refine sw_lload (pc := 27) C 5 dX10_letters_27 rfl ?_
      refine sw_bipush (pc := 29) C (v := (8 : Int32)) dX10_letters_29 (by decide) ?_
      refine sw_lushr (pc := 31) C dX10_letters_31 ?_
      refine sw_lstore (pc := 32) C dX10_letters_32 (by decide) (ll2 := [(5, .long (lush v5 (8 : Int32))), (8, .int (v5 &&& (255 : Int64)).toInt32), (0, .ref (ad 0)), (1, .long v1), (3, .int v3), (4, .int v4), (7, .int v7)]) rfl ?_
      refine sw_iload (pc := 34) C 5 dX10_letters_34 rfl ?_
      refine sw_if_eq (pc := 36) (tgt := 61) C dX10_letters_36 (by decide) (fun hb36 => ?_) (fun hb36 => ?_)
      · replace hJ := itep hb36 hJ
        exact sw_sub [2, 3, 4, 0, 6, 1] (by rfl) (t_M_letters_61 C ih _ _ _ _ _ _ hJ)
      · replace hJ := iten hb36 hJ
        refine sw_iload (pc := 39) C 1 dX10_letters_39 rfl ?_
        refine sw_bipush (pc := 41) C (v := (126 : Int32)) dX10_letters_41 (by decide) ?_
        refine sw_icmp_gt (pc := 43) (tgt := 61) C dX10_letters_43 (by decide) (fun hb43 => ?_) (fun hb43 => ?_)
        · replace hJ := itep hb43 hJ
          exact sw_sub [2, 3, 4, 0, 6, 1] (by rfl) (t_M_letters_61 C ih _ _ _ _ _ _ hJ)
        · replace hJ := iten hb43 hJ
          refine sw_iload (pc := 46) C 1 dX10_letters_46 rfl ?_
          refine sw_if_eq (pc := 48) (tgt := 57) C dX10_letters_48 (by decide) (fun hb48 => ?_) (fun hb48 => ?_)
          · replace hJ := itep hb48 hJ
            exact sw_sub [2, 3, 4, 0, 6, 1] (by rfl) (t_M_letters_57 C ih _ _ _ _ _ _ hJ)
          · replace hJ := iten hb48 hJ
            refine sw_iload_n (pc := 51) C 4 dX10_letters_51 rfl rfl ?_
            refine sw_iload (pc := 52) C 6 dX10_letters_52 rfl ?_
            refine sw_icmp_ne (pc := 54) (tgt := 61) C dX10_letters_54 (by decide) (fun hb54 => ?_) (fun hb54 => ?_)
            · replace hJ := iten hb54 hJ
              exact sw_sub [2, 3, 4, 0, 6, 1] (by rfl) (t_M_letters_61 C ih _ _ _ _ _ _ hJ)
            · replace hJ := itep hb54 hJ
              exact sw_sub [2, 3, 4, 0, 6, 1] (by rfl) (t_M_letters_57 C ih _ _ _ _ _ _ hJ)
set_option maxHeartbeats 4000000 in
set_option maxRecDepth 100000 in
theorem t_M_letters {p : Program} {l : Launch} {e : Env} {s : State} {m : MethodId} {args : Array Value} {below : List Frame} {meth : Method} {c : Code} {D : va_G} {cy : Nat → ClassId} {ad : Nat → Nat} {A : Nat → Prop} (C : Cx p s m args meth c D cy cX10_letters 9 RX10 (some .int) A (wM cy ad)) {r : Int32 × St} : ∀ (X : St) (a1 : Int64), jM_letters X a1 = some r → SW p l e ({ frames := 0, cells := 0, slots := 0, locals := 0 } : Room) s m args below meth c D 9 A (wM cy ad) (MQ below (poI D (wM cy ad) A r.1 r.2) args s 0 0 A) X [(0, .ref (ad 0)), (1, .long a1)] 0 [] := by
  intro X a1 hJ
  unfold jM_letters at hJ
  refine sw_iconst (pc := 0) C (v := (0 : Int32)) dX10_letters_0 (by decide) ?_
  refine sw_istore_n (pc := 1) C dX10_letters_1 rfl (by decide) (ll2 := [(3, .int (0 : Int32)), (0, .ref (ad 0)), (1, .long a1)]) rfl ?_
  refine sw_iconst (pc := 2) C (v := (1 : Int32)) dX10_letters_2 (by decide) ?_
  refine sw_istore (pc := 3) C dX10_letters_3 (by decide) (ll2 := [(4, .int (1 : Int32)), (3, .int (0 : Int32)), (0, .ref (ad 0)), (1, .long a1)]) rfl ?_
  refine sw_lload_n (pc := 5) C 3 dX10_letters_5 rfl rfl ?_
  refine sw_lstore (pc := 6) C dX10_letters_6 (by decide) (ll2 := [(5, .long a1), (4, .int (1 : Int32)), (3, .int (0 : Int32)), (0, .ref (ad 0)), (1, .long a1)]) rfl ?_
  refine sw_iconst (pc := 8) C (v := (0 : Int32)) dX10_letters_8 (by decide) ?_
  refine sw_istore (pc := 9) C dX10_letters_9 (by decide) (ll2 := [(7, .int (0 : Int32)), (5, .long a1), (4, .int (1 : Int32)), (3, .int (0 : Int32)), (0, .ref (ad 0)), (1, .long a1)]) rfl ?_
  exact sw_sub [4, 5, 3, 2, 1, 0] (by rfl) (t_M_letters_11 C _ _ _ _ _ _ _ hJ)
set_option maxHeartbeats 4000000 in
set_option maxRecDepth 100000 in
theorem k_M_letters {l : Launch} {D : va_G} {cy : Nat → ClassId} {ad : Nat → Nat} {A : Nat → Prop} (hD : ∀ X, va_D A (wM cy ad X)) {X : St} {a1 : Int64} {r : Int32 × St} (hJ : jM_letters X a1 = some r) : Met l yX10_letters (wsY yX10_letters cX10_letters 9 (some .int)) ({ frames := 0, cells := 0, slots := 0, locals := 0 } : Room) (prX D cy (wM cy ad) X [.ref (ad 0), .long a1]) (poI D (wM cy ad) A r.1 r.2) 0 0 A := sw_met (by decide +kernel) (Nat.le_of_ble_eq_true rfl) hD (fun p e s m args below meth c C => t_M_letters C _ _ hJ)
set_option maxHeartbeats 4000000 in
set_option maxRecDepth 100000 in
theorem t_M_blank {p : Program} {l : Launch} {e : Env} {s : State} {m : MethodId} {args : Array Value} {below : List Frame} {meth : Method} {c : Code} {D : va_G} {cy : Nat → ClassId} {ad : Nat → Nat} {A : Nat → Prop} (C : Cx p s m args meth c D cy cX10_blank 2 RX10 (some .int) A (wM cy ad)) {r : Int32 × St} : ∀ (X : St), jM_blank X = some r → SW p l e ({ frames := 0, cells := 0, slots := 0, locals := 0 } : Room) s m args below meth c D 2 A (wM cy ad) (MQ below (poI D (wM cy ad) A r.1 r.2) args s 0 0 A) X [(0, .ref (ad 0))] 0 [] := by
  intro X hJ
  unfold jM_blank at hJ
  refine sw_aload_n (pc := 0) C 0 dX10_blank_0 rfl rfl ?_
  refine gM_0_1 (pc := 1) C wd_6_12 dX10_blank_1 ?_
  refine sw_istore_n (pc := 4) C dX10_blank_4 rfl (by decide) (ll2 := [(1, .int (sF X 1)), (0, .ref (ad 0))]) rfl ?_
  refine sw_aload_n (pc := 5) C 1 dX10_blank_5 rfl rfl ?_
  refine sw_iconst (pc := 6) C (v := (0 : Int32)) dX10_blank_6 (by decide) ?_
  refine pM_0_1 (pc := 7) C wd_6_12 dX10_blank_7 ?_
  refine sw_iload_n (pc := 10) C 0 dX10_blank_10 rfl rfl ?_
  obtain rfl := Option.some.inj hJ
  exact sw_iret (pc := 11) C dX10_blank_11
set_option maxHeartbeats 4000000 in
set_option maxRecDepth 100000 in
theorem k_M_blank {l : Launch} {D : va_G} {cy : Nat → ClassId} {ad : Nat → Nat} {A : Nat → Prop} (hD : ∀ X, va_D A (wM cy ad X)) {X : St}  {r : Int32 × St} (hJ : jM_blank X = some r) : Met l yX10_blank (wsY yX10_blank cX10_blank 2 (some .int)) ({ frames := 0, cells := 0, slots := 0, locals := 0 } : Room) (prX D cy (wM cy ad) X [.ref (ad 0)]) (poI D (wM cy ad) A r.1 r.2) 0 0 A := sw_met (by decide +kernel) (Nat.le_of_ble_eq_true rfl) hD (fun p e s m args below meth c C => t_M_blank C _ hJ)
set_option maxHeartbeats 4000000 in
set_option maxRecDepth 100000 in
theorem t_M_goRule_143 {p : Program} {l : Launch} {e : Env} {s : State} {m : MethodId} {args : Array Value} {below : List Frame} {meth : Method} {c : Code} {D : va_G} {cy : Nat → ClassId} {ad : Nat → Nat} {A : Nat → Prop} (C : Cx p s m args meth c D cy cX10_goRule 4 RX10 (some .boolean) A (wM cy ad)) {r : Int32 × St} : ∀ (X : St) (v1 : Int32) (s1 : Int32), jM_goRule_143 X v1 s1 = some r → SW p l e ({ frames := 1, cells := 0, slots := 0, locals := 25 } : Room) s m args below meth c D 4 A (wM cy ad) (MQ below (poI D (wM cy ad) A r.1 r.2) args s 0 0 A) X [(0, .ref (ad 0)), (1, .int v1)] 143 [.int s1, .ref (ad 0)] := by
  intro X v1 s1 hJ
  unfold jM_goRule_143 at hJ
  refine pM_0_9 (pc := 143) C wd_9_20 dX10_goRule_143 ?_
  refine sw_iload_n (pc := 146) C 1 dX10_goRule_146 rfl rfl ?_
  refine sw_bipush (pc := 147) C (v := (44 : Int32)) dX10_goRule_147 (by decide) ?_
  refine sw_icmp_ne (pc := 149) (tgt := 169) C dX10_goRule_149 (by decide) (fun hb149 => ?_) (fun hb149 => ?_)
  · replace hJ := iten hb149 hJ
    refine sw_iload_n (pc := 169) C 1 dX10_goRule_169 rfl rfl ?_
    refine sw_bipush (pc := 170) C (v := (59 : Int32)) dX10_goRule_170 (by decide) ?_
    refine sw_icmp_ne (pc := 172) (tgt := 179) C dX10_goRule_172 (by decide) (fun hb172 => ?_) (fun hb172 => ?_)
    · replace hJ := iten hb172 hJ
      refine sw_iconst (pc := 179) C (v := (0 : Int32)) dX10_goRule_179 (by decide) ?_
      obtain rfl := Option.some.inj hJ
      exact sw_zret (pc := 180) (v := (0 : Int32)) C (by decide) dX10_goRule_180
    · replace hJ := itep hb172 hJ
      refine sw_iconst (pc := 175) C (v := (1 : Int32)) dX10_goRule_175 (by decide) ?_
      refine sw_goto (pc := 176) (tgt := 180) C dX10_goRule_176 (by decide) ?_
      obtain rfl := Option.some.inj hJ
      exact sw_zret (pc := 180) (v := (1 : Int32)) C (by decide) dX10_goRule_180
  · replace hJ := itep hb149 hJ
    refine sw_aload_n (pc := 152) C 0 dX10_goRule_152 rfl rfl ?_
    refine gM_0_6 (pc := 153) C wd_9_18 dX10_goRule_153 ?_
    refine sw_bipush (pc := 156) C (v := (10 : Int32)) dX10_goRule_156 (by decide) ?_
    refine sw_icmp_ge (pc := 158) (tgt := 165) C dX10_goRule_158 (by decide) (fun hb158 => ?_) (fun hb158 => ?_)
    · replace hJ := itep hb158 hJ
      refine sw_iconst (pc := 165) C (v := (0 : Int32)) dX10_goRule_165 (by decide) ?_
      refine sw_goto (pc := 166) (tgt := 180) C dX10_goRule_166 (by decide) ?_
      obtain rfl := Option.some.inj hJ
      exact sw_zret (pc := 180) (v := (0 : Int32)) C (by decide) dX10_goRule_180
    · replace hJ := iten hb158 hJ
      refine sw_iconst (pc := 161) C (v := (1 : Int32)) dX10_goRule_161 (by decide) ?_
      refine sw_goto (pc := 162) (tgt := 180) C dX10_goRule_162 (by decide) ?_
      obtain rfl := Option.some.inj hJ
      exact sw_zret (pc := 180) (v := (1 : Int32)) C (by decide) dX10_goRule_180
set_option maxHeartbeats 4000000 in
set_option maxRecDepth 100000 in
theorem t_M_goRule {p : Program} {l : Launch} {e : Env} {s : State} {m : MethodId} {args : Array Value} {below : List Frame} {meth : Method} {c : Code} {D : va_G} {cy : Nat → ClassId} {ad : Nat → Nat} {A : Nat → Prop} (C : Cx p s m args meth c D cy cX10_goRule 4 RX10 (some .boolean) A (wM cy ad)) {r : Int32 × St} : ∀ (X : St) (a1 : Int32), jM_goRule X a1 = some r → SW p l e ({ frames := 1, cells := 0, slots := 0, locals := 25 } : Room) s m args below meth c D 4 A (wM cy ad) (MQ below (poI D (wM cy ad) A r.1 r.2) args s 0 0 A) X [(0, .ref (ad 0)), (1, .int a1)] 0 [] := by
  intro X a1 hJ
  unfold jM_goRule at hJ
  refine sw_iload_n (pc := 0) C 1 dX10_goRule_0 rfl rfl ?_
  refine sw_bipush (pc := 1) C (v := (48 : Int32)) dX10_goRule_1 (by decide) ?_
  refine sw_isub (pc := 3) C dX10_goRule_3 ?_
  refine sw_istore_n (pc := 4) C dX10_goRule_4 rfl (by decide) (ll2 := [(2, .int (a1 - (48 : Int32))), (0, .ref (ad 0)), (1, .int a1)]) rfl ?_
  refine sw_aload_n (pc := 5) C 1 dX10_goRule_5 rfl rfl ?_
  refine gM_0_9 (pc := 6) C wd_9_20 dX10_goRule_6 ?_
  refine sw_istore_n (pc := 9) C dX10_goRule_9 rfl (by decide) (ll2 := [(3, .int (sF X 9)), (2, .int (a1 - (48 : Int32))), (0, .ref (ad 0)), (1, .int a1)]) rfl ?_
  refine sw_iload_n (pc := 10) C 0 dX10_goRule_10 rfl rfl ?_
  by_cases hs11_0 : (sF X 9) = (0 : Int32)
  · replace hJ := itep hs11_0 hJ
    refine sw_tblIn (pc := 11) C (0 : Int32) (off := 29) (tgt := 40) dX10_goRule_11 hs11_0 (by decide) (by decide) rfl (by decide) ?_
    refine sw_aload_n (pc := 40) C 2 dX10_goRule_40 rfl rfl ?_
    refine sw_iload_n (pc := 41) C 1 dX10_goRule_41 rfl rfl ?_
    refine pM_0_8 (pc := 42) C wd_10_1 dX10_goRule_42 ?_
    refine sw_aload_n (pc := 45) C 2 dX10_goRule_45 rfl rfl ?_
    refine sw_iconst (pc := 46) C (v := (1 : Int32)) dX10_goRule_46 (by decide) ?_
    refine pM_0_9 (pc := 47) C wd_9_20 dX10_goRule_47 ?_
    refine sw_iload_n (pc := 50) C 1 dX10_goRule_50 rfl rfl ?_
    refine sw_i2l (pc := 51) C dX10_goRule_51 ?_
    refine sw_lconst (pc := 52) C (v := (0 : Int64)) dX10_goRule_52 (by decide) ?_
    refine sw_ldc2 (pc := 53) C (v := (6 : Int64)) wd_10_2 dX10_goRule_53 ?_
    obtain ⟨q56, hq56, hJ⟩ := bind_some hJ
    refine sw_callS_i (pc := 56) C (st := []) (As := [.long (a1 - (48 : Int32)).toInt64, .long (0 : Int64), .long (6 : Int64)]) (k_M_in C.2.2.2.2.2.2.1 hq56) pk_X10_in wd_10_4 ⟨Nat.le_of_ble_eq_true rfl, Nat.le_of_ble_eq_true rfl⟩ ⟨rfl, rfl⟩ rfl rfl (Nat.le_of_ble_eq_true rfl) dX10_goRule_56 ?_
    obtain ⟨hz59, hJ⟩ := gd hJ
    obtain rfl := Option.some.inj hJ
    exact sw_zret (pc := 59) (v := q56) C hz59 dX10_goRule_59
  replace hJ := iten hs11_0 hJ
  by_cases hs11_1 : (sF X 9) = (1 : Int32)
  · replace hJ := itep hs11_1 hJ
    refine sw_tblIn (pc := 11) C (1 : Int32) (off := 49) (tgt := 60) dX10_goRule_11 hs11_1 (by decide) (by decide) rfl (by decide) ?_
    refine sw_aload_n (pc := 60) C 2 dX10_goRule_60 rfl rfl ?_
    refine sw_iconst (pc := 61) C (v := (2 : Int32)) dX10_goRule_61 (by decide) ?_
    refine pM_0_9 (pc := 62) C wd_9_20 dX10_goRule_62 ?_
    refine sw_iload_n (pc := 65) C 1 dX10_goRule_65 rfl rfl ?_
    refine sw_i2l (pc := 66) C dX10_goRule_66 ?_
    refine sw_lconst (pc := 67) C (v := (0 : Int64)) dX10_goRule_67 (by decide) ?_
    refine sw_ldc2 (pc := 68) C (v := (6 : Int64)) wd_10_2 dX10_goRule_68 ?_
    obtain ⟨q71, hq71, hJ⟩ := bind_some hJ
    refine sw_callS_i (pc := 71) C (st := []) (As := [.long (a1 - (48 : Int32)).toInt64, .long (0 : Int64), .long (6 : Int64)]) (k_M_in C.2.2.2.2.2.2.1 hq71) pk_X10_in wd_10_4 ⟨Nat.le_of_ble_eq_true rfl, Nat.le_of_ble_eq_true rfl⟩ ⟨rfl, rfl⟩ rfl rfl (Nat.le_of_ble_eq_true rfl) dX10_goRule_71 ?_
    refine sw_if_eq (pc := 74) (tgt := 102) C dX10_goRule_74 (by decide) (fun hb74 => ?_) (fun hb74 => ?_)
    · replace hJ := itep hb74 hJ
      refine sw_iconst (pc := 102) C (v := (0 : Int32)) dX10_goRule_102 (by decide) ?_
      obtain rfl := Option.some.inj hJ
      exact sw_zret (pc := 103) (v := (0 : Int32)) C (by decide) dX10_goRule_103
    · replace hJ := iten hb74 hJ
      refine sw_iload_n (pc := 77) C 1 dX10_goRule_77 rfl rfl ?_
      refine sw_aload_n (pc := 78) C 2 dX10_goRule_78 rfl rfl ?_
      refine gM_0_8 (pc := 79) C wd_10_1 dX10_goRule_79 ?_
      refine sw_icmp_eq (pc := 82) (tgt := 102) C dX10_goRule_82 (by decide) (fun hb82 => ?_) (fun hb82 => ?_)
      · replace hJ := itep hb82 hJ
        refine sw_iconst (pc := 102) C (v := (0 : Int32)) dX10_goRule_102 (by decide) ?_
        obtain rfl := Option.some.inj hJ
        exact sw_zret (pc := 103) (v := (0 : Int32)) C (by decide) dX10_goRule_103
      · replace hJ := iten hb82 hJ
        refine sw_aload_n (pc := 85) C 2 dX10_goRule_85 rfl rfl ?_
        refine gM_0_5 (pc := 86) C wd_4_13 dX10_goRule_86 ?_
        refine sw_aload_n (pc := 89) C 2 dX10_goRule_89 rfl rfl ?_
        refine gM_0_8 (pc := 90) C wd_10_1 dX10_goRule_90 ?_
        obtain ⟨hi93, hJ⟩ := gd hJ
        refine lM_3 (pc := 93) C hi93 dX10_goRule_93 ?_
        refine sw_iload_n (pc := 94) C 1 dX10_goRule_94 rfl rfl ?_
        refine sw_ishr (pc := 95) C dX10_goRule_95 ?_
        refine sw_iconst (pc := 96) C (v := (1 : Int32)) dX10_goRule_96 (by decide) ?_
        refine sw_iand (pc := 97) C dX10_goRule_97 ?_
        refine sw_iconst (pc := 98) C (v := (1 : Int32)) dX10_goRule_98 (by decide) ?_
        refine sw_icmp_ne (pc := 99) (tgt := 104) C dX10_goRule_99 (by decide) (fun hb99 => ?_) (fun hb99 => ?_)
        · replace hJ := iten hb99 hJ
          refine sw_aload_n (pc := 104) C 2 dX10_goRule_104 rfl rfl ?_
          refine gM_0_5 (pc := 105) C wd_4_13 dX10_goRule_105 ?_
          refine sw_aload_n (pc := 108) C 2 dX10_goRule_108 rfl rfl ?_
          refine gM_0_8 (pc := 109) C wd_10_1 dX10_goRule_109 ?_
          refine sw_dup2 (pc := 112) C dX10_goRule_112 rfl rfl ?_
          obtain ⟨hi113, hJ⟩ := gd hJ
          refine lM_3 (pc := 113) C hi113 dX10_goRule_113 ?_
          refine sw_iconst (pc := 114) C (v := (1 : Int32)) dX10_goRule_114 (by decide) ?_
          refine sw_iload_n (pc := 115) C 1 dX10_goRule_115 rfl rfl ?_
          refine sw_ishl (pc := 116) C dX10_goRule_116 ?_
          refine sw_ior (pc := 117) C dX10_goRule_117 ?_
          obtain ⟨hi118, hJ⟩ := gd hJ
          refine tM_3 (pc := 118) C hi118 dX10_goRule_118 ?_
          refine sw_aload_n (pc := 119) C 2 dX10_goRule_119 rfl rfl ?_
          refine sw_dup (pc := 120) C dX10_goRule_120 rfl ?_
          refine gM_0_6 (pc := 121) C wd_9_18 dX10_goRule_121 ?_
          refine sw_iconst (pc := 124) C (v := (1 : Int32)) dX10_goRule_124 (by decide) ?_
          refine sw_iadd (pc := 125) C dX10_goRule_125 ?_
          refine pM_0_6 (pc := 126) C wd_9_18 dX10_goRule_126 ?_
          refine sw_iconst (pc := 129) C (v := (1 : Int32)) dX10_goRule_129 (by decide) ?_
          obtain rfl := Option.some.inj hJ
          exact sw_zret (pc := 130) (v := (1 : Int32)) C (by decide) dX10_goRule_130
        · replace hJ := itep hb99 hJ
          refine sw_iconst (pc := 102) C (v := (0 : Int32)) dX10_goRule_102 (by decide) ?_
          obtain rfl := Option.some.inj hJ
          exact sw_zret (pc := 103) (v := (0 : Int32)) C (by decide) dX10_goRule_103
  replace hJ := iten hs11_1 hJ
  by_cases hs11_2 : (sF X 9) = (2 : Int32)
  · replace hJ := itep hs11_2 hJ
    refine sw_tblIn (pc := 11) C (2 : Int32) (off := 120) (tgt := 131) dX10_goRule_11 hs11_2 (by decide) (by decide) rfl (by decide) ?_
    refine sw_aload_n (pc := 131) C 2 dX10_goRule_131 rfl rfl ?_
    refine sw_iload_n (pc := 132) C 3 dX10_goRule_132 rfl rfl ?_
    refine sw_bipush (pc := 133) C (v := (44 : Int32)) dX10_goRule_133 (by decide) ?_
    refine sw_icmp_ne (pc := 135) (tgt := 142) C dX10_goRule_135 (by decide) (fun hb135 => ?_) (fun hb135 => ?_)
    · replace hJ := iten hb135 hJ
      refine sw_iconst (pc := 142) C (v := (3 : Int32)) dX10_goRule_142 (by decide) ?_
      exact sw_sub [2, 3] (by rfl) (t_M_goRule_143 C _ _ _ hJ)
    · replace hJ := itep hb135 hJ
      refine sw_iconst (pc := 138) C (v := (0 : Int32)) dX10_goRule_138 (by decide) ?_
      refine sw_goto (pc := 139) (tgt := 143) C dX10_goRule_139 (by decide) ?_
      exact sw_sub [2, 3] (by rfl) (t_M_goRule_143 C _ _ _ hJ)
  replace hJ := iten hs11_2 hJ
  by_cases hs11_3 : (sF X 9) = (3 : Int32)
  · replace hJ := itep hs11_3 hJ
    refine sw_tblIn (pc := 11) C (3 : Int32) (off := 170) (tgt := 181) dX10_goRule_11 hs11_3 (by decide) (by decide) rfl (by decide) ?_
    refine sw_aload_n (pc := 181) C 2 dX10_goRule_181 rfl rfl ?_
    refine sw_iload_n (pc := 182) C 1 dX10_goRule_182 rfl rfl ?_
    refine pM_0_7 (pc := 183) C wd_9_19 dX10_goRule_183 ?_
    refine sw_aload_n (pc := 186) C 2 dX10_goRule_186 rfl rfl ?_
    refine sw_iconst (pc := 187) C (v := (4 : Int32)) dX10_goRule_187 (by decide) ?_
    refine pM_0_9 (pc := 188) C wd_9_20 dX10_goRule_188 ?_
    refine sw_iload_n (pc := 191) C 1 dX10_goRule_191 rfl rfl ?_
    refine sw_i2l (pc := 192) C dX10_goRule_192 ?_
    refine sw_lconst (pc := 193) C (v := (0 : Int64)) dX10_goRule_193 (by decide) ?_
    refine sw_ldc2 (pc := 194) C (v := (9 : Int64)) wd_10_3 dX10_goRule_194 ?_
    obtain ⟨q197, hq197, hJ⟩ := bind_some hJ
    refine sw_callS_i (pc := 197) C (st := []) (As := [.long (a1 - (48 : Int32)).toInt64, .long (0 : Int64), .long (9 : Int64)]) (k_M_in C.2.2.2.2.2.2.1 hq197) pk_X10_in wd_10_4 ⟨Nat.le_of_ble_eq_true rfl, Nat.le_of_ble_eq_true rfl⟩ ⟨rfl, rfl⟩ rfl rfl (Nat.le_of_ble_eq_true rfl) dX10_goRule_197 ?_
    obtain ⟨hz200, hJ⟩ := gd hJ
    obtain rfl := Option.some.inj hJ
    exact sw_zret (pc := 200) (v := q197) C hz200 dX10_goRule_200
  replace hJ := iten hs11_3 hJ
  have e11_0 := tbl_ne (0 : Int32) (a := 0) hs11_0 (by decide)
  have e11_1 := tbl_ne (1 : Int32) (a := 1) hs11_1 (by decide)
  have e11_2 := tbl_ne (2 : Int32) (a := 2) hs11_2 (by decide)
  have e11_3 := tbl_ne (3 : Int32) (a := 3) hs11_3 (by decide)
  refine sw_tblOut (pc := 11) (tgt := 201) C dX10_goRule_11 (by omega) (by decide) ?_
  refine sw_iconst (pc := 201) C (v := (0 : Int32)) dX10_goRule_201 (by decide) ?_
  obtain rfl := Option.some.inj hJ
  exact sw_zret (pc := 202) (v := (0 : Int32)) C (by decide) dX10_goRule_202
set_option maxHeartbeats 4000000 in
set_option maxRecDepth 100000 in
theorem k_M_goRule {l : Launch} {D : va_G} {cy : Nat → ClassId} {ad : Nat → Nat} {A : Nat → Prop} (hD : ∀ X, va_D A (wM cy ad X)) {X : St} {a1 : Int32} {r : Int32 × St} (hJ : jM_goRule X a1 = some r) : Met l yX10_goRule (wsY yX10_goRule cX10_goRule 4 (some .boolean)) ({ frames := 1, cells := 0, slots := 0, locals := 25 } : Room) (prX D cy (wM cy ad) X [.ref (ad 0), .int a1]) (poI D (wM cy ad) A r.1 r.2) 0 0 A := sw_met (by decide +kernel) (Nat.le_of_ble_eq_true rfl) hD (fun p e s m args below meth c C => t_M_goRule C _ _ hJ)
set_option maxHeartbeats 4000000 in
set_option maxRecDepth 100000 in
theorem t_M_ruleFault_38 {p : Program} {l : Launch} {e : Env} {s : State} {m : MethodId} {args : Array Value} {below : List Frame} {meth : Method} {c : Code} {D : va_G} {cy : Nat → ClassId} {ad : Nat → Nat} {A : Nat → Prop} (C : Cx p s m args meth c D cy cX10_ruleFault 2 RX10 (some .int) A (wM cy ad)) {r : Int32 × St} : ∀ (n : Nat) (X : St) (v1 : Int32), jM_ruleFault_38 n X v1 = some r → SW p l e ({ frames := 2, cells := 0, slots := 0, locals := 48 } : Room) s m args below meth c D 2 A (wM cy ad) (MQ below (poI D (wM cy ad) A r.1 r.2) args s 0 0 A) X [(0, .ref (ad 0)), (1, .int v1)] 38 [] := by
  intro n
  induction n with
  | zero => intro X v1 hJ; exact absurd (show (none : Option (Int32 × St)) = some r from hJ) (fun h => by cases h)
  | succ n ih =>
    intro X v1 hJ
    rw [jM_ruleFault_38] at hJ
    refine sw_iload_n (pc := 38) C 1 dX10_ruleFault_38 rfl rfl ?_
    refine sw_aload_n (pc := 39) C 0 dX10_ruleFault_39 rfl rfl ?_
    refine gM_0_1 (pc := 40) C wd_6_12 dX10_ruleFault_40 ?_
    refine sw_icmp_ge (pc := 43) (tgt := 65) C dX10_ruleFault_43 (by decide) (fun hb43 => ?_) (fun hb43 => ?_)
    · replace hJ := itep hb43 hJ
      refine sw_iload_n (pc := 65) C 1 dX10_ruleFault_65 rfl rfl ?_
      obtain rfl := Option.some.inj hJ
      exact sw_iret (pc := 66) C dX10_ruleFault_66
    · replace hJ := iten hb43 hJ
      refine sw_aload_n (pc := 46) C 0 dX10_ruleFault_46 rfl rfl ?_
      refine sw_aload_n (pc := 47) C 0 dX10_ruleFault_47 rfl rfl ?_
      refine gM_0_0 (pc := 48) C wd_4_11 dX10_ruleFault_48 ?_
      refine sw_iload_n (pc := 51) C 1 dX10_ruleFault_51 rfl rfl ?_
      obtain ⟨hi52, hJ⟩ := gd hJ
      refine lM_1 (pc := 52) C hi52 dX10_ruleFault_52 ?_
      obtain ⟨q53, hq53, hJ⟩ := bind_some hJ
      refine sw_callV_i (pc := 53) C (st := []) (As := [.int (sA X 1 v1.toNatClampNeg)]) (k_M_goRule C.2.2.2.2.2.2.1 hq53) pk_X10_goRule wd_9_21 0 rfl rfl rfl ⟨Nat.le_of_ble_eq_true rfl, Nat.le_of_ble_eq_true rfl⟩ ⟨rfl, rfl⟩ rfl rfl (Nat.le_of_ble_eq_true rfl) dX10_ruleFault_53 ?_
      refine sw_if_eq (pc := 56) (tgt := 65) C dX10_ruleFault_56 (by decide) (fun hb56 => ?_) (fun hb56 => ?_)
      · replace hJ := itep hb56 hJ
        refine sw_iload_n (pc := 65) C 1 dX10_ruleFault_65 rfl rfl ?_
        obtain rfl := Option.some.inj hJ
        exact sw_iret (pc := 66) C dX10_ruleFault_66
      · replace hJ := iten hb56 hJ
        refine sw_iinc (pc := 59) C 1 dX10_ruleFault_59 rfl (v := (v1 + (1 : Int32))) (congrArg (fun z => v1 + z) (by decide)) (by decide) (ll2 := [(1, .int (v1 + (1 : Int32))), (0, .ref (ad 0))]) rfl ?_
        refine sw_goto (pc := 62) (tgt := 38) C dX10_ruleFault_62 (by decide) ?_
        exact sw_sub [1, 0] (by rfl) (ih _ _ hJ)
set_option maxHeartbeats 4000000 in
set_option maxRecDepth 100000 in
theorem t_M_ruleFault_2 {p : Program} {l : Launch} {e : Env} {s : State} {m : MethodId} {args : Array Value} {below : List Frame} {meth : Method} {c : Code} {D : va_G} {cy : Nat → ClassId} {ad : Nat → Nat} {A : Nat → Prop} (C : Cx p s m args meth c D cy cX10_ruleFault 2 RX10 (some .int) A (wM cy ad)) {r : Int32 × St} : ∀ (n : Nat) (X : St) (v1 : Int32), jM_ruleFault_2 n X v1 = some r → SW p l e ({ frames := 2, cells := 0, slots := 0, locals := 48 } : Room) s m args below meth c D 2 A (wM cy ad) (MQ below (poI D (wM cy ad) A r.1 r.2) args s 0 0 A) X [(0, .ref (ad 0)), (1, .int v1)] 2 [] := by
  intro n
  induction n with
  | zero => intro X v1 hJ; exact absurd (show (none : Option (Int32 × St)) = some r from hJ) (fun h => by cases h)
  | succ n ih =>
    intro X v1 hJ
    rw [jM_ruleFault_2] at hJ
    refine sw_iload_n (pc := 2) C 1 dX10_ruleFault_2 rfl rfl ?_
    refine sw_bipush (pc := 3) C (v := (7 : Int32)) dX10_ruleFault_3 (by decide) ?_
    refine sw_icmp_ge (pc := 5) (tgt := 21) C dX10_ruleFault_5 (by decide) (fun hb5 => ?_) (fun hb5 => ?_)
    · replace hJ := itep hb5 hJ
      refine sw_aload_n (pc := 21) C 0 dX10_ruleFault_21 rfl rfl ?_
      refine sw_iconst (pc := 22) C (v := (0 : Int32)) dX10_ruleFault_22 (by decide) ?_
      refine pM_0_6 (pc := 23) C wd_9_18 dX10_ruleFault_23 ?_
      refine sw_aload_n (pc := 26) C 0 dX10_ruleFault_26 rfl rfl ?_
      refine sw_iconst (pc := 27) C (v := (3 : Int32)) dX10_ruleFault_27 (by decide) ?_
      refine pM_0_7 (pc := 28) C wd_9_19 dX10_ruleFault_28 ?_
      refine sw_aload_n (pc := 31) C 0 dX10_ruleFault_31 rfl rfl ?_
      refine sw_iconst (pc := 32) C (v := (0 : Int32)) dX10_ruleFault_32 (by decide) ?_
      refine pM_0_9 (pc := 33) C wd_9_20 dX10_ruleFault_33 ?_
      refine sw_iconst (pc := 36) C (v := (0 : Int32)) dX10_ruleFault_36 (by decide) ?_
      refine sw_istore_n (pc := 37) C dX10_ruleFault_37 rfl (by decide) (ll2 := [(1, .int (0 : Int32)), (0, .ref (ad 0))]) rfl ?_
      exact sw_sub [1, 0] (by rfl) (t_M_ruleFault_38 C _ _ _ hJ)
    · replace hJ := iten hb5 hJ
      refine sw_aload_n (pc := 8) C 0 dX10_ruleFault_8 rfl rfl ?_
      refine gM_0_5 (pc := 9) C wd_4_13 dX10_ruleFault_9 ?_
      refine sw_iload_n (pc := 12) C 1 dX10_ruleFault_12 rfl rfl ?_
      refine sw_iconst (pc := 13) C (v := (0 : Int32)) dX10_ruleFault_13 (by decide) ?_
      obtain ⟨hi14, hJ⟩ := gd hJ
      refine tM_3 (pc := 14) C hi14 dX10_ruleFault_14 ?_
      refine sw_iinc (pc := 15) C 1 dX10_ruleFault_15 rfl (v := (v1 + (1 : Int32))) (congrArg (fun z => v1 + z) (by decide)) (by decide) (ll2 := [(1, .int (v1 + (1 : Int32))), (0, .ref (ad 0))]) rfl ?_
      refine sw_goto (pc := 18) (tgt := 2) C dX10_ruleFault_18 (by decide) ?_
      exact sw_sub [1, 0] (by rfl) (ih _ _ hJ)
set_option maxHeartbeats 4000000 in
set_option maxRecDepth 100000 in
theorem t_M_ruleFault {p : Program} {l : Launch} {e : Env} {s : State} {m : MethodId} {args : Array Value} {below : List Frame} {meth : Method} {c : Code} {D : va_G} {cy : Nat → ClassId} {ad : Nat → Nat} {A : Nat → Prop} (C : Cx p s m args meth c D cy cX10_ruleFault 2 RX10 (some .int) A (wM cy ad)) {r : Int32 × St} : ∀ (X : St), jM_ruleFault X = some r → SW p l e ({ frames := 2, cells := 0, slots := 0, locals := 48 } : Room) s m args below meth c D 2 A (wM cy ad) (MQ below (poI D (wM cy ad) A r.1 r.2) args s 0 0 A) X [(0, .ref (ad 0))] 0 [] := by
  intro X hJ
  unfold jM_ruleFault at hJ
  refine sw_iconst (pc := 0) C (v := (0 : Int32)) dX10_ruleFault_0 (by decide) ?_
  refine sw_istore_n (pc := 1) C dX10_ruleFault_1 rfl (by decide) (ll2 := [(1, .int (0 : Int32)), (0, .ref (ad 0))]) rfl ?_
  exact sw_sub [1, 0] (by rfl) (t_M_ruleFault_2 C _ _ _ hJ)
set_option maxHeartbeats 4000000 in
set_option maxRecDepth 100000 in
theorem k_M_ruleFault {l : Launch} {D : va_G} {cy : Nat → ClassId} {ad : Nat → Nat} {A : Nat → Prop} (hD : ∀ X, va_D A (wM cy ad X)) {X : St}  {r : Int32 × St} (hJ : jM_ruleFault X = some r) : Met l yX10_ruleFault (wsY yX10_ruleFault cX10_ruleFault 2 (some .int)) ({ frames := 2, cells := 0, slots := 0, locals := 48 } : Room) (prX D cy (wM cy ad) X [.ref (ad 0)]) (poI D (wM cy ad) A r.1 r.2) 0 0 A := sw_met (by decide +kernel) (Nat.le_of_ble_eq_true rfl) hD (fun p e s m args below meth c C => t_M_ruleFault C _ hJ)
set_option maxHeartbeats 4000000 in
set_option maxRecDepth 100000 in
theorem t_M_debateFault_88 {p : Program} {l : Launch} {e : Env} {s : State} {m : MethodId} {args : Array Value} {below : List Frame} {meth : Method} {c : Code} {D : va_G} {cy : Nat → ClassId} {ad : Nat → Nat} {A : Nat → Prop} (C : Cx p s m args meth c D cy cX10_debateFault 3 RX10 (some .int) A (wM cy ad)) {r : Int32 × St} : ∀ (X : St) (v2 : Int32), jM_debateFault_88 X v2 = some r → SW p l e ({ frames := 1, cells := 0, slots := 0, locals := 25 } : Room) s m args below meth c D 3 A (wM cy ad) (MQ below (poI D (wM cy ad) A r.1 r.2) args s 0 0 A) X [(0, .ref (ad 0)), (2, .int v2)] 88 [] := by
  intro X v2 hJ
  unfold jM_debateFault_88 at hJ
  refine sw_aload_n (pc := 88) C 0 dX10_debateFault_88 rfl rfl ?_
  refine sw_iload_n (pc := 89) C 1 dX10_debateFault_89 rfl rfl ?_
  refine pM_0_11 (pc := 90) C wd_10_11 dX10_debateFault_90 ?_
  refine sw_iload_n (pc := 93) C 1 dX10_debateFault_93 rfl rfl ?_
  obtain rfl := Option.some.inj hJ
  exact sw_iret (pc := 94) C dX10_debateFault_94
set_option maxHeartbeats 4000000 in
set_option maxRecDepth 100000 in
theorem t_M_debateFault_9 {p : Program} {l : Launch} {e : Env} {s : State} {m : MethodId} {args : Array Value} {below : List Frame} {meth : Method} {c : Code} {D : va_G} {cy : Nat → ClassId} {ad : Nat → Nat} {A : Nat → Prop} (C : Cx p s m args meth c D cy cX10_debateFault 3 RX10 (some .int) A (wM cy ad)) {r : Int32 × St} : ∀ (n : Nat) (X : St) (v1 : Int32) (v2 : Int32), jM_debateFault_9 n X v1 v2 = some r → SW p l e ({ frames := 1, cells := 0, slots := 0, locals := 25 } : Room) s m args below meth c D 3 A (wM cy ad) (MQ below (poI D (wM cy ad) A r.1 r.2) args s 0 0 A) X [(0, .ref (ad 0)), (1, .int v1), (2, .int v2)] 9 [] := by
  intro n
  induction n with
  | zero => intro X v1 v2 hJ; exact absurd (show (none : Option (Int32 × St)) = some r from hJ) (fun h => by cases h)
  | succ n ih =>
    intro X v1 v2 hJ
    rw [jM_debateFault_9] at hJ
    refine sw_iload_n (pc := 9) C 2 dX10_debateFault_9 rfl rfl ?_
    refine sw_aload_n (pc := 10) C 0 dX10_debateFault_10 rfl rfl ?_
    refine gM_0_1 (pc := 11) C wd_6_12 dX10_debateFault_11 ?_
    refine sw_icmp_ge (pc := 14) (tgt := 88) C dX10_debateFault_14 (by decide) (fun hb14 => ?_) (fun hb14 => ?_)
    · replace hJ := itep hb14 hJ
      exact sw_sub [0, 2] (by rfl) (t_M_debateFault_88 C _ _ hJ)
    · replace hJ := iten hb14 hJ
      refine sw_aload_n (pc := 17) C 0 dX10_debateFault_17 rfl rfl ?_
      refine gM_0_0 (pc := 18) C wd_4_11 dX10_debateFault_18 ?_
      refine sw_iload_n (pc := 21) C 2 dX10_debateFault_21 rfl rfl ?_
      obtain ⟨hi22, hJ⟩ := gd hJ
      refine lM_1 (pc := 22) C hi22 dX10_debateFault_22 ?_
      refine sw_bipush (pc := 23) C (v := (48 : Int32)) dX10_debateFault_23 (by decide) ?_
      refine sw_isub (pc := 25) C dX10_debateFault_25 ?_
      refine sw_i2l (pc := 26) C dX10_debateFault_26 ?_
      refine sw_lconst (pc := 27) C (v := (0 : Int64)) dX10_debateFault_27 (by decide) ?_
      refine sw_ldc2 (pc := 28) C (v := (6 : Int64)) wd_10_2 dX10_debateFault_28 ?_
      obtain ⟨q31, hq31, hJ⟩ := bind_some hJ
      refine sw_callS_i (pc := 31) C (st := []) (As := [.long ((sA X 1 v2.toNatClampNeg) - (48 : Int32)).toInt64, .long (0 : Int64), .long (6 : Int64)]) (k_M_in C.2.2.2.2.2.2.1 hq31) pk_X10_in wd_10_4 ⟨Nat.le_of_ble_eq_true rfl, Nat.le_of_ble_eq_true rfl⟩ ⟨rfl, rfl⟩ rfl rfl (Nat.le_of_ble_eq_true rfl) dX10_debateFault_31 ?_
      refine sw_if_eq (pc := 34) (tgt := 88) C dX10_debateFault_34 (by decide) (fun hb34 => ?_) (fun hb34 => ?_)
      · replace hJ := itep hb34 hJ
        exact sw_sub [0, 2] (by rfl) (t_M_debateFault_88 C _ _ hJ)
      · replace hJ := iten hb34 hJ
        refine sw_iload_n (pc := 37) C 1 dX10_debateFault_37 rfl rfl ?_
        refine sw_aload_n (pc := 38) C 0 dX10_debateFault_38 rfl rfl ?_
        refine gM_0_0 (pc := 39) C wd_4_11 dX10_debateFault_39 ?_
        refine sw_iload_n (pc := 42) C 2 dX10_debateFault_42 rfl rfl ?_
        obtain ⟨hi43, hJ⟩ := gd hJ
        refine lM_1 (pc := 43) C hi43 dX10_debateFault_43 ?_
        refine sw_bipush (pc := 44) C (v := (48 : Int32)) dX10_debateFault_44 (by decide) ?_
        refine sw_isub (pc := 46) C dX10_debateFault_46 ?_
        refine sw_ishr (pc := 47) C dX10_debateFault_47 ?_
        refine sw_iconst (pc := 48) C (v := (1 : Int32)) dX10_debateFault_48 (by decide) ?_
        refine sw_iand (pc := 49) C dX10_debateFault_49 ?_
        refine sw_if_ne (pc := 50) (tgt := 88) C dX10_debateFault_50 (by decide) (fun hb50 => ?_) (fun hb50 => ?_)
        · replace hJ := iten hb50 hJ
          exact sw_sub [0, 2] (by rfl) (t_M_debateFault_88 C _ _ hJ)
        · replace hJ := itep hb50 hJ
          refine sw_iload_n (pc := 53) C 1 dX10_debateFault_53 rfl rfl ?_
          refine sw_iconst (pc := 54) C (v := (1 : Int32)) dX10_debateFault_54 (by decide) ?_
          refine sw_aload_n (pc := 55) C 0 dX10_debateFault_55 rfl rfl ?_
          refine gM_0_0 (pc := 56) C wd_4_11 dX10_debateFault_56 ?_
          refine sw_iload_n (pc := 59) C 2 dX10_debateFault_59 rfl rfl ?_
          obtain ⟨hi60, hJ⟩ := gd hJ
          refine lM_1 (pc := 60) C hi60 dX10_debateFault_60 ?_
          refine sw_bipush (pc := 61) C (v := (48 : Int32)) dX10_debateFault_61 (by decide) ?_
          refine sw_isub (pc := 63) C dX10_debateFault_63 ?_
          refine sw_ishl (pc := 64) C dX10_debateFault_64 ?_
          refine sw_ior (pc := 65) C dX10_debateFault_65 ?_
          refine sw_istore_n (pc := 66) C dX10_debateFault_66 rfl (by decide) (ll2 := [(1, .int (v1 ||| ((1 : Int32) <<< (((sA X 1 v2.toNatClampNeg) - (48 : Int32)) &&& 31)))), (0, .ref (ad 0)), (2, .int v2)]) rfl ?_
          refine sw_aload_n (pc := 67) C 1 dX10_debateFault_67 rfl rfl ?_
          refine gM_0_10 (pc := 68) C wd_4_14 dX10_debateFault_68 ?_
          refine sw_iload_n (pc := 71) C 2 dX10_debateFault_71 rfl rfl ?_
          refine sw_aload_n (pc := 72) C 1 dX10_debateFault_72 rfl rfl ?_
          refine gM_0_0 (pc := 73) C wd_4_11 dX10_debateFault_73 ?_
          refine sw_iload_n (pc := 76) C 2 dX10_debateFault_76 rfl rfl ?_
          obtain ⟨hi77, hJ⟩ := gd hJ
          refine lM_1 (pc := 77) C hi77 dX10_debateFault_77 ?_
          refine sw_bipush (pc := 78) C (v := (48 : Int32)) dX10_debateFault_78 (by decide) ?_
          refine sw_isub (pc := 80) C dX10_debateFault_80 ?_
          obtain ⟨hi81, hJ⟩ := gd hJ
          refine tM_4 (pc := 81) C hi81 dX10_debateFault_81 ?_
          refine sw_iinc (pc := 82) C 2 dX10_debateFault_82 rfl (v := (v2 + (1 : Int32))) (congrArg (fun z => v2 + z) (by decide)) (by decide) (ll2 := [(2, .int (v2 + (1 : Int32))), (1, .int (v1 ||| ((1 : Int32) <<< (((sA X 1 v2.toNatClampNeg) - (48 : Int32)) &&& 31)))), (0, .ref (ad 0))]) rfl ?_
          refine sw_goto (pc := 85) (tgt := 9) C dX10_debateFault_85 (by decide) ?_
          exact sw_sub [2, 1, 0] (by rfl) (ih _ _ _ hJ)
set_option maxHeartbeats 4000000 in
set_option maxRecDepth 100000 in
theorem t_M_debateFault {p : Program} {l : Launch} {e : Env} {s : State} {m : MethodId} {args : Array Value} {below : List Frame} {meth : Method} {c : Code} {D : va_G} {cy : Nat → ClassId} {ad : Nat → Nat} {A : Nat → Prop} (C : Cx p s m args meth c D cy cX10_debateFault 3 RX10 (some .int) A (wM cy ad)) {r : Int32 × St} : ∀ (X : St), jM_debateFault X = some r → SW p l e ({ frames := 1, cells := 0, slots := 0, locals := 25 } : Room) s m args below meth c D 3 A (wM cy ad) (MQ below (poI D (wM cy ad) A r.1 r.2) args s 0 0 A) X [(0, .ref (ad 0))] 0 [] := by
  intro X hJ
  unfold jM_debateFault at hJ
  refine sw_aload_n (pc := 0) C 0 dX10_debateFault_0 rfl rfl ?_
  refine sw_iconst (pc := 1) C (v := (0 : Int32)) dX10_debateFault_1 (by decide) ?_
  refine pM_0_11 (pc := 2) C wd_10_11 dX10_debateFault_2 ?_
  refine sw_iconst (pc := 5) C (v := (0 : Int32)) dX10_debateFault_5 (by decide) ?_
  refine sw_istore_n (pc := 6) C dX10_debateFault_6 rfl (by decide) (ll2 := [(1, .int (0 : Int32)), (0, .ref (ad 0))]) rfl ?_
  refine sw_iconst (pc := 7) C (v := (0 : Int32)) dX10_debateFault_7 (by decide) ?_
  refine sw_istore_n (pc := 8) C dX10_debateFault_8 rfl (by decide) (ll2 := [(2, .int (0 : Int32)), (1, .int (0 : Int32)), (0, .ref (ad 0))]) rfl ?_
  exact sw_sub [2, 1, 0] (by rfl) (t_M_debateFault_9 C _ _ _ _ hJ)
set_option maxHeartbeats 4000000 in
set_option maxRecDepth 100000 in
theorem k_M_debateFault {l : Launch} {D : va_G} {cy : Nat → ClassId} {ad : Nat → Nat} {A : Nat → Prop} (hD : ∀ X, va_D A (wM cy ad X)) {X : St}  {r : Int32 × St} (hJ : jM_debateFault X = some r) : Met l yX10_debateFault (wsY yX10_debateFault cX10_debateFault 3 (some .int)) ({ frames := 1, cells := 0, slots := 0, locals := 25 } : Room) (prX D cy (wM cy ad) X [.ref (ad 0)]) (poI D (wM cy ad) A r.1 r.2) 0 0 A := sw_met (by decide +kernel) (Nat.le_of_ble_eq_true rfl) hD (fun p e s m args below meth c C => t_M_debateFault C _ hJ)
set_option maxHeartbeats 4000000 in
set_option maxRecDepth 100000 in
theorem t_M_fault {p : Program} {l : Launch} {e : Env} {s : State} {m : MethodId} {args : Array Value} {below : List Frame} {meth : Method} {c : Code} {D : va_G} {cy : Nat → ClassId} {ad : Nat → Nat} {A : Nat → Prop} (C : Cx p s m args meth c D cy cX10_fault 2 RX10 (some .int) A (wM cy ad)) {r : Int32 × St} : ∀ (X : St) (a1 : Int32), jM_fault X a1 = some r → SW p l e ({ frames := 3, cells := 0, slots := 0, locals := 69 } : Room) s m args below meth c D 2 A (wM cy ad) (MQ below (poI D (wM cy ad) A r.1 r.2) args s 0 0 A) X [(0, .ref (ad 0)), (1, .int a1)] 0 [] := by
  intro X a1 hJ
  unfold jM_fault at hJ
  refine sw_iload_n (pc := 0) C 1 dX10_fault_0 rfl rfl ?_
  refine sw_if_ne (pc := 1) (tgt := 11) C dX10_fault_1 (by decide) (fun hb1 => ?_) (fun hb1 => ?_)
  · replace hJ := iten hb1 hJ
    refine sw_iload_n (pc := 11) C 1 dX10_fault_11 rfl rfl ?_
    refine sw_iconst (pc := 12) C (v := (1 : Int32)) dX10_fault_12 (by decide) ?_
    refine sw_icmp_ne (pc := 13) (tgt := 23) C dX10_fault_13 (by decide) (fun hb13 => ?_) (fun hb13 => ?_)
    · replace hJ := iten hb13 hJ
      refine sw_bipush (pc := 23) C (v := (-102 : Int32)) dX10_fault_23 (by decide) ?_
      obtain rfl := Option.some.inj hJ
      exact sw_iret (pc := 25) C dX10_fault_25
    · replace hJ := itep hb13 hJ
      refine sw_aload_n (pc := 16) C 0 dX10_fault_16 rfl rfl ?_
      obtain ⟨q17, hq17, hJ⟩ := bind_some hJ
      refine sw_callV_i (pc := 17) C (st := []) (As := []) (k_M_debateFault C.2.2.2.2.2.2.1 hq17) pk_X10_debateFault wd_10_7 0 rfl rfl rfl ⟨Nat.le_of_ble_eq_true rfl, Nat.le_of_ble_eq_true rfl⟩ ⟨rfl, rfl⟩ rfl rfl (Nat.le_of_ble_eq_true rfl) dX10_fault_17 ?_
      refine sw_goto (pc := 20) (tgt := 25) C dX10_fault_20 (by decide) ?_
      obtain rfl := Option.some.inj hJ
      exact sw_iret (pc := 25) C dX10_fault_25
  · replace hJ := itep hb1 hJ
    refine sw_aload_n (pc := 4) C 0 dX10_fault_4 rfl rfl ?_
    obtain ⟨q5, hq5, hJ⟩ := bind_some hJ
    refine sw_callV_i (pc := 5) C (st := []) (As := []) (k_M_ruleFault C.2.2.2.2.2.2.1 hq5) pk_X10_ruleFault wd_9_14 0 rfl rfl rfl ⟨Nat.le_of_ble_eq_true rfl, Nat.le_of_ble_eq_true rfl⟩ ⟨rfl, rfl⟩ rfl rfl (Nat.le_of_ble_eq_true rfl) dX10_fault_5 ?_
    refine sw_goto (pc := 8) (tgt := 25) C dX10_fault_8 (by decide) ?_
    obtain rfl := Option.some.inj hJ
    exact sw_iret (pc := 25) C dX10_fault_25
set_option maxHeartbeats 4000000 in
set_option maxRecDepth 100000 in
theorem k_M_fault {l : Launch} {D : va_G} {cy : Nat → ClassId} {ad : Nat → Nat} {A : Nat → Prop} (hD : ∀ X, va_D A (wM cy ad X)) {X : St} {a1 : Int32} {r : Int32 × St} (hJ : jM_fault X a1 = some r) : Met l yX10_fault (wsY yX10_fault cX10_fault 2 (some .int)) ({ frames := 3, cells := 0, slots := 0, locals := 69 } : Room) (prX D cy (wM cy ad) X [.ref (ad 0), .int a1]) (poI D (wM cy ad) A r.1 r.2) 0 0 A := sw_met (by decide +kernel) (Nat.le_of_ble_eq_true rfl) hD (fun p e s m args below meth c C => t_M_fault C _ _ hJ)
set_option maxHeartbeats 4000000 in
set_option maxRecDepth 100000 in
theorem t_M_rule_32 {p : Program} {l : Launch} {e : Env} {s : State} {m : MethodId} {args : Array Value} {below : List Frame} {meth : Method} {c : Code} {D : va_G} {cy : Nat → ClassId} {ad : Nat → Nat} {A : Nat → Prop} (C : Cx p s m args meth c D cy cX10_rule 2 RX10 (some .int) A (wM cy ad)) {r : Int32 × St} : ∀ (n : Nat) (X : St) (v1 : Int32), jM_rule_32 n X v1 = some r → SW p l e ({ frames := 3, cells := 0, slots := 0, locals := 69 } : Room) s m args below meth c D 2 A (wM cy ad) (MQ below (poI D (wM cy ad) A r.1 r.2) args s 0 0 A) X [(0, .ref (ad 0)), (1, .int v1)] 32 [] := by
  intro n
  induction n with
  | zero => intro X v1 hJ; exact absurd (show (none : Option (Int32 × St)) = some r from hJ) (fun h => by cases h)
  | succ n ih =>
    intro X v1 hJ
    rw [jM_rule_32] at hJ
    refine sw_iload_n (pc := 32) C 1 dX10_rule_32 rfl rfl ?_
    refine sw_bipush (pc := 33) C (v := (7 : Int32)) dX10_rule_33 (by decide) ?_
    refine sw_icmp_ge (pc := 35) (tgt := 56) C dX10_rule_35 (by decide) (fun hb35 => ?_) (fun hb35 => ?_)
    · replace hJ := itep hb35 hJ
      refine sw_aload_n (pc := 56) C 0 dX10_rule_56 rfl rfl ?_
      refine sw_aload_n (pc := 57) C 0 dX10_rule_57 rfl rfl ?_
      refine gM_0_6 (pc := 58) C wd_9_18 dX10_rule_58 ?_
      refine pM_0_3 (pc := 61) C wd_12_7 dX10_rule_61 ?_
      refine sw_aload_n (pc := 64) C 0 dX10_rule_64 rfl rfl ?_
      refine sw_aload_n (pc := 65) C 0 dX10_rule_65 rfl rfl ?_
      refine gM_0_7 (pc := 66) C wd_9_19 dX10_rule_66 ?_
      refine pM_0_4 (pc := 69) C wd_5_7 dX10_rule_69 ?_
      refine sw_aload_n (pc := 72) C 0 dX10_rule_72 rfl rfl ?_
      refine sw_iconst (pc := 73) C (v := (0 : Int32)) dX10_rule_73 (by decide) ?_
      refine pM_0_1 (pc := 74) C wd_6_12 dX10_rule_74 ?_
      refine sw_aload_n (pc := 77) C 0 dX10_rule_77 rfl rfl ?_
      refine gM_0_3 (pc := 78) C wd_12_7 dX10_rule_78 ?_
      obtain rfl := Option.some.inj hJ
      exact sw_iret (pc := 81) C dX10_rule_81
    · replace hJ := iten hb35 hJ
      refine sw_aload_n (pc := 38) C 0 dX10_rule_38 rfl rfl ?_
      refine gM_0_2 (pc := 39) C wd_4_12 dX10_rule_39 ?_
      refine sw_iload_n (pc := 42) C 1 dX10_rule_42 rfl rfl ?_
      refine sw_aload_n (pc := 43) C 0 dX10_rule_43 rfl rfl ?_
      refine gM_0_5 (pc := 44) C wd_4_13 dX10_rule_44 ?_
      refine sw_iload_n (pc := 47) C 1 dX10_rule_47 rfl rfl ?_
      obtain ⟨hi48, hJ⟩ := gd hJ
      refine lM_3 (pc := 48) C hi48 dX10_rule_48 ?_
      obtain ⟨hi49, hJ⟩ := gd hJ
      refine tM_2 (pc := 49) C hi49 dX10_rule_49 ?_
      refine sw_iinc (pc := 50) C 1 dX10_rule_50 rfl (v := (v1 + (1 : Int32))) (congrArg (fun z => v1 + z) (by decide)) (by decide) (ll2 := [(1, .int (v1 + (1 : Int32))), (0, .ref (ad 0))]) rfl ?_
      refine sw_goto (pc := 53) (tgt := 32) C dX10_rule_53 (by decide) ?_
      exact sw_sub [1, 0] (by rfl) (ih _ _ hJ)
set_option maxHeartbeats 4000000 in
set_option maxRecDepth 100000 in
theorem t_M_rule_30 {p : Program} {l : Launch} {e : Env} {s : State} {m : MethodId} {args : Array Value} {below : List Frame} {meth : Method} {c : Code} {D : va_G} {cy : Nat → ClassId} {ad : Nat → Nat} {A : Nat → Prop} (C : Cx p s m args meth c D cy cX10_rule 2 RX10 (some .int) A (wM cy ad)) {r : Int32 × St} : ∀ (X : St), jM_rule_30 X = some r → SW p l e ({ frames := 3, cells := 0, slots := 0, locals := 69 } : Room) s m args below meth c D 2 A (wM cy ad) (MQ below (poI D (wM cy ad) A r.1 r.2) args s 0 0 A) X [(0, .ref (ad 0))] 30 [] := by
  intro X hJ
  unfold jM_rule_30 at hJ
  refine sw_iconst (pc := 30) C (v := (0 : Int32)) dX10_rule_30 (by decide) ?_
  refine sw_istore_n (pc := 31) C dX10_rule_31 rfl (by decide) (ll2 := [(1, .int (0 : Int32)), (0, .ref (ad 0))]) rfl ?_
  exact sw_sub [1, 0] (by rfl) (t_M_rule_32 C _ _ _ hJ)
set_option maxHeartbeats 4000000 in
set_option maxRecDepth 100000 in
theorem t_M_rule {p : Program} {l : Launch} {e : Env} {s : State} {m : MethodId} {args : Array Value} {below : List Frame} {meth : Method} {c : Code} {D : va_G} {cy : Nat → ClassId} {ad : Nat → Nat} {A : Nat → Prop} (C : Cx p s m args meth c D cy cX10_rule 2 RX10 (some .int) A (wM cy ad)) {r : Int32 × St} : ∀ (X : St), jM_rule X = some r → SW p l e ({ frames := 3, cells := 0, slots := 0, locals := 69 } : Room) s m args below meth c D 2 A (wM cy ad) (MQ below (poI D (wM cy ad) A r.1 r.2) args s 0 0 A) X [(0, .ref (ad 0))] 0 [] := by
  intro X hJ
  unfold jM_rule at hJ
  refine sw_aload_n (pc := 0) C 0 dX10_rule_0 rfl rfl ?_
  obtain ⟨q1, hq1, hJ⟩ := bind_some hJ
  refine sw_callV_i (pc := 1) C (st := []) (As := []) (k_M_ruleFault C.2.2.2.2.2.2.1 hq1) pk_X10_ruleFault wd_9_14 0 rfl rfl rfl ⟨Nat.le_of_ble_eq_true rfl, Nat.le_of_ble_eq_true rfl⟩ ⟨rfl, rfl⟩ rfl rfl (Nat.le_of_ble_eq_true rfl) dX10_rule_1 ?_
  refine sw_aload_n (pc := 4) C 0 dX10_rule_4 rfl rfl ?_
  refine gM_0_1 (pc := 5) C wd_6_12 dX10_rule_5 ?_
  refine sw_icmp_lt (pc := 8) (tgt := 27) C dX10_rule_8 (by decide) (fun hb8 => ?_) (fun hb8 => ?_)
  · replace hJ := itep hb8 hJ
    refine sw_bipush (pc := 27) C (v := (-103 : Int32)) dX10_rule_27 (by decide) ?_
    obtain rfl := Option.some.inj hJ
    exact sw_iret (pc := 29) C dX10_rule_29
  · replace hJ := iten hb8 hJ
    refine sw_aload_n (pc := 11) C 0 dX10_rule_11 rfl rfl ?_
    refine gM_0_9 (pc := 12) C wd_9_20 dX10_rule_12 ?_
    refine sw_iconst (pc := 15) C (v := (2 : Int32)) dX10_rule_15 (by decide) ?_
    refine sw_icmp_eq (pc := 16) (tgt := 30) C dX10_rule_16 (by decide) (fun hb16 => ?_) (fun hb16 => ?_)
    · replace hJ := itep hb16 hJ
      exact sw_sub [0] (by rfl) (t_M_rule_30 C _ hJ)
    · replace hJ := iten hb16 hJ
      refine sw_aload_n (pc := 19) C 0 dX10_rule_19 rfl rfl ?_
      refine gM_0_9 (pc := 20) C wd_9_20 dX10_rule_20 ?_
      refine sw_iconst (pc := 23) C (v := (4 : Int32)) dX10_rule_23 (by decide) ?_
      refine sw_icmp_eq (pc := 24) (tgt := 30) C dX10_rule_24 (by decide) (fun hb24 => ?_) (fun hb24 => ?_)
      · replace hJ := itep hb24 hJ
        exact sw_sub [0] (by rfl) (t_M_rule_30 C _ hJ)
      · replace hJ := iten hb24 hJ
        refine sw_bipush (pc := 27) C (v := (-103 : Int32)) dX10_rule_27 (by decide) ?_
        obtain rfl := Option.some.inj hJ
        exact sw_iret (pc := 29) C dX10_rule_29
set_option maxHeartbeats 4000000 in
set_option maxRecDepth 100000 in
theorem k_M_rule {l : Launch} {D : va_G} {cy : Nat → ClassId} {ad : Nat → Nat} {A : Nat → Prop} (hD : ∀ X, va_D A (wM cy ad X)) {X : St}  {r : Int32 × St} (hJ : jM_rule X = some r) : Met l yX10_rule (wsY yX10_rule cX10_rule 2 (some .int)) ({ frames := 3, cells := 0, slots := 0, locals := 69 } : Room) (prX D cy (wM cy ad) X [.ref (ad 0)]) (poI D (wM cy ad) A r.1 r.2) 0 0 A := sw_met (by decide +kernel) (Nat.le_of_ble_eq_true rfl) hD (fun p e s m args below meth c C => t_M_rule C _ hJ)
set_option maxHeartbeats 4000000 in
set_option maxRecDepth 100000 in
theorem t_M_replies {p : Program} {l : Launch} {e : Env} {s : State} {m : MethodId} {args : Array Value} {below : List Frame} {meth : Method} {c : Code} {D : va_G} {cy : Nat → ClassId} {ad : Nat → Nat} {A : Nat → Prop} (C : Cx p s m args meth c D cy cX10_replies 3 RX10 (some .int) A (wM cy ad)) {X : St} {r : Int32} : ∀ (a1 : Int32) (a2 : Int32), jM_replies X a1 a2 = some r → SW p l e ({ frames := 1, cells := 0, slots := 0, locals := 25 } : Room) s m args below meth c D 3 A (wM cy ad) (MQ below (poI D (wM cy ad) A r X) args s 0 0 A) X [(0, .ref (ad 0)), (1, .int a1), (2, .int a2)] 0 [] := by
  intro a1 a2 hJ
  unfold jM_replies at hJ
  refine sw_iload_n (pc := 0) C 1 dX10_replies_0 rfl rfl ?_
  refine sw_i2l (pc := 1) C dX10_replies_1 ?_
  refine sw_lconst (pc := 2) C (v := (0 : Int64)) dX10_replies_2 (by decide) ?_
  refine sw_ldc2 (pc := 3) C (v := (6 : Int64)) wd_10_2 dX10_replies_3 ?_
  obtain ⟨q6, hq6, hJ⟩ := bind_some hJ
  refine sw_callS_i (pc := 6) C (st := []) (As := [.long a1.toInt64, .long (0 : Int64), .long (6 : Int64)]) (k_M_in C.2.2.2.2.2.2.1 hq6) pk_X10_in wd_10_4 ⟨Nat.le_of_ble_eq_true rfl, Nat.le_of_ble_eq_true rfl⟩ ⟨rfl, rfl⟩ rfl rfl (Nat.le_of_ble_eq_true rfl) dX10_replies_6 ?_
  refine sw_if_eq (pc := 9) (tgt := 37) C dX10_replies_9 (by decide) (fun hb9 => ?_) (fun hb9 => ?_)
  · replace hJ := itep hb9 hJ
    refine sw_bipush (pc := 37) C (v := (-101 : Int32)) dX10_replies_37 (by decide) ?_
    obtain rfl := Option.some.inj hJ
    exact sw_iret (pc := 39) C dX10_replies_39
  · replace hJ := iten hb9 hJ
    refine sw_iload_n (pc := 12) C 2 dX10_replies_12 rfl rfl ?_
    refine sw_i2l (pc := 13) C dX10_replies_13 ?_
    refine sw_lconst (pc := 14) C (v := (0 : Int64)) dX10_replies_14 (by decide) ?_
    refine sw_ldc2 (pc := 15) C (v := (6 : Int64)) wd_10_2 dX10_replies_15 ?_
    obtain ⟨q18, hq18, hJ⟩ := bind_some hJ
    refine sw_callS_i (pc := 18) C (st := []) (As := [.long a2.toInt64, .long (0 : Int64), .long (6 : Int64)]) (k_M_in C.2.2.2.2.2.2.1 hq18) pk_X10_in wd_10_4 ⟨Nat.le_of_ble_eq_true rfl, Nat.le_of_ble_eq_true rfl⟩ ⟨rfl, rfl⟩ rfl rfl (Nat.le_of_ble_eq_true rfl) dX10_replies_18 ?_
    refine sw_if_eq (pc := 21) (tgt := 37) C dX10_replies_21 (by decide) (fun hb21 => ?_) (fun hb21 => ?_)
    · replace hJ := itep hb21 hJ
      refine sw_bipush (pc := 37) C (v := (-101 : Int32)) dX10_replies_37 (by decide) ?_
      obtain rfl := Option.some.inj hJ
      exact sw_iret (pc := 39) C dX10_replies_39
    · replace hJ := iten hb21 hJ
      refine sw_aload_n (pc := 24) C 0 dX10_replies_24 rfl rfl ?_
      refine gM_0_2 (pc := 25) C wd_4_12 dX10_replies_25 ?_
      refine sw_iload_n (pc := 28) C 1 dX10_replies_28 rfl rfl ?_
      obtain ⟨hi29, hJ⟩ := gd hJ
      refine lM_2 (pc := 29) C hi29 dX10_replies_29 ?_
      refine sw_iload_n (pc := 30) C 2 dX10_replies_30 rfl rfl ?_
      refine sw_ishr (pc := 31) C dX10_replies_31 ?_
      refine sw_iconst (pc := 32) C (v := (1 : Int32)) dX10_replies_32 (by decide) ?_
      refine sw_iand (pc := 33) C dX10_replies_33 ?_
      refine sw_goto (pc := 34) (tgt := 39) C dX10_replies_34 (by decide) ?_
      obtain rfl := Option.some.inj hJ
      exact sw_iret (pc := 39) C dX10_replies_39
set_option maxHeartbeats 4000000 in
set_option maxRecDepth 100000 in
theorem k_M_replies {l : Launch} {D : va_G} {cy : Nat → ClassId} {ad : Nat → Nat} {A : Nat → Prop} (hD : ∀ X, va_D A (wM cy ad X)) {X : St} {a1 : Int32} {a2 : Int32} {r : Int32} (hJ : jM_replies X a1 a2 = some r) : Met l yX10_replies (wsY yX10_replies cX10_replies 3 (some .int)) ({ frames := 1, cells := 0, slots := 0, locals := 25 } : Room) (prX D cy (wM cy ad) X [.ref (ad 0), .int a1, .int a2]) (poI D (wM cy ad) A r X) 0 0 A := sw_met (by decide +kernel) (Nat.le_of_ble_eq_true rfl) hD (fun p e s m args below meth c C => t_M_replies C _ _ hJ)
set_option maxHeartbeats 4000000 in
set_option maxRecDepth 100000 in
theorem t_M_isMember {p : Program} {l : Launch} {e : Env} {s : State} {m : MethodId} {args : Array Value} {below : List Frame} {meth : Method} {c : Code} {D : va_G} {cy : Nat → ClassId} {ad : Nat → Nat} {A : Nat → Prop} (C : Cx p s m args meth c D cy cX10_isMember 2 RX10 (some .boolean) A (wM cy ad)) {X : St} {r : Int32} : ∀ (a1 : Int32), jM_isMember X a1 = some r → SW p l e ({ frames := 1, cells := 0, slots := 0, locals := 25 } : Room) s m args below meth c D 2 A (wM cy ad) (MQ below (poI D (wM cy ad) A r X) args s 0 0 A) X [(0, .ref (ad 0)), (1, .int a1)] 0 [] := by
  intro a1 hJ
  unfold jM_isMember at hJ
  refine sw_iload_n (pc := 0) C 1 dX10_isMember_0 rfl rfl ?_
  refine sw_i2l (pc := 1) C dX10_isMember_1 ?_
  refine sw_lconst (pc := 2) C (v := (0 : Int64)) dX10_isMember_2 (by decide) ?_
  refine sw_aload_n (pc := 3) C 0 dX10_isMember_3 rfl rfl ?_
  refine gM_0_12 (pc := 4) C wd_14_18 dX10_isMember_4 ?_
  refine sw_iconst (pc := 7) C (v := (1 : Int32)) dX10_isMember_7 (by decide) ?_
  refine sw_isub (pc := 8) C dX10_isMember_8 ?_
  refine sw_i2l (pc := 9) C dX10_isMember_9 ?_
  obtain ⟨q10, hq10, hJ⟩ := bind_some hJ
  refine sw_callS_i (pc := 10) C (st := []) (As := [.long a1.toInt64, .long (0 : Int64), .long ((sF X 12) - (1 : Int32)).toInt64]) (k_M_in C.2.2.2.2.2.2.1 hq10) pk_X10_in wd_10_4 ⟨Nat.le_of_ble_eq_true rfl, Nat.le_of_ble_eq_true rfl⟩ ⟨rfl, rfl⟩ rfl rfl (Nat.le_of_ble_eq_true rfl) dX10_isMember_10 ?_
  obtain ⟨hz13, hJ⟩ := gd hJ
  obtain rfl := Option.some.inj hJ
  exact sw_zret (pc := 13) (v := q10) C hz13 dX10_isMember_13
set_option maxHeartbeats 4000000 in
set_option maxRecDepth 100000 in
theorem k_M_isMember {l : Launch} {D : va_G} {cy : Nat → ClassId} {ad : Nat → Nat} {A : Nat → Prop} (hD : ∀ X, va_D A (wM cy ad X)) {X : St} {a1 : Int32} {r : Int32} (hJ : jM_isMember X a1 = some r) : Met l yX10_isMember (wsY yX10_isMember cX10_isMember 2 (some .boolean)) ({ frames := 1, cells := 0, slots := 0, locals := 25 } : Room) (prX D cy (wM cy ad) X [.ref (ad 0), .int a1]) (poI D (wM cy ad) A r X) 0 0 A := sw_met (by decide +kernel) (Nat.le_of_ble_eq_true rfl) hD (fun p e s m args below meth c C => t_M_isMember C _ hJ)
set_option maxHeartbeats 4000000 in
set_option maxRecDepth 100000 in
theorem t_M_member {p : Program} {l : Launch} {e : Env} {s : State} {m : MethodId} {args : Array Value} {below : List Frame} {meth : Method} {c : Code} {D : va_G} {cy : Nat → ClassId} {ad : Nat → Nat} {A : Nat → Prop} (C : Cx p s m args meth c D cy cX10_member 7 RX10 (some .int) A (wM cy ad)) {r : Int32 × St} : ∀ (X : St) (a1 : Int32) (a2 : Int32) (a3 : Int32) (a4 : Int32) (a5 : Int32), jM_member X a1 a2 a3 a4 a5 = some r → SW p l e ({ frames := 1, cells := 0, slots := 0, locals := 25 } : Room) s m args below meth c D 7 A (wM cy ad) (MQ below (poI D (wM cy ad) A r.1 r.2) args s 0 0 A) X [(0, .ref (ad 0)), (1, .int a1), (2, .int a2), (3, .int a3), (4, .int a4), (5, .int a5)] 0 [] := by
  intro X a1 a2 a3 a4 a5 hJ
  unfold jM_member at hJ
  refine sw_iload_n (pc := 0) C 1 dX10_member_0 rfl rfl ?_
  refine sw_i2l (pc := 1) C dX10_member_1 ?_
  refine sw_lconst (pc := 2) C (v := (0 : Int64)) dX10_member_2 (by decide) ?_
  refine sw_ldc2 (pc := 3) C (v := (4 : Int64)) wd_14_13 dX10_member_3 ?_
  obtain ⟨q6, hq6, hJ⟩ := bind_some hJ
  refine sw_callS_i (pc := 6) C (st := []) (As := [.long a1.toInt64, .long (0 : Int64), .long (4 : Int64)]) (k_M_in C.2.2.2.2.2.2.1 hq6) pk_X10_in wd_10_4 ⟨Nat.le_of_ble_eq_true rfl, Nat.le_of_ble_eq_true rfl⟩ ⟨rfl, rfl⟩ rfl rfl (Nat.le_of_ble_eq_true rfl) dX10_member_6 ?_
  refine sw_if_eq (pc := 9) (tgt := 64) C dX10_member_9 (by decide) (fun hb9 => ?_) (fun hb9 => ?_)
  · replace hJ := itep hb9 hJ
    refine sw_bipush (pc := 64) C (v := (-102 : Int32)) dX10_member_64 (by decide) ?_
    obtain rfl := Option.some.inj hJ
    exact sw_iret (pc := 66) C dX10_member_66
  · replace hJ := iten hb9 hJ
    refine sw_iload_n (pc := 12) C 2 dX10_member_12 rfl rfl ?_
    refine sw_i2l (pc := 13) C dX10_member_13 ?_
    refine sw_lconst (pc := 14) C (v := (1 : Int64)) dX10_member_14 (by decide) ?_
    refine sw_ldc2 (pc := 15) C (v := (9 : Int64)) wd_10_3 dX10_member_15 ?_
    obtain ⟨q18, hq18, hJ⟩ := bind_some hJ
    refine sw_callS_i (pc := 18) C (st := []) (As := [.long a2.toInt64, .long (1 : Int64), .long (9 : Int64)]) (k_M_in C.2.2.2.2.2.2.1 hq18) pk_X10_in wd_10_4 ⟨Nat.le_of_ble_eq_true rfl, Nat.le_of_ble_eq_true rfl⟩ ⟨rfl, rfl⟩ rfl rfl (Nat.le_of_ble_eq_true rfl) dX10_member_18 ?_
    refine sw_if_eq (pc := 21) (tgt := 64) C dX10_member_21 (by decide) (fun hb21 => ?_) (fun hb21 => ?_)
    · replace hJ := itep hb21 hJ
      refine sw_bipush (pc := 64) C (v := (-102 : Int32)) dX10_member_64 (by decide) ?_
      obtain rfl := Option.some.inj hJ
      exact sw_iret (pc := 66) C dX10_member_66
    · replace hJ := iten hb21 hJ
      refine sw_iload_n (pc := 24) C 3 dX10_member_24 rfl rfl ?_
      refine sw_i2l (pc := 25) C dX10_member_25 ?_
      refine sw_ldc2 (pc := 26) C (v := (-3 : Int64)) wd_14_14 dX10_member_26 ?_
      refine sw_ldc2 (pc := 29) C (v := (3 : Int64)) wd_14_15 dX10_member_29 ?_
      obtain ⟨q32, hq32, hJ⟩ := bind_some hJ
      refine sw_callS_i (pc := 32) C (st := []) (As := [.long a3.toInt64, .long (-3 : Int64), .long (3 : Int64)]) (k_M_in C.2.2.2.2.2.2.1 hq32) pk_X10_in wd_10_4 ⟨Nat.le_of_ble_eq_true rfl, Nat.le_of_ble_eq_true rfl⟩ ⟨rfl, rfl⟩ rfl rfl (Nat.le_of_ble_eq_true rfl) dX10_member_32 ?_
      refine sw_if_eq (pc := 35) (tgt := 64) C dX10_member_35 (by decide) (fun hb35 => ?_) (fun hb35 => ?_)
      · replace hJ := itep hb35 hJ
        refine sw_bipush (pc := 64) C (v := (-102 : Int32)) dX10_member_64 (by decide) ?_
        obtain rfl := Option.some.inj hJ
        exact sw_iret (pc := 66) C dX10_member_66
      · replace hJ := iten hb35 hJ
        refine sw_iload (pc := 38) C 4 dX10_member_38 rfl ?_
        refine sw_i2l (pc := 40) C dX10_member_40 ?_
        refine sw_lconst (pc := 41) C (v := (0 : Int64)) dX10_member_41 (by decide) ?_
        refine sw_ldc2 (pc := 42) C (v := (2 : Int64)) wd_14_16 dX10_member_42 ?_
        obtain ⟨q45, hq45, hJ⟩ := bind_some hJ
        refine sw_callS_i (pc := 45) C (st := []) (As := [.long a4.toInt64, .long (0 : Int64), .long (2 : Int64)]) (k_M_in C.2.2.2.2.2.2.1 hq45) pk_X10_in wd_10_4 ⟨Nat.le_of_ble_eq_true rfl, Nat.le_of_ble_eq_true rfl⟩ ⟨rfl, rfl⟩ rfl rfl (Nat.le_of_ble_eq_true rfl) dX10_member_45 ?_
        refine sw_if_eq (pc := 48) (tgt := 64) C dX10_member_48 (by decide) (fun hb48 => ?_) (fun hb48 => ?_)
        · replace hJ := itep hb48 hJ
          refine sw_bipush (pc := 64) C (v := (-102 : Int32)) dX10_member_64 (by decide) ?_
          obtain rfl := Option.some.inj hJ
          exact sw_iret (pc := 66) C dX10_member_66
        · replace hJ := iten hb48 hJ
          refine sw_iload (pc := 51) C 5 dX10_member_51 rfl ?_
          refine sw_i2l (pc := 53) C dX10_member_53 ?_
          refine sw_lconst (pc := 54) C (v := (0 : Int64)) dX10_member_54 (by decide) ?_
          refine sw_ldc2 (pc := 55) C (v := (99 : Int64)) wd_14_17 dX10_member_55 ?_
          obtain ⟨q58, hq58, hJ⟩ := bind_some hJ
          refine sw_callS_i (pc := 58) C (st := []) (As := [.long a5.toInt64, .long (0 : Int64), .long (99 : Int64)]) (k_M_in C.2.2.2.2.2.2.1 hq58) pk_X10_in wd_10_4 ⟨Nat.le_of_ble_eq_true rfl, Nat.le_of_ble_eq_true rfl⟩ ⟨rfl, rfl⟩ rfl rfl (Nat.le_of_ble_eq_true rfl) dX10_member_58 ?_
          refine sw_if_ne (pc := 61) (tgt := 67) C dX10_member_61 (by decide) (fun hb61 => ?_) (fun hb61 => ?_)
          · replace hJ := iten hb61 hJ
            refine sw_aload_n (pc := 67) C 0 dX10_member_67 rfl rfl ?_
            refine gM_0_12 (pc := 68) C wd_14_18 dX10_member_68 ?_
            refine sw_bipush (pc := 71) C (v := (7 : Int32)) dX10_member_71 (by decide) ?_
            refine sw_icmp_ne (pc := 73) (tgt := 79) C dX10_member_73 (by decide) (fun hb73 => ?_) (fun hb73 => ?_)
            · replace hJ := iten hb73 hJ
              refine sw_bipush (pc := 79) C (v := (8 : Int32)) dX10_member_79 (by decide) ?_
              refine sw_aload_n (pc := 81) C 0 dX10_member_81 rfl rfl ?_
              refine gM_0_12 (pc := 82) C wd_14_18 dX10_member_82 ?_
              refine sw_imul (pc := 85) C dX10_member_85 ?_
              refine sw_istore (pc := 86) C dX10_member_86 (by decide) (ll2 := [(6, .int ((8 : Int32) * (sF X 12))), (0, .ref (ad 0)), (1, .int a1), (2, .int a2), (3, .int a3), (4, .int a4), (5, .int a5)]) rfl ?_
              refine sw_aload_n (pc := 88) C 1 dX10_member_88 rfl rfl ?_
              refine gM_0_13 (pc := 89) C wd_4_15 dX10_member_89 ?_
              refine sw_iload (pc := 92) C 0 dX10_member_92 rfl ?_
              refine sw_iload_n (pc := 94) C 2 dX10_member_94 rfl rfl ?_
              obtain ⟨hi95, hJ⟩ := gd hJ
              refine tM_5 (pc := 95) C hi95 dX10_member_95 ?_
              refine sw_aload_n (pc := 96) C 1 dX10_member_96 rfl rfl ?_
              refine gM_0_13 (pc := 97) C wd_4_15 dX10_member_97 ?_
              refine sw_iload (pc := 100) C 0 dX10_member_100 rfl ?_
              refine sw_iconst (pc := 102) C (v := (1 : Int32)) dX10_member_102 (by decide) ?_
              refine sw_iadd (pc := 103) C dX10_member_103 ?_
              refine sw_iload_n (pc := 104) C 3 dX10_member_104 rfl rfl ?_
              obtain ⟨hi105, hJ⟩ := gd hJ
              refine tM_5 (pc := 105) C hi105 dX10_member_105 ?_
              refine sw_aload_n (pc := 106) C 1 dX10_member_106 rfl rfl ?_
              refine gM_0_13 (pc := 107) C wd_4_15 dX10_member_107 ?_
              refine sw_iload (pc := 110) C 0 dX10_member_110 rfl ?_
              refine sw_iconst (pc := 112) C (v := (2 : Int32)) dX10_member_112 (by decide) ?_
              refine sw_iadd (pc := 113) C dX10_member_113 ?_
              refine sw_iload_n (pc := 114) C 4 dX10_member_114 rfl rfl ?_
              obtain ⟨hi115, hJ⟩ := gd hJ
              refine tM_5 (pc := 115) C hi115 dX10_member_115 ?_
              refine sw_aload_n (pc := 116) C 1 dX10_member_116 rfl rfl ?_
              refine gM_0_13 (pc := 117) C wd_4_15 dX10_member_117 ?_
              refine sw_iload (pc := 120) C 0 dX10_member_120 rfl ?_
              refine sw_iconst (pc := 122) C (v := (3 : Int32)) dX10_member_122 (by decide) ?_
              refine sw_iadd (pc := 123) C dX10_member_123 ?_
              refine sw_iload (pc := 124) C 5 dX10_member_124 rfl ?_
              obtain ⟨hi126, hJ⟩ := gd hJ
              refine tM_5 (pc := 126) C hi126 dX10_member_126 ?_
              refine sw_aload_n (pc := 127) C 1 dX10_member_127 rfl rfl ?_
              refine gM_0_13 (pc := 128) C wd_4_15 dX10_member_128 ?_
              refine sw_iload (pc := 131) C 0 dX10_member_131 rfl ?_
              refine sw_iconst (pc := 133) C (v := (4 : Int32)) dX10_member_133 (by decide) ?_
              refine sw_iadd (pc := 134) C dX10_member_134 ?_
              refine sw_iload (pc := 135) C 6 dX10_member_135 rfl ?_
              obtain ⟨hi137, hJ⟩ := gd hJ
              refine tM_5 (pc := 137) C hi137 dX10_member_137 ?_
              refine sw_aload_n (pc := 138) C 1 dX10_member_138 rfl rfl ?_
              refine gM_0_13 (pc := 139) C wd_4_15 dX10_member_139 ?_
              refine sw_iload (pc := 142) C 0 dX10_member_142 rfl ?_
              refine sw_iconst (pc := 144) C (v := (5 : Int32)) dX10_member_144 (by decide) ?_
              refine sw_iadd (pc := 145) C dX10_member_145 ?_
              refine sw_iconst (pc := 146) C (v := (0 : Int32)) dX10_member_146 (by decide) ?_
              obtain ⟨hi147, hJ⟩ := gd hJ
              refine tM_5 (pc := 147) C hi147 dX10_member_147 ?_
              refine sw_aload_n (pc := 148) C 1 dX10_member_148 rfl rfl ?_
              refine gM_0_13 (pc := 149) C wd_4_15 dX10_member_149 ?_
              refine sw_iload (pc := 152) C 0 dX10_member_152 rfl ?_
              refine sw_bipush (pc := 154) C (v := (6 : Int32)) dX10_member_154 (by decide) ?_
              refine sw_iadd (pc := 156) C dX10_member_156 ?_
              refine sw_iconst (pc := 157) C (v := (0 : Int32)) dX10_member_157 (by decide) ?_
              obtain ⟨hi158, hJ⟩ := gd hJ
              refine tM_5 (pc := 158) C hi158 dX10_member_158 ?_
              refine sw_aload_n (pc := 159) C 1 dX10_member_159 rfl rfl ?_
              refine gM_0_13 (pc := 160) C wd_4_15 dX10_member_160 ?_
              refine sw_iload (pc := 163) C 0 dX10_member_163 rfl ?_
              refine sw_bipush (pc := 165) C (v := (7 : Int32)) dX10_member_165 (by decide) ?_
              refine sw_iadd (pc := 167) C dX10_member_167 ?_
              refine sw_iconst (pc := 168) C (v := (0 : Int32)) dX10_member_168 (by decide) ?_
              obtain ⟨hi169, hJ⟩ := gd hJ
              refine tM_5 (pc := 169) C hi169 dX10_member_169 ?_
              refine sw_aload_n (pc := 170) C 1 dX10_member_170 rfl rfl ?_
              refine sw_dup (pc := 171) C dX10_member_171 rfl ?_
              refine gM_0_12 (pc := 172) C wd_14_18 dX10_member_172 ?_
              refine sw_iconst (pc := 175) C (v := (1 : Int32)) dX10_member_175 (by decide) ?_
              refine sw_iadd (pc := 176) C dX10_member_176 ?_
              refine pM_0_12 (pc := 177) C wd_14_18 dX10_member_177 ?_
              refine sw_aload_n (pc := 180) C 1 dX10_member_180 rfl rfl ?_
              refine gM_0_12 (pc := 181) C wd_14_18 dX10_member_181 ?_
              refine sw_iconst (pc := 184) C (v := (1 : Int32)) dX10_member_184 (by decide) ?_
              refine sw_isub (pc := 185) C dX10_member_185 ?_
              obtain rfl := Option.some.inj hJ
              exact sw_iret (pc := 186) C dX10_member_186
            · replace hJ := itep hb73 hJ
              refine sw_bipush (pc := 76) C (v := (-104 : Int32)) dX10_member_76 (by decide) ?_
              obtain rfl := Option.some.inj hJ
              exact sw_iret (pc := 78) C dX10_member_78
          · replace hJ := itep hb61 hJ
            refine sw_bipush (pc := 64) C (v := (-102 : Int32)) dX10_member_64 (by decide) ?_
            obtain rfl := Option.some.inj hJ
            exact sw_iret (pc := 66) C dX10_member_66
set_option maxHeartbeats 4000000 in
set_option maxRecDepth 100000 in
theorem k_M_member {l : Launch} {D : va_G} {cy : Nat → ClassId} {ad : Nat → Nat} {A : Nat → Prop} (hD : ∀ X, va_D A (wM cy ad X)) {X : St} {a1 : Int32} {a2 : Int32} {a3 : Int32} {a4 : Int32} {a5 : Int32} {r : Int32 × St} (hJ : jM_member X a1 a2 a3 a4 a5 = some r) : Met l yX10_member (wsY yX10_member cX10_member 7 (some .int)) ({ frames := 1, cells := 0, slots := 0, locals := 25 } : Room) (prX D cy (wM cy ad) X [.ref (ad 0), .int a1, .int a2, .int a3, .int a4, .int a5]) (poI D (wM cy ad) A r.1 r.2) 0 0 A := sw_met (by decide +kernel) (Nat.le_of_ble_eq_true rfl) hD (fun p e s m args below meth c C => t_M_member C _ _ _ _ _ _ hJ)
set_option maxHeartbeats 4000000 in
set_option maxRecDepth 100000 in
theorem t_M_speech {p : Program} {l : Launch} {e : Env} {s : State} {m : MethodId} {args : Array Value} {below : List Frame} {meth : Method} {c : Code} {D : va_G} {cy : Nat → ClassId} {ad : Nat → Nat} {A : Nat → Prop} (C : Cx p s m args meth c D cy cX10_speech 5 RX10 (some .int) A (wM cy ad)) {r : Int32 × St} : ∀ (X : St) (a1 : Int32) (a2 : Int32) (a3 : Int32), jM_speech X a1 a2 a3 = some r → SW p l e ({ frames := 2, cells := 0, slots := 0, locals := 46 } : Room) s m args below meth c D 5 A (wM cy ad) (MQ below (poI D (wM cy ad) A r.1 r.2) args s 0 0 A) X [(0, .ref (ad 0)), (1, .int a1), (2, .int a2), (3, .int a3)] 0 [] := by
  intro X a1 a2 a3 hJ
  unfold jM_speech at hJ
  refine sw_aload_n (pc := 0) C 0 dX10_speech_0 rfl rfl ?_
  refine sw_iload_n (pc := 1) C 1 dX10_speech_1 rfl rfl ?_
  obtain ⟨q2, hq2, hJ⟩ := bind_some hJ
  refine sw_callV_i (pc := 2) C (st := []) (As := [.int a1]) (k_M_isMember C.2.2.2.2.2.2.1 hq2) pk_X10_isMember wd_15_8 0 rfl rfl rfl ⟨Nat.le_of_ble_eq_true rfl, Nat.le_of_ble_eq_true rfl⟩ ⟨rfl, rfl⟩ rfl rfl (Nat.le_of_ble_eq_true rfl) dX10_speech_2 ?_
  refine sw_if_ne (pc := 5) (tgt := 11) C dX10_speech_5 (by decide) (fun hb5 => ?_) (fun hb5 => ?_)
  · replace hJ := iten hb5 hJ
    refine sw_iload_n (pc := 11) C 2 dX10_speech_11 rfl rfl ?_
    refine sw_i2l (pc := 12) C dX10_speech_12 ?_
    refine sw_lconst (pc := 13) C (v := (0 : Int64)) dX10_speech_13 (by decide) ?_
    refine sw_ldc2 (pc := 14) C (v := (4 : Int64)) wd_14_13 dX10_speech_14 ?_
    obtain ⟨q17, hq17, hJ⟩ := bind_some hJ
    refine sw_callS_i (pc := 17) C (st := []) (As := [.long a2.toInt64, .long (0 : Int64), .long (4 : Int64)]) (k_M_in C.2.2.2.2.2.2.1 hq17) pk_X10_in wd_10_4 ⟨Nat.le_of_ble_eq_true rfl, Nat.le_of_ble_eq_true rfl⟩ ⟨rfl, rfl⟩ rfl rfl (Nat.le_of_ble_eq_true rfl) dX10_speech_17 ?_
    refine sw_if_eq (pc := 20) (tgt := 35) C dX10_speech_20 (by decide) (fun hb20 => ?_) (fun hb20 => ?_)
    · replace hJ := itep hb20 hJ
      refine sw_bipush (pc := 35) C (v := (-102 : Int32)) dX10_speech_35 (by decide) ?_
      obtain rfl := Option.some.inj hJ
      exact sw_iret (pc := 37) C dX10_speech_37
    · replace hJ := iten hb20 hJ
      refine sw_iload_n (pc := 23) C 3 dX10_speech_23 rfl rfl ?_
      refine sw_i2l (pc := 24) C dX10_speech_24 ?_
      refine sw_lconst (pc := 25) C (v := (0 : Int64)) dX10_speech_25 (by decide) ?_
      refine sw_ldc2 (pc := 26) C (v := (9 : Int64)) wd_10_3 dX10_speech_26 ?_
      obtain ⟨q29, hq29, hJ⟩ := bind_some hJ
      refine sw_callS_i (pc := 29) C (st := []) (As := [.long a3.toInt64, .long (0 : Int64), .long (9 : Int64)]) (k_M_in C.2.2.2.2.2.2.1 hq29) pk_X10_in wd_10_4 ⟨Nat.le_of_ble_eq_true rfl, Nat.le_of_ble_eq_true rfl⟩ ⟨rfl, rfl⟩ rfl rfl (Nat.le_of_ble_eq_true rfl) dX10_speech_29 ?_
      refine sw_if_ne (pc := 32) (tgt := 38) C dX10_speech_32 (by decide) (fun hb32 => ?_) (fun hb32 => ?_)
      · replace hJ := iten hb32 hJ
        refine sw_aload_n (pc := 38) C 0 dX10_speech_38 rfl rfl ?_
        refine gM_0_13 (pc := 39) C wd_4_15 dX10_speech_39 ?_
        refine sw_bipush (pc := 42) C (v := (8 : Int32)) dX10_speech_42 (by decide) ?_
        refine sw_iload_n (pc := 44) C 1 dX10_speech_44 rfl rfl ?_
        refine sw_imul (pc := 45) C dX10_speech_45 ?_
        refine sw_iconst (pc := 46) C (v := (5 : Int32)) dX10_speech_46 (by decide) ?_
        refine sw_iadd (pc := 47) C dX10_speech_47 ?_
        obtain ⟨hi48, hJ⟩ := gd hJ
        refine lM_5 (pc := 48) C hi48 dX10_speech_48 ?_
        refine sw_istore (pc := 49) C dX10_speech_49 (by decide) (ll2 := [(4, .int (sA X 5 (((8 : Int32) * a1) + (5 : Int32)).toNatClampNeg)), (0, .ref (ad 0)), (1, .int a1), (2, .int a2), (3, .int a3)]) rfl ?_
        refine sw_aload_n (pc := 51) C 1 dX10_speech_51 rfl rfl ?_
        refine gM_0_13 (pc := 52) C wd_4_15 dX10_speech_52 ?_
        refine sw_bipush (pc := 55) C (v := (8 : Int32)) dX10_speech_55 (by decide) ?_
        refine sw_iload_n (pc := 57) C 2 dX10_speech_57 rfl rfl ?_
        refine sw_imul (pc := 58) C dX10_speech_58 ?_
        refine sw_iconst (pc := 59) C (v := (5 : Int32)) dX10_speech_59 (by decide) ?_
        refine sw_iadd (pc := 60) C dX10_speech_60 ?_
        refine sw_iload_n (pc := 61) C 3 dX10_speech_61 rfl rfl ?_
        obtain ⟨hi62, hJ⟩ := gd hJ
        refine tM_5 (pc := 62) C hi62 dX10_speech_62 ?_
        refine sw_aload_n (pc := 63) C 1 dX10_speech_63 rfl rfl ?_
        refine gM_0_13 (pc := 64) C wd_4_15 dX10_speech_64 ?_
        refine sw_bipush (pc := 67) C (v := (8 : Int32)) dX10_speech_67 (by decide) ?_
        refine sw_iload_n (pc := 69) C 2 dX10_speech_69 rfl rfl ?_
        refine sw_imul (pc := 70) C dX10_speech_70 ?_
        refine sw_bipush (pc := 71) C (v := (6 : Int32)) dX10_speech_71 (by decide) ?_
        refine sw_iadd (pc := 73) C dX10_speech_73 ?_
        refine sw_iload_n (pc := 74) C 4 dX10_speech_74 rfl rfl ?_
        obtain ⟨hi75, hJ⟩ := gd hJ
        refine tM_5 (pc := 75) C hi75 dX10_speech_75 ?_
        refine sw_iload (pc := 76) C 0 dX10_speech_76 rfl ?_
        obtain rfl := Option.some.inj hJ
        exact sw_iret (pc := 78) C dX10_speech_78
      · replace hJ := itep hb32 hJ
        refine sw_bipush (pc := 35) C (v := (-102 : Int32)) dX10_speech_35 (by decide) ?_
        obtain rfl := Option.some.inj hJ
        exact sw_iret (pc := 37) C dX10_speech_37
  · replace hJ := itep hb5 hJ
    refine sw_bipush (pc := 8) C (v := (-101 : Int32)) dX10_speech_8 (by decide) ?_
    obtain rfl := Option.some.inj hJ
    exact sw_iret (pc := 10) C dX10_speech_10
set_option maxHeartbeats 4000000 in
set_option maxRecDepth 100000 in
theorem k_M_speech {l : Launch} {D : va_G} {cy : Nat → ClassId} {ad : Nat → Nat} {A : Nat → Prop} (hD : ∀ X, va_D A (wM cy ad X)) {X : St} {a1 : Int32} {a2 : Int32} {a3 : Int32} {r : Int32 × St} (hJ : jM_speech X a1 a2 a3 = some r) : Met l yX10_speech (wsY yX10_speech cX10_speech 5 (some .int)) ({ frames := 2, cells := 0, slots := 0, locals := 46 } : Room) (prX D cy (wM cy ad) X [.ref (ad 0), .int a1, .int a2, .int a3]) (poI D (wM cy ad) A r.1 r.2) 0 0 A := sw_met (by decide +kernel) (Nat.le_of_ble_eq_true rfl) hD (fun p e s m args below meth c C => t_M_speech C _ _ _ _ hJ)
set_option maxHeartbeats 4000000 in
set_option maxRecDepth 100000 in
theorem t_M_weighs {p : Program} {l : Launch} {e : Env} {s : State} {m : MethodId} {args : Array Value} {below : List Frame} {meth : Method} {c : Code} {D : va_G} {cy : Nat → ClassId} {ad : Nat → Nat} {A : Nat → Prop} (C : Cx p s m args meth c D cy cX10_weighs 2 RX10 (some .int) A (wM cy ad)) {X : St} {r : Int32} : ∀ (a1 : Int32), jM_weighs X a1 = some r → SW p l e ({ frames := 0, cells := 0, slots := 0, locals := 0 } : Room) s m args below meth c D 2 A (wM cy ad) (MQ below (poI D (wM cy ad) A r X) args s 0 0 A) X [(0, .ref (ad 0)), (1, .int a1)] 0 [] := by
  intro a1 hJ
  unfold jM_weighs at hJ
  refine sw_aload_n (pc := 0) C 0 dX10_weighs_0 rfl rfl ?_
  refine gM_0_13 (pc := 1) C wd_4_15 dX10_weighs_1 ?_
  refine sw_bipush (pc := 4) C (v := (8 : Int32)) dX10_weighs_4 (by decide) ?_
  refine sw_iload_n (pc := 6) C 1 dX10_weighs_6 rfl rfl ?_
  refine sw_imul (pc := 7) C dX10_weighs_7 ?_
  obtain ⟨hi8, hJ⟩ := gd hJ
  refine lM_5 (pc := 8) C hi8 dX10_weighs_8 ?_
  refine sw_iconst (pc := 9) C (v := (1 : Int32)) dX10_weighs_9 (by decide) ?_
  refine sw_icmp_ne (pc := 10) (tgt := 29) C dX10_weighs_10 (by decide) (fun hb10 => ?_) (fun hb10 => ?_)
  · replace hJ := iten hb10 hJ
    refine sw_aload_n (pc := 29) C 0 dX10_weighs_29 rfl rfl ?_
    refine gM_0_13 (pc := 30) C wd_4_15 dX10_weighs_30 ?_
    refine sw_bipush (pc := 33) C (v := (8 : Int32)) dX10_weighs_33 (by decide) ?_
    refine sw_iload_n (pc := 35) C 1 dX10_weighs_35 rfl rfl ?_
    refine sw_imul (pc := 36) C dX10_weighs_36 ?_
    refine sw_iconst (pc := 37) C (v := (1 : Int32)) dX10_weighs_37 (by decide) ?_
    refine sw_iadd (pc := 38) C dX10_weighs_38 ?_
    obtain ⟨hi39, hJ⟩ := gd hJ
    refine lM_5 (pc := 39) C hi39 dX10_weighs_39 ?_
    obtain rfl := Option.some.inj hJ
    exact sw_iret (pc := 40) C dX10_weighs_40
  · replace hJ := itep hb10 hJ
    refine sw_iconst (pc := 13) C (v := (2 : Int32)) dX10_weighs_13 (by decide) ?_
    refine sw_aload_n (pc := 14) C 0 dX10_weighs_14 rfl rfl ?_
    refine gM_0_13 (pc := 15) C wd_4_15 dX10_weighs_15 ?_
    refine sw_bipush (pc := 18) C (v := (8 : Int32)) dX10_weighs_18 (by decide) ?_
    refine sw_iload_n (pc := 20) C 1 dX10_weighs_20 rfl rfl ?_
    refine sw_imul (pc := 21) C dX10_weighs_21 ?_
    refine sw_iconst (pc := 22) C (v := (1 : Int32)) dX10_weighs_22 (by decide) ?_
    refine sw_iadd (pc := 23) C dX10_weighs_23 ?_
    obtain ⟨hi24, hJ⟩ := gd hJ
    refine lM_5 (pc := 24) C hi24 dX10_weighs_24 ?_
    refine sw_imul (pc := 25) C dX10_weighs_25 ?_
    refine sw_goto (pc := 26) (tgt := 40) C dX10_weighs_26 (by decide) ?_
    obtain rfl := Option.some.inj hJ
    exact sw_iret (pc := 40) C dX10_weighs_40
set_option maxHeartbeats 4000000 in
set_option maxRecDepth 100000 in
theorem k_M_weighs {l : Launch} {D : va_G} {cy : Nat → ClassId} {ad : Nat → Nat} {A : Nat → Prop} (hD : ∀ X, va_D A (wM cy ad X)) {X : St} {a1 : Int32} {r : Int32} (hJ : jM_weighs X a1 = some r) : Met l yX10_weighs (wsY yX10_weighs cX10_weighs 2 (some .int)) ({ frames := 0, cells := 0, slots := 0, locals := 0 } : Room) (prX D cy (wM cy ad) X [.ref (ad 0), .int a1]) (poI D (wM cy ad) A r X) 0 0 A := sw_met (by decide +kernel) (Nat.le_of_ble_eq_true rfl) hD (fun p e s m args below meth c C => t_M_weighs C _ hJ)
set_option maxHeartbeats 4000000 in
set_option maxRecDepth 100000 in
theorem t_M_canBear_37 {p : Program} {l : Launch} {e : Env} {s : State} {m : MethodId} {args : Array Value} {below : List Frame} {meth : Method} {c : Code} {D : va_G} {cy : Nat → ClassId} {ad : Nat → Nat} {A : Nat → Prop} (C : Cx p s m args meth c D cy cX10_canBear 3 RX10 (some .int) A (wM cy ad)) {X : St} {r : Int32} : ∀ (s0 : Int32) (s1 : Int32), jM_canBear_37 X s0 s1 = some r → SW p l e ({ frames := 0, cells := 0, slots := 0, locals := 0 } : Room) s m args below meth c D 3 A (wM cy ad) (MQ below (poI D (wM cy ad) A r X) args s 0 0 A) X [] 37 [.int s1, .int s0] := by
  intro s0 s1 hJ
  unfold jM_canBear_37 at hJ
  refine sw_iadd (pc := 37) C dX10_canBear_37 ?_
  obtain rfl := Option.some.inj hJ
  exact sw_iret (pc := 38) C dX10_canBear_38
set_option maxHeartbeats 4000000 in
set_option maxRecDepth 100000 in
theorem t_M_canBear_31 {p : Program} {l : Launch} {e : Env} {s : State} {m : MethodId} {args : Array Value} {below : List Frame} {meth : Method} {c : Code} {D : va_G} {cy : Nat → ClassId} {ad : Nat → Nat} {A : Nat → Prop} (C : Cx p s m args meth c D cy cX10_canBear 3 RX10 (some .int) A (wM cy ad)) {X : St} {r : Int32} : ∀ (s0 : Int32), jM_canBear_31 X s0 = some r → SW p l e ({ frames := 0, cells := 0, slots := 0, locals := 0 } : Room) s m args below meth c D 3 A (wM cy ad) (MQ below (poI D (wM cy ad) A r X) args s 0 0 A) X [] 31 [.int s0] := by
  intro s0 hJ
  unfold jM_canBear_31 at hJ
  refine sw_bipush (pc := 31) C (v := (10 : Int32)) dX10_canBear_31 (by decide) ?_
  refine sw_goto (pc := 33) (tgt := 37) C dX10_canBear_33 (by decide) ?_
  exact sw_sub [] (by rfl) (t_M_canBear_37 C _ _ hJ)
set_option maxHeartbeats 4000000 in
set_option maxRecDepth 100000 in
theorem t_M_canBear {p : Program} {l : Launch} {e : Env} {s : State} {m : MethodId} {args : Array Value} {below : List Frame} {meth : Method} {c : Code} {D : va_G} {cy : Nat → ClassId} {ad : Nat → Nat} {A : Nat → Prop} (C : Cx p s m args meth c D cy cX10_canBear 3 RX10 (some .int) A (wM cy ad)) {X : St} {r : Int32} : ∀ (a1 : Int32), jM_canBear X a1 = some r → SW p l e ({ frames := 0, cells := 0, slots := 0, locals := 0 } : Room) s m args below meth c D 3 A (wM cy ad) (MQ below (poI D (wM cy ad) A r X) args s 0 0 A) X [(0, .ref (ad 0)), (1, .int a1)] 0 [] := by
  intro a1 hJ
  unfold jM_canBear at hJ
  refine sw_aload_n (pc := 0) C 0 dX10_canBear_0 rfl rfl ?_
  refine gM_0_13 (pc := 1) C wd_4_15 dX10_canBear_1 ?_
  refine sw_bipush (pc := 4) C (v := (8 : Int32)) dX10_canBear_4 (by decide) ?_
  refine sw_iload_n (pc := 6) C 1 dX10_canBear_6 rfl rfl ?_
  refine sw_imul (pc := 7) C dX10_canBear_7 ?_
  obtain ⟨hi8, hJ⟩ := gd hJ
  refine lM_5 (pc := 8) C hi8 dX10_canBear_8 ?_
  refine sw_istore_n (pc := 9) C dX10_canBear_9 rfl (by decide) (ll2 := [(2, .int (sA X 5 ((8 : Int32) * a1).toNatClampNeg)), (0, .ref (ad 0)), (1, .int a1)]) rfl ?_
  refine sw_aload_n (pc := 10) C 1 dX10_canBear_10 rfl rfl ?_
  refine gM_0_13 (pc := 11) C wd_4_15 dX10_canBear_11 ?_
  refine sw_bipush (pc := 14) C (v := (8 : Int32)) dX10_canBear_14 (by decide) ?_
  refine sw_iload_n (pc := 16) C 2 dX10_canBear_16 rfl rfl ?_
  refine sw_imul (pc := 17) C dX10_canBear_17 ?_
  refine sw_iconst (pc := 18) C (v := (4 : Int32)) dX10_canBear_18 (by decide) ?_
  refine sw_iadd (pc := 19) C dX10_canBear_19 ?_
  obtain ⟨hi20, hJ⟩ := gd hJ
  refine lM_5 (pc := 20) C hi20 dX10_canBear_20 ?_
  refine sw_iload_n (pc := 21) C 0 dX10_canBear_21 rfl rfl ?_
  refine sw_iconst (pc := 22) C (v := (2 : Int32)) dX10_canBear_22 (by decide) ?_
  refine sw_icmp_eq (pc := 23) (tgt := 31) C dX10_canBear_23 (by decide) (fun hb23 => ?_) (fun hb23 => ?_)
  · replace hJ := itep hb23 hJ
    exact sw_sub [] (by rfl) (t_M_canBear_31 C _ hJ)
  · replace hJ := iten hb23 hJ
    refine sw_iload_n (pc := 26) C 0 dX10_canBear_26 rfl rfl ?_
    refine sw_iconst (pc := 27) C (v := (4 : Int32)) dX10_canBear_27 (by decide) ?_
    refine sw_icmp_ne (pc := 28) (tgt := 36) C dX10_canBear_28 (by decide) (fun hb28 => ?_) (fun hb28 => ?_)
    · replace hJ := iten hb28 hJ
      refine sw_iconst (pc := 36) C (v := (0 : Int32)) dX10_canBear_36 (by decide) ?_
      exact sw_sub [] (by rfl) (t_M_canBear_37 C _ _ hJ)
    · replace hJ := itep hb28 hJ
      exact sw_sub [] (by rfl) (t_M_canBear_31 C _ hJ)
set_option maxHeartbeats 4000000 in
set_option maxRecDepth 100000 in
theorem k_M_canBear {l : Launch} {D : va_G} {cy : Nat → ClassId} {ad : Nat → Nat} {A : Nat → Prop} (hD : ∀ X, va_D A (wM cy ad X)) {X : St} {a1 : Int32} {r : Int32} (hJ : jM_canBear X a1 = some r) : Met l yX10_canBear (wsY yX10_canBear cX10_canBear 3 (some .int)) ({ frames := 0, cells := 0, slots := 0, locals := 0 } : Room) (prX D cy (wM cy ad) X [.ref (ad 0), .int a1]) (poI D (wM cy ad) A r X) 0 0 A := sw_met (by decide +kernel) (Nat.le_of_ble_eq_true rfl) hD (fun p e s m args below meth c C => t_M_canBear C _ hJ)
set_option maxHeartbeats 4000000 in
set_option maxRecDepth 100000 in
theorem t_M_leans {p : Program} {l : Launch} {e : Env} {s : State} {m : MethodId} {args : Array Value} {below : List Frame} {meth : Method} {c : Code} {D : va_G} {cy : Nat → ClassId} {ad : Nat → Nat} {A : Nat → Prop} (C : Cx p s m args meth c D cy cX10_leans 2 RX10 (some .int) A (wM cy ad)) {X : St} {r : Int32} : ∀ (a1 : Int32), jM_leans X a1 = some r → SW p l e ({ frames := 0, cells := 0, slots := 0, locals := 0 } : Room) s m args below meth c D 2 A (wM cy ad) (MQ below (poI D (wM cy ad) A r X) args s 0 0 A) X [(0, .ref (ad 0)), (1, .int a1)] 0 [] := by
  intro a1 hJ
  unfold jM_leans at hJ
  refine sw_aload_n (pc := 0) C 0 dX10_leans_0 rfl rfl ?_
  refine gM_0_13 (pc := 1) C wd_4_15 dX10_leans_1 ?_
  refine sw_bipush (pc := 4) C (v := (8 : Int32)) dX10_leans_4 (by decide) ?_
  refine sw_iload_n (pc := 6) C 1 dX10_leans_6 rfl rfl ?_
  refine sw_imul (pc := 7) C dX10_leans_7 ?_
  obtain ⟨hi8, hJ⟩ := gd hJ
  refine lM_5 (pc := 8) C hi8 dX10_leans_8 ?_
  refine sw_iconst (pc := 9) C (v := (2 : Int32)) dX10_leans_9 (by decide) ?_
  refine sw_icmp_le (pc := 10) (tgt := 17) C dX10_leans_10 (by decide) (fun hb10 => ?_) (fun hb10 => ?_)
  · replace hJ := itep hb10 hJ
    refine sw_aload_n (pc := 17) C 0 dX10_leans_17 rfl rfl ?_
    refine gM_0_13 (pc := 18) C wd_4_15 dX10_leans_18 ?_
    refine sw_bipush (pc := 21) C (v := (8 : Int32)) dX10_leans_21 (by decide) ?_
    refine sw_iload_n (pc := 23) C 1 dX10_leans_23 rfl rfl ?_
    refine sw_imul (pc := 24) C dX10_leans_24 ?_
    refine sw_iconst (pc := 25) C (v := (2 : Int32)) dX10_leans_25 (by decide) ?_
    refine sw_iadd (pc := 26) C dX10_leans_26 ?_
    obtain ⟨hi27, hJ⟩ := gd hJ
    refine lM_5 (pc := 27) C hi27 dX10_leans_27 ?_
    obtain rfl := Option.some.inj hJ
    exact sw_iret (pc := 28) C dX10_leans_28
  · replace hJ := iten hb10 hJ
    refine sw_iconst (pc := 13) C (v := (0 : Int32)) dX10_leans_13 (by decide) ?_
    refine sw_goto (pc := 14) (tgt := 28) C dX10_leans_14 (by decide) ?_
    obtain rfl := Option.some.inj hJ
    exact sw_iret (pc := 28) C dX10_leans_28
set_option maxHeartbeats 4000000 in
set_option maxRecDepth 100000 in
theorem k_M_leans {l : Launch} {D : va_G} {cy : Nat → ClassId} {ad : Nat → Nat} {A : Nat → Prop} (hD : ∀ X, va_D A (wM cy ad X)) {X : St} {a1 : Int32} {r : Int32} (hJ : jM_leans X a1 = some r) : Met l yX10_leans (wsY yX10_leans cX10_leans 2 (some .int)) ({ frames := 0, cells := 0, slots := 0, locals := 0 } : Room) (prX D cy (wM cy ad) X [.ref (ad 0), .int a1]) (poI D (wM cy ad) A r X) 0 0 A := sw_met (by decide +kernel) (Nat.le_of_ble_eq_true rfl) hD (fun p e s m args below meth c C => t_M_leans C _ hJ)
set_option maxHeartbeats 4000000 in
set_option maxRecDepth 100000 in
theorem t_M_bears_8 {p : Program} {l : Launch} {e : Env} {s : State} {m : MethodId} {args : Array Value} {below : List Frame} {meth : Method} {c : Code} {D : va_G} {cy : Nat → ClassId} {ad : Nat → Nat} {A : Nat → Prop} (C : Cx p s m args meth c D cy cX10_bears 6 RX10 (some .int) A (wM cy ad)) {X : St} {ak : Nat} {r : Int32} (hak : a7 ak) : ∀ (n : Nat) (v2 : Int32) (v3 : Int32) (v4 : Int32) (v5 : Int32), jM_bears_8 X ak n v2 v3 v4 v5 = some r → SW p l e ({ frames := 1, cells := 0, slots := 0, locals := 21 } : Room) s m args below meth c D 6 A (wM cy ad) (MQ below (poI D (wM cy ad) A r X) args s 0 0 A) X [(0, .ref (ad 0)), (1, .ref (ad ak)), (2, .int v2), (3, .int v3), (4, .int v4), (5, .int v5)] 8 [] := by
  intro n
  induction n with
  | zero => intro v2 v3 v4 v5 hJ; exact absurd (show (none : Option (Int32)) = some r from hJ) (fun h => by cases h)
  | succ n ih =>
    intro v2 v3 v4 v5 hJ
    rw [jM_bears_8] at hJ
    refine sw_iload (pc := 8) C 5 dX10_bears_8 rfl ?_
    refine sw_iload_n (pc := 10) C 2 dX10_bears_10 rfl rfl ?_
    refine sw_icmp_ge (pc := 11) (tgt := 35) C dX10_bears_11 (by decide) (fun hb11 => ?_) (fun hb11 => ?_)
    · replace hJ := itep hb11 hJ
      refine sw_aload_n (pc := 35) C 0 dX10_bears_35 rfl rfl ?_
      refine gM_0_13 (pc := 36) C wd_4_15 dX10_bears_36 ?_
      refine sw_bipush (pc := 39) C (v := (8 : Int32)) dX10_bears_39 (by decide) ?_
      refine sw_aload_n (pc := 41) C 1 dX10_bears_41 rfl rfl ?_
      refine sw_iload_n (pc := 42) C 3 dX10_bears_42 rfl rfl ?_
      obtain ⟨hi43, hJ⟩ := gd hJ
      refine lM_a (pc := 43) C hak hi43 dX10_bears_43 ?_
      refine sw_imul (pc := 44) C dX10_bears_44 ?_
      obtain ⟨hi45, hJ⟩ := gd hJ
      refine lM_5 (pc := 45) C hi45 dX10_bears_45 ?_
      refine sw_iconst (pc := 46) C (v := (1 : Int32)) dX10_bears_46 (by decide) ?_
      refine sw_icmp_ne (pc := 47) (tgt := 59) C dX10_bears_47 (by decide) (fun hb47 => ?_) (fun hb47 => ?_)
      · replace hJ := iten hb47 hJ
        refine sw_iload (pc := 59) C 4 dX10_bears_59 rfl ?_
        obtain rfl := Option.some.inj hJ
        exact sw_iret (pc := 61) C dX10_bears_61
      · replace hJ := itep hb47 hJ
        refine sw_iload (pc := 50) C 4 dX10_bears_50 rfl ?_
        refine sw_iconst (pc := 52) C (v := (1 : Int32)) dX10_bears_52 (by decide) ?_
        refine sw_iadd (pc := 53) C dX10_bears_53 ?_
        refine sw_iconst (pc := 54) C (v := (2 : Int32)) dX10_bears_54 (by decide) ?_
        refine sw_idiv (pc := 55) C dX10_bears_55 (by decide) ?_
        refine sw_goto (pc := 56) (tgt := 61) C dX10_bears_56 (by decide) ?_
        obtain rfl := Option.some.inj hJ
        exact sw_iret (pc := 61) C dX10_bears_61
    · replace hJ := iten hb11 hJ
      refine sw_iload (pc := 14) C 4 dX10_bears_14 rfl ?_
      refine sw_aload_n (pc := 16) C 0 dX10_bears_16 rfl rfl ?_
      refine sw_aload_n (pc := 17) C 1 dX10_bears_17 rfl rfl ?_
      refine sw_iload (pc := 18) C 5 dX10_bears_18 rfl ?_
      obtain ⟨hi20, hJ⟩ := gd hJ
      refine lM_a (pc := 20) C hak hi20 dX10_bears_20 ?_
      obtain ⟨q21, hq21, hJ⟩ := bind_some hJ
      refine sw_callV_i (pc := 21) C (st := [.int v4]) (As := [.int (sA X ak v5.toNatClampNeg)]) (k_M_weighs C.2.2.2.2.2.2.1 hq21) pk_X10_weighs wd_17_9 0 rfl rfl rfl ⟨Nat.le_of_ble_eq_true rfl, Nat.le_of_ble_eq_true rfl⟩ ⟨rfl, rfl⟩ rfl rfl (Nat.le_of_ble_eq_true rfl) dX10_bears_21 ?_
      refine sw_iconst (pc := 24) C (v := (1 : Int32)) dX10_bears_24 (by decide) ?_
      refine sw_iadd (pc := 25) C dX10_bears_25 ?_
      refine sw_iadd (pc := 26) C dX10_bears_26 ?_
      refine sw_istore (pc := 27) C dX10_bears_27 (by decide) (ll2 := [(4, .int (v4 + (q21 + (1 : Int32)))), (0, .ref (ad 0)), (1, .ref (ad ak)), (2, .int v2), (3, .int v3), (5, .int v5)]) rfl ?_
      refine sw_iinc (pc := 29) C 5 dX10_bears_29 rfl (v := (v5 + (1 : Int32))) (congrArg (fun z => v5 + z) (by decide)) (by decide) (ll2 := [(5, .int (v5 + (1 : Int32))), (4, .int (v4 + (q21 + (1 : Int32)))), (0, .ref (ad 0)), (1, .ref (ad ak)), (2, .int v2), (3, .int v3)]) rfl ?_
      refine sw_goto (pc := 32) (tgt := 8) C dX10_bears_32 (by decide) ?_
      exact sw_sub [2, 3, 4, 5, 1, 0] (by rfl) (ih _ _ _ _ hJ)
set_option maxHeartbeats 4000000 in
set_option maxRecDepth 100000 in
theorem t_M_bears {p : Program} {l : Launch} {e : Env} {s : State} {m : MethodId} {args : Array Value} {below : List Frame} {meth : Method} {c : Code} {D : va_G} {cy : Nat → ClassId} {ad : Nat → Nat} {A : Nat → Prop} (C : Cx p s m args meth c D cy cX10_bears 6 RX10 (some .int) A (wM cy ad)) {X : St} {ak : Nat} {r : Int32} (hak : a7 ak) : ∀ (a2 : Int32) (a3 : Int32), jM_bears X ak a2 a3 = some r → SW p l e ({ frames := 1, cells := 0, slots := 0, locals := 21 } : Room) s m args below meth c D 6 A (wM cy ad) (MQ below (poI D (wM cy ad) A r X) args s 0 0 A) X [(0, .ref (ad 0)), (1, .ref (ad ak)), (2, .int a2), (3, .int a3)] 0 [] := by
  intro a2 a3 hJ
  unfold jM_bears at hJ
  refine sw_iconst (pc := 0) C (v := (0 : Int32)) dX10_bears_0 (by decide) ?_
  refine sw_istore (pc := 1) C dX10_bears_1 (by decide) (ll2 := [(4, .int (0 : Int32)), (0, .ref (ad 0)), (1, .ref (ad ak)), (2, .int a2), (3, .int a3)]) rfl ?_
  refine sw_iload_n (pc := 3) C 4 dX10_bears_3 rfl rfl ?_
  refine sw_iconst (pc := 4) C (v := (1 : Int32)) dX10_bears_4 (by decide) ?_
  refine sw_iadd (pc := 5) C dX10_bears_5 ?_
  refine sw_istore (pc := 6) C dX10_bears_6 (by decide) (ll2 := [(5, .int (a3 + (1 : Int32))), (4, .int (0 : Int32)), (0, .ref (ad 0)), (1, .ref (ad ak)), (2, .int a2), (3, .int a3)]) rfl ?_
  exact sw_sub [2, 3, 4, 5, 1, 0] (by rfl) (t_M_bears_8 C hak _ _ _ _ _ hJ)
set_option maxHeartbeats 4000000 in
set_option maxRecDepth 100000 in
theorem k_M_bears {l : Launch} {D : va_G} {cy : Nat → ClassId} {ad : Nat → Nat} {A : Nat → Prop} (hD : ∀ X, va_D A (wM cy ad X)) {X : St} {ak : Nat} {a2 : Int32} {a3 : Int32} {r : Int32} (hak : a7 ak) (hJ : jM_bears X ak a2 a3 = some r) : Met l yX10_bears (wsY yX10_bears cX10_bears 6 (some .int)) ({ frames := 1, cells := 0, slots := 0, locals := 21 } : Room) (prX D cy (wM cy ad) X [.ref (ad 0), .ref (ad ak), .int a2, .int a3]) (poI D (wM cy ad) A r X) 0 0 A := sw_met (by decide +kernel) (Nat.le_of_ble_eq_true rfl) hD (fun p e s m args below meth c C => t_M_bears C hak _ _ hJ)
set_option maxHeartbeats 4000000 in
set_option maxRecDepth 100000 in
theorem t_M_leansOf_5 {p : Program} {l : Launch} {e : Env} {s : State} {m : MethodId} {args : Array Value} {below : List Frame} {meth : Method} {c : Code} {D : va_G} {cy : Nat → ClassId} {ad : Nat → Nat} {A : Nat → Prop} (C : Cx p s m args meth c D cy cX10_leansOf 5 RX10 (some .int) A (wM cy ad)) {X : St} {ak : Nat} {r : Int32} (hak : a7 ak) : ∀ (n : Nat) (v2 : Int32) (v3 : Int32) (v4 : Int32), jM_leansOf_5 X ak n v2 v3 v4 = some r → SW p l e ({ frames := 1, cells := 0, slots := 0, locals := 21 } : Room) s m args below meth c D 5 A (wM cy ad) (MQ below (poI D (wM cy ad) A r X) args s 0 0 A) X [(0, .ref (ad 0)), (1, .ref (ad ak)), (2, .int v2), (3, .int v3), (4, .int v4)] 5 [] := by
  intro n
  induction n with
  | zero => intro v2 v3 v4 hJ; exact absurd (show (none : Option (Int32)) = some r from hJ) (fun h => by cases h)
  | succ n ih =>
    intro v2 v3 v4 hJ
    rw [jM_leansOf_5] at hJ
    refine sw_iload (pc := 5) C 4 dX10_leansOf_5 rfl ?_
    refine sw_iload_n (pc := 7) C 2 dX10_leansOf_7 rfl rfl ?_
    refine sw_icmp_ge (pc := 8) (tgt := 28) C dX10_leansOf_8 (by decide) (fun hb8 => ?_) (fun hb8 => ?_)
    · replace hJ := itep hb8 hJ
      refine sw_iload_n (pc := 28) C 3 dX10_leansOf_28 rfl rfl ?_
      refine sw_if_ge (pc := 29) (tgt := 37) C dX10_leansOf_29 (by decide) (fun hb29 => ?_) (fun hb29 => ?_)
      · replace hJ := itep hb29 hJ
        refine sw_iload_n (pc := 37) C 3 dX10_leansOf_37 rfl rfl ?_
        obtain rfl := Option.some.inj hJ
        exact sw_iret (pc := 38) C dX10_leansOf_38
      · replace hJ := iten hb29 hJ
        refine sw_iload_n (pc := 32) C 3 dX10_leansOf_32 rfl rfl ?_
        refine sw_ineg (pc := 33) C dX10_leansOf_33 ?_
        refine sw_goto (pc := 34) (tgt := 38) C dX10_leansOf_34 (by decide) ?_
        obtain rfl := Option.some.inj hJ
        exact sw_iret (pc := 38) C dX10_leansOf_38
    · replace hJ := iten hb8 hJ
      refine sw_iload_n (pc := 11) C 3 dX10_leansOf_11 rfl rfl ?_
      refine sw_aload_n (pc := 12) C 0 dX10_leansOf_12 rfl rfl ?_
      refine sw_aload_n (pc := 13) C 1 dX10_leansOf_13 rfl rfl ?_
      refine sw_iload (pc := 14) C 4 dX10_leansOf_14 rfl ?_
      obtain ⟨hi16, hJ⟩ := gd hJ
      refine lM_a (pc := 16) C hak hi16 dX10_leansOf_16 ?_
      obtain ⟨q17, hq17, hJ⟩ := bind_some hJ
      refine sw_callV_i (pc := 17) C (st := [.int v3]) (As := [.int (sA X ak v4.toNatClampNeg)]) (k_M_leans C.2.2.2.2.2.2.1 hq17) pk_X10_leans wd_21_3 0 rfl rfl rfl ⟨Nat.le_of_ble_eq_true rfl, Nat.le_of_ble_eq_true rfl⟩ ⟨rfl, rfl⟩ rfl rfl (Nat.le_of_ble_eq_true rfl) dX10_leansOf_17 ?_
      refine sw_iadd (pc := 20) C dX10_leansOf_20 ?_
      refine sw_istore_n (pc := 21) C dX10_leansOf_21 rfl (by decide) (ll2 := [(3, .int (v3 + q17)), (0, .ref (ad 0)), (1, .ref (ad ak)), (2, .int v2), (4, .int v4)]) rfl ?_
      refine sw_iinc (pc := 22) C 4 dX10_leansOf_22 rfl (v := (v4 + (1 : Int32))) (congrArg (fun z => v4 + z) (by decide)) (by decide) (ll2 := [(4, .int (v4 + (1 : Int32))), (3, .int (v3 + q17)), (0, .ref (ad 0)), (1, .ref (ad ak)), (2, .int v2)]) rfl ?_
      refine sw_goto (pc := 25) (tgt := 5) C dX10_leansOf_25 (by decide) ?_
      exact sw_sub [2, 3, 4, 1, 0] (by rfl) (ih _ _ _ hJ)
set_option maxHeartbeats 4000000 in
set_option maxRecDepth 100000 in
theorem t_M_leansOf {p : Program} {l : Launch} {e : Env} {s : State} {m : MethodId} {args : Array Value} {below : List Frame} {meth : Method} {c : Code} {D : va_G} {cy : Nat → ClassId} {ad : Nat → Nat} {A : Nat → Prop} (C : Cx p s m args meth c D cy cX10_leansOf 5 RX10 (some .int) A (wM cy ad)) {X : St} {ak : Nat} {r : Int32} (hak : a7 ak) : ∀ (a2 : Int32), jM_leansOf X ak a2 = some r → SW p l e ({ frames := 1, cells := 0, slots := 0, locals := 21 } : Room) s m args below meth c D 5 A (wM cy ad) (MQ below (poI D (wM cy ad) A r X) args s 0 0 A) X [(0, .ref (ad 0)), (1, .ref (ad ak)), (2, .int a2)] 0 [] := by
  intro a2 hJ
  unfold jM_leansOf at hJ
  refine sw_iconst (pc := 0) C (v := (0 : Int32)) dX10_leansOf_0 (by decide) ?_
  refine sw_istore_n (pc := 1) C dX10_leansOf_1 rfl (by decide) (ll2 := [(3, .int (0 : Int32)), (0, .ref (ad 0)), (1, .ref (ad ak)), (2, .int a2)]) rfl ?_
  refine sw_iconst (pc := 2) C (v := (0 : Int32)) dX10_leansOf_2 (by decide) ?_
  refine sw_istore (pc := 3) C dX10_leansOf_3 (by decide) (ll2 := [(4, .int (0 : Int32)), (3, .int (0 : Int32)), (0, .ref (ad 0)), (1, .ref (ad ak)), (2, .int a2)]) rfl ?_
  exact sw_sub [2, 3, 4, 1, 0] (by rfl) (t_M_leansOf_5 C hak _ _ _ _ hJ)
set_option maxHeartbeats 4000000 in
set_option maxRecDepth 100000 in
theorem k_M_leansOf {l : Launch} {D : va_G} {cy : Nat → ClassId} {ad : Nat → Nat} {A : Nat → Prop} (hD : ∀ X, va_D A (wM cy ad X)) {X : St} {ak : Nat} {a2 : Int32} {r : Int32} (hak : a7 ak) (hJ : jM_leansOf X ak a2 = some r) : Met l yX10_leansOf (wsY yX10_leansOf cX10_leansOf 5 (some .int)) ({ frames := 1, cells := 0, slots := 0, locals := 21 } : Room) (prX D cy (wM cy ad) X [.ref (ad 0), .ref (ad ak), .int a2]) (poI D (wM cy ad) A r X) 0 0 A := sw_met (by decide +kernel) (Nat.le_of_ble_eq_true rfl) hD (fun p e s m args below meth c C => t_M_leansOf C hak _ hJ)
set_option maxHeartbeats 4000000 in
set_option maxRecDepth 100000 in
theorem t_M_holds_56 {p : Program} {l : Launch} {e : Env} {s : State} {m : MethodId} {args : Array Value} {below : List Frame} {meth : Method} {c : Code} {D : va_G} {cy : Nat → ClassId} {ad : Nat → Nat} {A : Nat → Prop} (C : Cx p s m args meth c D cy cX10_holds 5 RX10 (some .boolean) A (wM cy ad)) {X : St} {ak : Nat} {k22 : Int32 → Int32 → Int32 → Option (Int32)} {r : Int32} (hak : a7 ak) (h22 : ∀ (v2 : Int32) (v3 : Int32) (v4 : Int32), k22 v2 v3 v4 = some r → SW p l e ({ frames := 2, cells := 0, slots := 0, locals := 46 } : Room) s m args below meth c D 5 A (wM cy ad) (MQ below (poI D (wM cy ad) A r X) args s 0 0 A) X [(0, .ref (ad 0)), (1, .ref (ad ak)), (2, .int v2), (3, .int v3), (4, .int v4)] 22 []) : ∀ (v2 : Int32) (v4 : Int32) (s0 : Int32), jM_holds_56 X ak k22 v2 v4 s0 = some r → SW p l e ({ frames := 2, cells := 0, slots := 0, locals := 46 } : Room) s m args below meth c D 5 A (wM cy ad) (MQ below (poI D (wM cy ad) A r X) args s 0 0 A) X [(0, .ref (ad 0)), (1, .ref (ad ak)), (2, .int v2), (4, .int v4)] 56 [.int s0] := by
  intro v2 v4 s0 hJ
  unfold jM_holds_56 at hJ
  refine sw_istore_n (pc := 56) C dX10_holds_56 rfl (by decide) (ll2 := [(3, .int s0), (0, .ref (ad 0)), (1, .ref (ad ak)), (2, .int v2), (4, .int v4)]) rfl ?_
  refine sw_iinc (pc := 57) C 4 dX10_holds_57 rfl (v := (v4 + (1 : Int32))) (congrArg (fun z => v4 + z) (by decide)) (by decide) (ll2 := [(4, .int (v4 + (1 : Int32))), (3, .int s0), (0, .ref (ad 0)), (1, .ref (ad ak)), (2, .int v2)]) rfl ?_
  refine sw_goto (pc := 60) (tgt := 22) C dX10_holds_60 (by decide) ?_
  exact sw_sub [2, 3, 4, 1, 0] (by rfl) (h22 _ _ _ hJ)
set_option maxHeartbeats 4000000 in
set_option maxRecDepth 100000 in
theorem t_M_holds_55 {p : Program} {l : Launch} {e : Env} {s : State} {m : MethodId} {args : Array Value} {below : List Frame} {meth : Method} {c : Code} {D : va_G} {cy : Nat → ClassId} {ad : Nat → Nat} {A : Nat → Prop} (C : Cx p s m args meth c D cy cX10_holds 5 RX10 (some .boolean) A (wM cy ad)) {X : St} {ak : Nat} {k22 : Int32 → Int32 → Int32 → Option (Int32)} {r : Int32} (hak : a7 ak) (h22 : ∀ (v2 : Int32) (v3 : Int32) (v4 : Int32), k22 v2 v3 v4 = some r → SW p l e ({ frames := 2, cells := 0, slots := 0, locals := 46 } : Room) s m args below meth c D 5 A (wM cy ad) (MQ below (poI D (wM cy ad) A r X) args s 0 0 A) X [(0, .ref (ad 0)), (1, .ref (ad ak)), (2, .int v2), (3, .int v3), (4, .int v4)] 22 []) : ∀ (v2 : Int32) (v4 : Int32), jM_holds_55 X ak k22 v2 v4 = some r → SW p l e ({ frames := 2, cells := 0, slots := 0, locals := 46 } : Room) s m args below meth c D 5 A (wM cy ad) (MQ below (poI D (wM cy ad) A r X) args s 0 0 A) X [(0, .ref (ad 0)), (1, .ref (ad ak)), (2, .int v2), (4, .int v4)] 55 [] := by
  intro v2 v4 hJ
  unfold jM_holds_55 at hJ
  refine sw_iconst (pc := 55) C (v := (0 : Int32)) dX10_holds_55 (by decide) ?_
  exact sw_sub [0, 1, 2, 3] (by rfl) (t_M_holds_56 C hak h22 _ _ _ hJ)
set_option maxHeartbeats 4000000 in
set_option maxRecDepth 100000 in
theorem t_M_holds_22 {p : Program} {l : Launch} {e : Env} {s : State} {m : MethodId} {args : Array Value} {below : List Frame} {meth : Method} {c : Code} {D : va_G} {cy : Nat → ClassId} {ad : Nat → Nat} {A : Nat → Prop} (C : Cx p s m args meth c D cy cX10_holds 5 RX10 (some .boolean) A (wM cy ad)) {X : St} {ak : Nat} {r : Int32} (hak : a7 ak) : ∀ (n : Nat) (v2 : Int32) (v3 : Int32) (v4 : Int32), jM_holds_22 X ak n v2 v3 v4 = some r → SW p l e ({ frames := 2, cells := 0, slots := 0, locals := 46 } : Room) s m args below meth c D 5 A (wM cy ad) (MQ below (poI D (wM cy ad) A r X) args s 0 0 A) X [(0, .ref (ad 0)), (1, .ref (ad ak)), (2, .int v2), (3, .int v3), (4, .int v4)] 22 [] := by
  intro n
  induction n with
  | zero => intro v2 v3 v4 hJ; exact absurd (show (none : Option (Int32)) = some r from hJ) (fun h => by cases h)
  | succ n ih =>
    intro v2 v3 v4 hJ
    rw [jM_holds_22] at hJ
    refine sw_iload (pc := 22) C 4 dX10_holds_22 rfl ?_
    refine sw_iload_n (pc := 24) C 2 dX10_holds_24 rfl rfl ?_
    refine sw_icmp_ge (pc := 25) (tgt := 63) C dX10_holds_25 (by decide) (fun hb25 => ?_) (fun hb25 => ?_)
    · replace hJ := itep hb25 hJ
      refine sw_iload_n (pc := 63) C 3 dX10_holds_63 rfl rfl ?_
      obtain ⟨hz64, hJ⟩ := gd hJ
      obtain rfl := Option.some.inj hJ
      exact sw_zret (pc := 64) (v := v3) C hz64 dX10_holds_64
    · replace hJ := iten hb25 hJ
      refine sw_iload_n (pc := 28) C 3 dX10_holds_28 rfl rfl ?_
      refine sw_if_eq (pc := 29) (tgt := 55) C dX10_holds_29 (by decide) (fun hb29 => ?_) (fun hb29 => ?_)
      · replace hJ := itep hb29 hJ
        exact sw_sub [0, 1, 2, 4] (by rfl) (t_M_holds_55 C hak ih _ _ hJ)
      · replace hJ := iten hb29 hJ
        refine sw_aload_n (pc := 32) C 0 dX10_holds_32 rfl rfl ?_
        refine sw_aload_n (pc := 33) C 1 dX10_holds_33 rfl rfl ?_
        refine sw_iload_n (pc := 34) C 2 dX10_holds_34 rfl rfl ?_
        refine sw_iload (pc := 35) C 4 dX10_holds_35 rfl ?_
        obtain ⟨q37, hq37, hJ⟩ := bind_some hJ
        refine sw_callV_i (pc := 37) C (st := []) (As := [.ref (ad ak), .int v2, .int v4]) (k_M_bears C.2.2.2.2.2.2.1 hak hq37) pk_X10_bears wd_17_17 0 rfl rfl rfl ⟨Nat.le_of_ble_eq_true rfl, Nat.le_of_ble_eq_true rfl⟩ ⟨rfl, rfl⟩ rfl rfl (Nat.le_of_ble_eq_true rfl) dX10_holds_37 ?_
        refine sw_aload_n (pc := 40) C 0 dX10_holds_40 rfl rfl ?_
        refine sw_aload_n (pc := 41) C 1 dX10_holds_41 rfl rfl ?_
        refine sw_iload (pc := 42) C 4 dX10_holds_42 rfl ?_
        obtain ⟨hi44, hJ⟩ := gd hJ
        refine lM_a (pc := 44) C hak hi44 dX10_holds_44 ?_
        obtain ⟨q45, hq45, hJ⟩ := bind_some hJ
        refine sw_callV_i (pc := 45) C (st := [.int q37]) (As := [.int (sA X ak v4.toNatClampNeg)]) (k_M_canBear C.2.2.2.2.2.2.1 hq45) pk_X10_canBear wd_17_13 0 rfl rfl rfl ⟨Nat.le_of_ble_eq_true rfl, Nat.le_of_ble_eq_true rfl⟩ ⟨rfl, rfl⟩ rfl rfl (Nat.le_of_ble_eq_true rfl) dX10_holds_45 ?_
        refine sw_icmp_gt (pc := 48) (tgt := 55) C dX10_holds_48 (by decide) (fun hb48 => ?_) (fun hb48 => ?_)
        · replace hJ := itep hb48 hJ
          exact sw_sub [0, 1, 2, 4] (by rfl) (t_M_holds_55 C hak ih _ _ hJ)
        · replace hJ := iten hb48 hJ
          refine sw_iconst (pc := 51) C (v := (1 : Int32)) dX10_holds_51 (by decide) ?_
          refine sw_goto (pc := 52) (tgt := 56) C dX10_holds_52 (by decide) ?_
          exact sw_sub [0, 1, 2, 4] (by rfl) (t_M_holds_56 C hak ih _ _ _ hJ)
set_option maxHeartbeats 4000000 in
set_option maxRecDepth 100000 in
theorem t_M_holds_18 {p : Program} {l : Launch} {e : Env} {s : State} {m : MethodId} {args : Array Value} {below : List Frame} {meth : Method} {c : Code} {D : va_G} {cy : Nat → ClassId} {ad : Nat → Nat} {A : Nat → Prop} (C : Cx p s m args meth c D cy cX10_holds 5 RX10 (some .boolean) A (wM cy ad)) {X : St} {ak : Nat} {r : Int32} (hak : a7 ak) : ∀ (v2 : Int32) (s0 : Int32), jM_holds_18 X ak v2 s0 = some r → SW p l e ({ frames := 2, cells := 0, slots := 0, locals := 46 } : Room) s m args below meth c D 5 A (wM cy ad) (MQ below (poI D (wM cy ad) A r X) args s 0 0 A) X [(0, .ref (ad 0)), (1, .ref (ad ak)), (2, .int v2)] 18 [.int s0] := by
  intro v2 s0 hJ
  unfold jM_holds_18 at hJ
  refine sw_istore_n (pc := 18) C dX10_holds_18 rfl (by decide) (ll2 := [(3, .int s0), (0, .ref (ad 0)), (1, .ref (ad ak)), (2, .int v2)]) rfl ?_
  refine sw_iconst (pc := 19) C (v := (0 : Int32)) dX10_holds_19 (by decide) ?_
  refine sw_istore (pc := 20) C dX10_holds_20 (by decide) (ll2 := [(4, .int (0 : Int32)), (3, .int s0), (0, .ref (ad 0)), (1, .ref (ad ak)), (2, .int v2)]) rfl ?_
  exact sw_sub [2, 3, 4, 1, 0] (by rfl) (t_M_holds_22 C hak _ _ _ _ hJ)
set_option maxHeartbeats 4000000 in
set_option maxRecDepth 100000 in
theorem t_M_holds {p : Program} {l : Launch} {e : Env} {s : State} {m : MethodId} {args : Array Value} {below : List Frame} {meth : Method} {c : Code} {D : va_G} {cy : Nat → ClassId} {ad : Nat → Nat} {A : Nat → Prop} (C : Cx p s m args meth c D cy cX10_holds 5 RX10 (some .boolean) A (wM cy ad)) {X : St} {ak : Nat} {r : Int32} (hak : a7 ak) : ∀ (a2 : Int32), jM_holds X ak a2 = some r → SW p l e ({ frames := 2, cells := 0, slots := 0, locals := 46 } : Room) s m args below meth c D 5 A (wM cy ad) (MQ below (poI D (wM cy ad) A r X) args s 0 0 A) X [(0, .ref (ad 0)), (1, .ref (ad ak)), (2, .int a2)] 0 [] := by
  intro a2 hJ
  unfold jM_holds at hJ
  refine sw_aload_n (pc := 0) C 0 dX10_holds_0 rfl rfl ?_
  refine sw_aload_n (pc := 1) C 1 dX10_holds_1 rfl rfl ?_
  refine sw_iload_n (pc := 2) C 2 dX10_holds_2 rfl rfl ?_
  obtain ⟨q3, hq3, hJ⟩ := bind_some hJ
  refine sw_callV_i (pc := 3) C (st := []) (As := [.ref (ad ak), .int a2]) (k_M_leansOf C.2.2.2.2.2.2.1 hak hq3) pk_X10_leansOf wd_20_23 0 rfl rfl rfl ⟨Nat.le_of_ble_eq_true rfl, Nat.le_of_ble_eq_true rfl⟩ ⟨rfl, rfl⟩ rfl rfl (Nat.le_of_ble_eq_true rfl) dX10_holds_3 ?_
  refine sw_aload_n (pc := 6) C 0 dX10_holds_6 rfl rfl ?_
  refine gM_0_4 (pc := 7) C wd_5_7 dX10_holds_7 ?_
  refine sw_icmp_gt (pc := 10) (tgt := 17) C dX10_holds_10 (by decide) (fun hb10 => ?_) (fun hb10 => ?_)
  · replace hJ := itep hb10 hJ
    refine sw_iconst (pc := 17) C (v := (0 : Int32)) dX10_holds_17 (by decide) ?_
    exact sw_sub [0, 1, 2] (by rfl) (t_M_holds_18 C hak _ _ hJ)
  · replace hJ := iten hb10 hJ
    refine sw_iconst (pc := 13) C (v := (1 : Int32)) dX10_holds_13 (by decide) ?_
    refine sw_goto (pc := 14) (tgt := 18) C dX10_holds_14 (by decide) ?_
    exact sw_sub [0, 1, 2] (by rfl) (t_M_holds_18 C hak _ _ hJ)
set_option maxHeartbeats 4000000 in
set_option maxRecDepth 100000 in
theorem k_M_holds {l : Launch} {D : va_G} {cy : Nat → ClassId} {ad : Nat → Nat} {A : Nat → Prop} (hD : ∀ X, va_D A (wM cy ad X)) {X : St} {ak : Nat} {a2 : Int32} {r : Int32} (hak : a7 ak) (hJ : jM_holds X ak a2 = some r) : Met l yX10_holds (wsY yX10_holds cX10_holds 5 (some .boolean)) ({ frames := 2, cells := 0, slots := 0, locals := 46 } : Room) (prX D cy (wM cy ad) X [.ref (ad 0), .ref (ad ak), .int a2]) (poI D (wM cy ad) A r X) 0 0 A := sw_met (by decide +kernel) (Nat.le_of_ble_eq_true rfl) hD (fun p e s m args below meth c C => t_M_holds C hak _ hJ)
set_option maxHeartbeats 4000000 in
set_option maxRecDepth 100000 in
theorem t_M_billOf_118 {p : Program} {l : Launch} {e : Env} {s : State} {m : MethodId} {args : Array Value} {below : List Frame} {meth : Method} {c : Code} {D : va_G} {cy : Nat → ClassId} {ad : Nat → Nat} {A : Nat → Prop} (C : Cx p s m args meth c D cy cX10_billOf 7 RX10 (some .int) A (wM cy ad)) {X : St} {ak : Nat} {k5 : Int32 → Int32 → Int32 → Option (Int32)} {r : Int32} (hak : a7 ak) (h5 : ∀ (v2 : Int32) (v3 : Int32) (v4 : Int32), k5 v2 v3 v4 = some r → SW p l e ({ frames := 0, cells := 0, slots := 0, locals := 0 } : Room) s m args below meth c D 7 A (wM cy ad) (MQ below (poI D (wM cy ad) A r X) args s 0 0 A) X [(0, .ref (ad 0)), (1, .ref (ad ak)), (2, .int v2), (3, .int v3), (4, .int v4)] 5 []) : ∀ (v2 : Int32) (v4 : Int32) (s0 : Int32), jM_billOf_118 X ak k5 v2 v4 s0 = some r → SW p l e ({ frames := 0, cells := 0, slots := 0, locals := 0 } : Room) s m args below meth c D 7 A (wM cy ad) (MQ below (poI D (wM cy ad) A r X) args s 0 0 A) X [(0, .ref (ad 0)), (1, .ref (ad ak)), (2, .int v2), (4, .int v4)] 118 [.int s0] := by
  intro v2 v4 s0 hJ
  unfold jM_billOf_118 at hJ
  refine sw_istore_n (pc := 118) C dX10_billOf_118 rfl (by decide) (ll2 := [(3, .int s0), (0, .ref (ad 0)), (1, .ref (ad ak)), (2, .int v2), (4, .int v4)]) rfl ?_
  refine sw_iinc (pc := 119) C 4 dX10_billOf_119 rfl (v := (v4 + (1 : Int32))) (congrArg (fun z => v4 + z) (by decide)) (by decide) (ll2 := [(4, .int (v4 + (1 : Int32))), (3, .int s0), (0, .ref (ad 0)), (1, .ref (ad ak)), (2, .int v2)]) rfl ?_
  refine sw_goto (pc := 122) (tgt := 5) C dX10_billOf_122 (by decide) ?_
  exact sw_sub [2, 3, 4, 1, 0] (by rfl) (h5 _ _ _ hJ)
set_option maxHeartbeats 4000000 in
set_option maxRecDepth 100000 in
theorem t_M_billOf_95 {p : Program} {l : Launch} {e : Env} {s : State} {m : MethodId} {args : Array Value} {below : List Frame} {meth : Method} {c : Code} {D : va_G} {cy : Nat → ClassId} {ad : Nat → Nat} {A : Nat → Prop} (C : Cx p s m args meth c D cy cX10_billOf 7 RX10 (some .int) A (wM cy ad)) {X : St} {ak : Nat} {k5 : Int32 → Int32 → Int32 → Option (Int32)} {r : Int32} (hak : a7 ak) (h5 : ∀ (v2 : Int32) (v3 : Int32) (v4 : Int32), k5 v2 v3 v4 = some r → SW p l e ({ frames := 0, cells := 0, slots := 0, locals := 0 } : Room) s m args below meth c D 7 A (wM cy ad) (MQ below (poI D (wM cy ad) A r X) args s 0 0 A) X [(0, .ref (ad 0)), (1, .ref (ad ak)), (2, .int v2), (3, .int v3), (4, .int v4)] 5 []) : ∀ (v2 : Int32) (v4 : Int32) (s0 : Int32), jM_billOf_95 X ak k5 v2 v4 s0 = some r → SW p l e ({ frames := 0, cells := 0, slots := 0, locals := 0 } : Room) s m args below meth c D 7 A (wM cy ad) (MQ below (poI D (wM cy ad) A r X) args s 0 0 A) X [(0, .ref (ad 0)), (1, .ref (ad ak)), (2, .int v2), (4, .int v4)] 95 [.int s0] := by
  intro v2 v4 s0 hJ
  unfold jM_billOf_95 at hJ
  refine sw_istore_n (pc := 95) C dX10_billOf_95 rfl (by decide) (ll2 := [(3, .int s0), (0, .ref (ad 0)), (1, .ref (ad ak)), (2, .int v2), (4, .int v4)]) rfl ?_
  refine sw_iload_n (pc := 96) C 0 dX10_billOf_96 rfl rfl ?_
  refine sw_if_ge (pc := 97) (tgt := 104) C dX10_billOf_97 (by decide) (fun hb97 => ?_) (fun hb97 => ?_)
  · replace hJ := itep hb97 hJ
    refine sw_iload_n (pc := 104) C 0 dX10_billOf_104 rfl rfl ?_
    refine sw_sipush (pc := 105) C (v := (999 : Int32)) dX10_billOf_105 (by decide) ?_
    refine sw_icmp_le (pc := 108) (tgt := 117) C dX10_billOf_108 (by decide) (fun hb108 => ?_) (fun hb108 => ?_)
    · replace hJ := itep hb108 hJ
      refine sw_iload_n (pc := 117) C 0 dX10_billOf_117 rfl rfl ?_
      exact sw_sub [1, 2, 3, 4] (by rfl) (t_M_billOf_118 C hak h5 _ _ _ hJ)
    · replace hJ := iten hb108 hJ
      refine sw_sipush (pc := 111) C (v := (999 : Int32)) dX10_billOf_111 (by decide) ?_
      refine sw_goto (pc := 114) (tgt := 118) C dX10_billOf_114 (by decide) ?_
      exact sw_sub [1, 2, 3, 4] (by rfl) (t_M_billOf_118 C hak h5 _ _ _ hJ)
  · replace hJ := iten hb97 hJ
    refine sw_iconst (pc := 100) C (v := (0 : Int32)) dX10_billOf_100 (by decide) ?_
    refine sw_goto (pc := 101) (tgt := 118) C dX10_billOf_101 (by decide) ?_
    exact sw_sub [1, 2, 3, 4] (by rfl) (t_M_billOf_118 C hak h5 _ _ _ hJ)
set_option maxHeartbeats 4000000 in
set_option maxRecDepth 100000 in
theorem t_M_billOf_5 {p : Program} {l : Launch} {e : Env} {s : State} {m : MethodId} {args : Array Value} {below : List Frame} {meth : Method} {c : Code} {D : va_G} {cy : Nat → ClassId} {ad : Nat → Nat} {A : Nat → Prop} (C : Cx p s m args meth c D cy cX10_billOf 7 RX10 (some .int) A (wM cy ad)) {X : St} {ak : Nat} {r : Int32} (hak : a7 ak) : ∀ (n : Nat) (v2 : Int32) (v3 : Int32) (v4 : Int32), jM_billOf_5 X ak n v2 v3 v4 = some r → SW p l e ({ frames := 0, cells := 0, slots := 0, locals := 0 } : Room) s m args below meth c D 7 A (wM cy ad) (MQ below (poI D (wM cy ad) A r X) args s 0 0 A) X [(0, .ref (ad 0)), (1, .ref (ad ak)), (2, .int v2), (3, .int v3), (4, .int v4)] 5 [] := by
  intro n
  induction n with
  | zero => intro v2 v3 v4 hJ; exact absurd (show (none : Option (Int32)) = some r from hJ) (fun h => by cases h)
  | succ n ih =>
    intro v2 v3 v4 hJ
    rw [jM_billOf_5] at hJ
    refine sw_iload (pc := 5) C 4 dX10_billOf_5 rfl ?_
    refine sw_iload_n (pc := 7) C 2 dX10_billOf_7 rfl rfl ?_
    refine sw_icmp_ge (pc := 8) (tgt := 125) C dX10_billOf_8 (by decide) (fun hb8 => ?_) (fun hb8 => ?_)
    · replace hJ := itep hb8 hJ
      refine sw_iload_n (pc := 125) C 3 dX10_billOf_125 rfl rfl ?_
      obtain rfl := Option.some.inj hJ
      exact sw_iret (pc := 126) C dX10_billOf_126
    · replace hJ := iten hb8 hJ
      refine sw_aload_n (pc := 11) C 0 dX10_billOf_11 rfl rfl ?_
      refine gM_0_13 (pc := 12) C wd_4_15 dX10_billOf_12 ?_
      refine sw_bipush (pc := 15) C (v := (8 : Int32)) dX10_billOf_15 (by decide) ?_
      refine sw_aload_n (pc := 17) C 1 dX10_billOf_17 rfl rfl ?_
      refine sw_iload (pc := 18) C 4 dX10_billOf_18 rfl ?_
      obtain ⟨hi20, hJ⟩ := gd hJ
      refine lM_a (pc := 20) C hak hi20 dX10_billOf_20 ?_
      refine sw_imul (pc := 21) C dX10_billOf_21 ?_
      refine sw_iconst (pc := 22) C (v := (5 : Int32)) dX10_billOf_22 (by decide) ?_
      refine sw_iadd (pc := 23) C dX10_billOf_23 ?_
      obtain ⟨hi24, hJ⟩ := gd hJ
      refine lM_5 (pc := 24) C hi24 dX10_billOf_24 ?_
      refine sw_istore (pc := 25) C dX10_billOf_25 (by decide) (ll2 := [(5, .int (sA X 5 (((8 : Int32) * (sA X ak v4.toNatClampNeg)) + (5 : Int32)).toNatClampNeg)), (0, .ref (ad 0)), (1, .ref (ad ak)), (2, .int v2), (3, .int v3), (4, .int v4)]) rfl ?_
      refine sw_aload_n (pc := 27) C 1 dX10_billOf_27 rfl rfl ?_
      refine gM_0_13 (pc := 28) C wd_4_15 dX10_billOf_28 ?_
      refine sw_bipush (pc := 31) C (v := (8 : Int32)) dX10_billOf_31 (by decide) ?_
      refine sw_aload_n (pc := 33) C 2 dX10_billOf_33 rfl rfl ?_
      refine sw_iload (pc := 34) C 5 dX10_billOf_34 rfl ?_
      obtain ⟨hi36, hJ⟩ := gd hJ
      refine lM_a (pc := 36) C hak hi36 dX10_billOf_36 ?_
      refine sw_imul (pc := 37) C dX10_billOf_37 ?_
      refine sw_bipush (pc := 38) C (v := (6 : Int32)) dX10_billOf_38 (by decide) ?_
      refine sw_iadd (pc := 40) C dX10_billOf_40 ?_
      obtain ⟨hi41, hJ⟩ := gd hJ
      refine lM_5 (pc := 41) C hi41 dX10_billOf_41 ?_
      refine sw_istore (pc := 42) C dX10_billOf_42 (by decide) (ll2 := [(6, .int (sA X 5 (((8 : Int32) * (sA X ak v4.toNatClampNeg)) + (6 : Int32)).toNatClampNeg)), (5, .int (sA X 5 (((8 : Int32) * (sA X ak v4.toNatClampNeg)) + (5 : Int32)).toNatClampNeg)), (0, .ref (ad 0)), (1, .ref (ad ak)), (2, .int v2), (3, .int v3), (4, .int v4)]) rfl ?_
      refine sw_iload (pc := 44) C 1 dX10_billOf_44 rfl ?_
      refine sw_iconst (pc := 46) C (v := (1 : Int32)) dX10_billOf_46 (by decide) ?_
      refine sw_icmp_ne (pc := 47) (tgt := 57) C dX10_billOf_47 (by decide) (fun hb47 => ?_) (fun hb47 => ?_)
      · replace hJ := iten hb47 hJ
        refine sw_iload (pc := 57) C 1 dX10_billOf_57 rfl ?_
        refine sw_iconst (pc := 59) C (v := (2 : Int32)) dX10_billOf_59 (by decide) ?_
        refine sw_icmp_ne (pc := 60) (tgt := 70) C dX10_billOf_60 (by decide) (fun hb60 => ?_) (fun hb60 => ?_)
        · replace hJ := iten hb60 hJ
          refine sw_iload (pc := 70) C 1 dX10_billOf_70 rfl ?_
          refine sw_iconst (pc := 72) C (v := (3 : Int32)) dX10_billOf_72 (by decide) ?_
          refine sw_icmp_ne (pc := 73) (tgt := 83) C dX10_billOf_73 (by decide) (fun hb73 => ?_) (fun hb73 => ?_)
          · replace hJ := iten hb73 hJ
            refine sw_iload (pc := 83) C 1 dX10_billOf_83 rfl ?_
            refine sw_iconst (pc := 85) C (v := (4 : Int32)) dX10_billOf_85 (by decide) ?_
            refine sw_icmp_ne (pc := 86) (tgt := 94) C dX10_billOf_86 (by decide) (fun hb86 => ?_) (fun hb86 => ?_)
            · replace hJ := iten hb86 hJ
              refine sw_iload_n (pc := 94) C 5 dX10_billOf_94 rfl rfl ?_
              exact sw_sub [2, 3, 4, 6] (by rfl) (t_M_billOf_95 C hak ih _ _ _ hJ)
            · replace hJ := itep hb86 hJ
              refine sw_iload (pc := 89) C 0 dX10_billOf_89 rfl ?_
              refine sw_goto (pc := 91) (tgt := 95) C dX10_billOf_91 (by decide) ?_
              exact sw_sub [2, 3, 4, 6] (by rfl) (t_M_billOf_95 C hak ih _ _ _ hJ)
          · replace hJ := itep hb73 hJ
            refine sw_iload_n (pc := 76) C 5 dX10_billOf_76 rfl rfl ?_
            refine sw_iload (pc := 77) C 0 dX10_billOf_77 rfl ?_
            refine sw_imul (pc := 79) C dX10_billOf_79 ?_
            refine sw_goto (pc := 80) (tgt := 95) C dX10_billOf_80 (by decide) ?_
            exact sw_sub [2, 3, 4, 6] (by rfl) (t_M_billOf_95 C hak ih _ _ _ hJ)
        · replace hJ := itep hb60 hJ
          refine sw_iload_n (pc := 63) C 5 dX10_billOf_63 rfl rfl ?_
          refine sw_iload (pc := 64) C 0 dX10_billOf_64 rfl ?_
          refine sw_isub (pc := 66) C dX10_billOf_66 ?_
          refine sw_goto (pc := 67) (tgt := 95) C dX10_billOf_67 (by decide) ?_
          exact sw_sub [2, 3, 4, 6] (by rfl) (t_M_billOf_95 C hak ih _ _ _ hJ)
      · replace hJ := itep hb47 hJ
        refine sw_iload_n (pc := 50) C 5 dX10_billOf_50 rfl rfl ?_
        refine sw_iload (pc := 51) C 0 dX10_billOf_51 rfl ?_
        refine sw_iadd (pc := 53) C dX10_billOf_53 ?_
        refine sw_goto (pc := 54) (tgt := 95) C dX10_billOf_54 (by decide) ?_
        exact sw_sub [2, 3, 4, 6] (by rfl) (t_M_billOf_95 C hak ih _ _ _ hJ)
set_option maxHeartbeats 4000000 in
set_option maxRecDepth 100000 in
theorem t_M_billOf {p : Program} {l : Launch} {e : Env} {s : State} {m : MethodId} {args : Array Value} {below : List Frame} {meth : Method} {c : Code} {D : va_G} {cy : Nat → ClassId} {ad : Nat → Nat} {A : Nat → Prop} (C : Cx p s m args meth c D cy cX10_billOf 7 RX10 (some .int) A (wM cy ad)) {X : St} {ak : Nat} {r : Int32} (hak : a7 ak) : ∀ (a2 : Int32), jM_billOf X ak a2 = some r → SW p l e ({ frames := 0, cells := 0, slots := 0, locals := 0 } : Room) s m args below meth c D 7 A (wM cy ad) (MQ below (poI D (wM cy ad) A r X) args s 0 0 A) X [(0, .ref (ad 0)), (1, .ref (ad ak)), (2, .int a2)] 0 [] := by
  intro a2 hJ
  unfold jM_billOf at hJ
  refine sw_iconst (pc := 0) C (v := (0 : Int32)) dX10_billOf_0 (by decide) ?_
  refine sw_istore_n (pc := 1) C dX10_billOf_1 rfl (by decide) (ll2 := [(3, .int (0 : Int32)), (0, .ref (ad 0)), (1, .ref (ad ak)), (2, .int a2)]) rfl ?_
  refine sw_iconst (pc := 2) C (v := (0 : Int32)) dX10_billOf_2 (by decide) ?_
  refine sw_istore (pc := 3) C dX10_billOf_3 (by decide) (ll2 := [(4, .int (0 : Int32)), (3, .int (0 : Int32)), (0, .ref (ad 0)), (1, .ref (ad ak)), (2, .int a2)]) rfl ?_
  exact sw_sub [2, 3, 4, 1, 0] (by rfl) (t_M_billOf_5 C hak _ _ _ _ hJ)
set_option maxHeartbeats 4000000 in
set_option maxRecDepth 100000 in
theorem k_M_billOf {l : Launch} {D : va_G} {cy : Nat → ClassId} {ad : Nat → Nat} {A : Nat → Prop} (hD : ∀ X, va_D A (wM cy ad X)) {X : St} {ak : Nat} {a2 : Int32} {r : Int32} (hak : a7 ak) (hJ : jM_billOf X ak a2 = some r) : Met l yX10_billOf (wsY yX10_billOf cX10_billOf 7 (some .int)) ({ frames := 0, cells := 0, slots := 0, locals := 0 } : Room) (prX D cy (wM cy ad) X [.ref (ad 0), .ref (ad ak), .int a2]) (poI D (wM cy ad) A r X) 0 0 A := sw_met (by decide +kernel) (Nat.le_of_ble_eq_true rfl) hD (fun p e s m args below meth c C => t_M_billOf C hak _ hJ)
set_option maxHeartbeats 4000000 in
set_option maxRecDepth 100000 in
theorem t_M_setOf_4 {p : Program} {l : Launch} {e : Env} {s : State} {m : MethodId} {args : Array Value} {below : List Frame} {meth : Method} {c : Code} {D : va_G} {cy : Nat → ClassId} {ad : Nat → Nat} {A : Nat → Prop} (C : Cx p s m args meth c D cy cX10_setOf 4 RX10 (some .int) A (wM cy ad)) {X : St} {ak : Nat} {r : Int32} (hak : a7 ak) : ∀ (n : Nat) (v1 : Int32) (v2 : Int32) (v3 : Int32), jM_setOf_4 X ak n v1 v2 v3 = some r → SW p l e ({ frames := 0, cells := 0, slots := 0, locals := 0 } : Room) s m args below meth c D 4 A (wM cy ad) (MQ below (poI D (wM cy ad) A r X) args s 0 0 A) X [(0, .ref (ad ak)), (1, .int v1), (2, .int v2), (3, .int v3)] 4 [] := by
  intro n
  induction n with
  | zero => intro v1 v2 v3 hJ; exact absurd (show (none : Option (Int32)) = some r from hJ) (fun h => by cases h)
  | succ n ih =>
    intro v1 v2 v3 hJ
    rw [jM_setOf_4] at hJ
    refine sw_iload_n (pc := 4) C 3 dX10_setOf_4 rfl rfl ?_
    refine sw_iload_n (pc := 5) C 1 dX10_setOf_5 rfl rfl ?_
    refine sw_icmp_ge (pc := 6) (tgt := 23) C dX10_setOf_6 (by decide) (fun hb6 => ?_) (fun hb6 => ?_)
    · replace hJ := itep hb6 hJ
      refine sw_iload_n (pc := 23) C 2 dX10_setOf_23 rfl rfl ?_
      obtain rfl := Option.some.inj hJ
      exact sw_iret (pc := 24) C dX10_setOf_24
    · replace hJ := iten hb6 hJ
      refine sw_iload_n (pc := 9) C 2 dX10_setOf_9 rfl rfl ?_
      refine sw_iconst (pc := 10) C (v := (1 : Int32)) dX10_setOf_10 (by decide) ?_
      refine sw_aload_n (pc := 11) C 0 dX10_setOf_11 rfl rfl ?_
      refine sw_iload_n (pc := 12) C 3 dX10_setOf_12 rfl rfl ?_
      obtain ⟨hi13, hJ⟩ := gd hJ
      refine lM_a (pc := 13) C hak hi13 dX10_setOf_13 ?_
      refine sw_ishl (pc := 14) C dX10_setOf_14 ?_
      refine sw_ior (pc := 15) C dX10_setOf_15 ?_
      refine sw_istore_n (pc := 16) C dX10_setOf_16 rfl (by decide) (ll2 := [(2, .int (v2 ||| ((1 : Int32) <<< ((sA X ak v3.toNatClampNeg) &&& 31)))), (0, .ref (ad ak)), (1, .int v1), (3, .int v3)]) rfl ?_
      refine sw_iinc (pc := 17) C 3 dX10_setOf_17 rfl (v := (v3 + (1 : Int32))) (congrArg (fun z => v3 + z) (by decide)) (by decide) (ll2 := [(3, .int (v3 + (1 : Int32))), (2, .int (v2 ||| ((1 : Int32) <<< ((sA X ak v3.toNatClampNeg) &&& 31)))), (0, .ref (ad ak)), (1, .int v1)]) rfl ?_
      refine sw_goto (pc := 20) (tgt := 4) C dX10_setOf_20 (by decide) ?_
      exact sw_sub [2, 3, 1, 0] (by rfl) (ih _ _ _ hJ)
set_option maxHeartbeats 4000000 in
set_option maxRecDepth 100000 in
theorem t_M_setOf {p : Program} {l : Launch} {e : Env} {s : State} {m : MethodId} {args : Array Value} {below : List Frame} {meth : Method} {c : Code} {D : va_G} {cy : Nat → ClassId} {ad : Nat → Nat} {A : Nat → Prop} (C : Cx p s m args meth c D cy cX10_setOf 4 RX10 (some .int) A (wM cy ad)) {X : St} {ak : Nat} {r : Int32} (hak : a7 ak) : ∀ (a1 : Int32), jM_setOf X ak a1 = some r → SW p l e ({ frames := 0, cells := 0, slots := 0, locals := 0 } : Room) s m args below meth c D 4 A (wM cy ad) (MQ below (poI D (wM cy ad) A r X) args s 0 0 A) X [(0, .ref (ad ak)), (1, .int a1)] 0 [] := by
  intro a1 hJ
  unfold jM_setOf at hJ
  refine sw_iconst (pc := 0) C (v := (0 : Int32)) dX10_setOf_0 (by decide) ?_
  refine sw_istore_n (pc := 1) C dX10_setOf_1 rfl (by decide) (ll2 := [(2, .int (0 : Int32)), (0, .ref (ad ak)), (1, .int a1)]) rfl ?_
  refine sw_iconst (pc := 2) C (v := (0 : Int32)) dX10_setOf_2 (by decide) ?_
  refine sw_istore_n (pc := 3) C dX10_setOf_3 rfl (by decide) (ll2 := [(3, .int (0 : Int32)), (2, .int (0 : Int32)), (0, .ref (ad ak)), (1, .int a1)]) rfl ?_
  exact sw_sub [2, 3, 1, 0] (by rfl) (t_M_setOf_4 C hak _ _ _ _ hJ)
set_option maxHeartbeats 4000000 in
set_option maxRecDepth 100000 in
theorem k_M_setOf {l : Launch} {D : va_G} {cy : Nat → ClassId} {ad : Nat → Nat} {A : Nat → Prop} (hD : ∀ X, va_D A (wM cy ad X)) {X : St} {ak : Nat} {a1 : Int32} {r : Int32} (hak : a7 ak) (hJ : jM_setOf X ak a1 = some r) : Met l yX10_setOf (wsY yX10_setOf cX10_setOf 4 (some .int)) ({ frames := 0, cells := 0, slots := 0, locals := 0 } : Room) (prX D cy (wM cy ad) X [.ref (ad ak), .int a1]) (poI D (wM cy ad) A r X) 0 0 A := sw_met (by decide +kernel) (Nat.le_of_ble_eq_true rfl) hD (fun p e s m args below meth c C => t_M_setOf C hak _ hJ)
set_option maxHeartbeats 4000000 in
set_option maxRecDepth 100000 in
theorem t_M_mayRise {p : Program} {l : Launch} {e : Env} {s : State} {m : MethodId} {args : Array Value} {below : List Frame} {meth : Method} {c : Code} {D : va_G} {cy : Nat → ClassId} {ad : Nat → Nat} {A : Nat → Prop} (C : Cx p s m args meth c D cy cX10_mayRise 5 RX10 (some .boolean) A (wM cy ad)) {X : St} {ak : Nat} {r : Int32} (hak : a7 ak) : ∀ (a1 : Int32) (a3 : Int32), jM_mayRise X ak a1 a3 = some r → SW p l e ({ frames := 1, cells := 0, slots := 0, locals := 23 } : Room) s m args below meth c D 5 A (wM cy ad) (MQ below (poI D (wM cy ad) A r X) args s 0 0 A) X [(0, .ref (ad 0)), (1, .int a1), (2, .ref (ad ak)), (3, .int a3)] 0 [] := by
  intro a1 a3 hJ
  unfold jM_mayRise at hJ
  refine sw_aload_n (pc := 0) C 2 dX10_mayRise_0 rfl rfl ?_
  refine sw_iload_n (pc := 1) C 3 dX10_mayRise_1 rfl rfl ?_
  obtain ⟨q2, hq2, hJ⟩ := bind_some hJ
  refine sw_callS_i (pc := 2) C (st := []) (As := [.ref (ad ak), .int a3]) (k_M_setOf C.2.2.2.2.2.2.1 hak hq2) pk_X10_setOf wd_19_11 ⟨Nat.le_of_ble_eq_true rfl, Nat.le_of_ble_eq_true rfl⟩ ⟨rfl, rfl⟩ rfl rfl (Nat.le_of_ble_eq_true rfl) dX10_mayRise_2 ?_
  refine sw_istore (pc := 5) C dX10_mayRise_5 (by decide) (ll2 := [(4, .int q2), (0, .ref (ad 0)), (1, .int a1), (2, .ref (ad ak)), (3, .int a3)]) rfl ?_
  refine sw_iload (pc := 7) C 0 dX10_mayRise_7 rfl ?_
  refine sw_iload_n (pc := 9) C 2 dX10_mayRise_9 rfl rfl ?_
  refine sw_ishr (pc := 10) C dX10_mayRise_10 ?_
  refine sw_iconst (pc := 11) C (v := (1 : Int32)) dX10_mayRise_11 (by decide) ?_
  refine sw_iand (pc := 12) C dX10_mayRise_12 ?_
  refine sw_if_ne (pc := 13) (tgt := 34) C dX10_mayRise_13 (by decide) (fun hb13 => ?_) (fun hb13 => ?_)
  · replace hJ := iten hb13 hJ
    refine sw_iconst (pc := 34) C (v := (0 : Int32)) dX10_mayRise_34 (by decide) ?_
    obtain rfl := Option.some.inj hJ
    exact sw_zret (pc := 35) (v := (0 : Int32)) C (by decide) dX10_mayRise_35
  · replace hJ := itep hb13 hJ
    refine sw_aload_n (pc := 16) C 1 dX10_mayRise_16 rfl rfl ?_
    refine gM_0_2 (pc := 17) C wd_4_12 dX10_mayRise_17 ?_
    refine sw_iload_n (pc := 20) C 2 dX10_mayRise_20 rfl rfl ?_
    obtain ⟨hi21, hJ⟩ := gd hJ
    refine lM_2 (pc := 21) C hi21 dX10_mayRise_21 ?_
    refine sw_iload (pc := 22) C 0 dX10_mayRise_22 rfl ?_
    refine sw_iconst (pc := 24) C (v := (-1 : Int32)) dX10_mayRise_24 (by decide) ?_
    refine sw_ixor (pc := 25) C dX10_mayRise_25 ?_
    refine sw_iand (pc := 26) C dX10_mayRise_26 ?_
    refine sw_if_ne (pc := 27) (tgt := 34) C dX10_mayRise_27 (by decide) (fun hb27 => ?_) (fun hb27 => ?_)
    · replace hJ := iten hb27 hJ
      refine sw_iconst (pc := 34) C (v := (0 : Int32)) dX10_mayRise_34 (by decide) ?_
      obtain rfl := Option.some.inj hJ
      exact sw_zret (pc := 35) (v := (0 : Int32)) C (by decide) dX10_mayRise_35
    · replace hJ := itep hb27 hJ
      refine sw_iconst (pc := 30) C (v := (1 : Int32)) dX10_mayRise_30 (by decide) ?_
      refine sw_goto (pc := 31) (tgt := 35) C dX10_mayRise_31 (by decide) ?_
      obtain rfl := Option.some.inj hJ
      exact sw_zret (pc := 35) (v := (1 : Int32)) C (by decide) dX10_mayRise_35
set_option maxHeartbeats 4000000 in
set_option maxRecDepth 100000 in
theorem k_M_mayRise {l : Launch} {D : va_G} {cy : Nat → ClassId} {ad : Nat → Nat} {A : Nat → Prop} (hD : ∀ X, va_D A (wM cy ad X)) {X : St} {ak : Nat} {a1 : Int32} {a3 : Int32} {r : Int32} (hak : a7 ak) (hJ : jM_mayRise X ak a1 a3 = some r) : Met l yX10_mayRise (wsY yX10_mayRise cX10_mayRise 5 (some .boolean)) ({ frames := 1, cells := 0, slots := 0, locals := 23 } : Room) (prX D cy (wM cy ad) X [.ref (ad 0), .int a1, .ref (ad ak), .int a3]) (poI D (wM cy ad) A r X) 0 0 A := sw_met (by decide +kernel) (Nat.le_of_ble_eq_true rfl) hD (fun p e s m args below meth c C => t_M_mayRise C hak _ _ hJ)
